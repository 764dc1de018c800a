/-! X1_addFormula -/
noncomputable def T_X1_addFormula_0 (v0 : Nat) (v1 : Int32) (v2 : Nat) (σ : sS) : Option (sZ Int32) :=
  (s_fi σ v0 1 2).bind fun x1 =>
  if x1 < 30 then ((s_fr σ v0 1 11).bind fun x2 =>
  (s_fi σ v0 1 2).bind fun x3 =>
  (s_si σ x2 x3 v1).bind fun σ4 =>
  some (.inl (23, [.ref v0, .int v1, .ref v2, .int 0], σ4)))
  else (some (.inr ((-1), σ)))
noncomputable def U_X1_addFormula_0 (vs : List Value) (σ : sS) : Option (sZ Int32) := (g_r vs).bind fun a0 => (g_i a0.2).bind fun a1 => (g_r a1.2).bind fun a2 => (g_e a2.2).bind fun _ => T_X1_addFormula_0 a0.1 a1.1 a2.1 σ
noncomputable def T_X1_addFormula_23 (v0 : Nat) (v1 : Int32) (v2 : Nat) (v3 : Int32) (σ : sS) : Option (sZ Int32) :=
  (F_X1_words v0 σ).bind fun q1 =>
  if q1.1 ≤ v3 then ((s_fi q1.2 v0 1 2).bind fun x2 =>
  (s_pf q1.2 v0 1 2 (.int (x2 + 1))).bind fun σ3 =>
  some (.inr (x2, σ3)))
  else ((s_fr q1.2 v0 1 3).bind fun x4 =>
  (s_fi q1.2 v0 1 2).bind fun x5 =>
  (s_fi q1.2 v0 1 0).bind fun x6 =>
  (F_X2_truth v2 v1 v3 x6 q1.2).bind fun q7 =>
  (s_sl q7.2 x4 ((x5 * 16) + v3) q7.1).bind fun σ8 =>
  some (.inl (23, [.ref v0, .int v1, .ref v2, .int (v3 + 1)], σ8)))
noncomputable def U_X1_addFormula_23 (vs : List Value) (σ : sS) : Option (sZ Int32) := (g_r vs).bind fun a0 => (g_i a0.2).bind fun a1 => (g_r a1.2).bind fun a2 => (g_i a2.2).bind fun a3 => (g_e a3.2).bind fun _ => T_X1_addFormula_23 a0.1 a1.1 a2.1 a3.1 σ
noncomputable def S_X1_addFormula (x : sL) : Option (sZ Int32) := if x.1 = 0 then U_X1_addFormula_0 x.2.1 x.2.2 else if x.1 = 23 then U_X1_addFormula_23 x.2.1 x.2.2 else none
def Y_X1_addFormula (pc : Nat) : List Nat := if pc = 0 then [0, 1, 2] else if pc = 23 then [0, 1, 2, 3] else []
noncomputable def F_X1_addFormula (v0 : Nat) (v1 : Int32) (v2 : Nat) (σ : sS) : Option (Int32 × sS) := (s_is σ v0 1).bind fun _ => s_run S_X1_addFormula (0, [.ref v0, .int v1, .ref v2], σ)
theorem l_X1_addFormula_0 {v0 : Nat} {v1 : Int32} {v2 : Nat} {σ : sS} {z : sZ Int32} (hf : T_X1_addFormula_0 v0 v1 v2 σ = some z) : s_lz σ z := by
  unfold T_X1_addFormula_0 at hf
  obtain ⟨x1, -, hf⟩ := s_bind hf
  rcases s_ite hf with ⟨-, hf⟩ | ⟨-, hf⟩
  · obtain ⟨x2, -, hf⟩ := s_bind hf
    obtain ⟨x3, -, hf⟩ := s_bind hf
    obtain ⟨σ4, hh, hf⟩ := s_bind hf
    refine s_lz.tr (s_le2 (s_si_2 hh)) ?_
    cases hf
    exact s_le.rf
  · cases hf
    exact s_le.rf
theorem l_X1_addFormula_23 {v0 : Nat} {v1 : Int32} {v2 : Nat} {v3 : Int32} {σ : sS} {z : sZ Int32} (hf : T_X1_addFormula_23 v0 v1 v2 v3 σ = some z) : s_lz σ z := by
  unfold T_X1_addFormula_23 at hf
  obtain ⟨q1, hh, hf⟩ := s_bind hf
  refine s_lz.tr (l_X1_words hh) ?_
  rcases s_ite hf with ⟨-, hf⟩ | ⟨-, hf⟩
  · obtain ⟨x2, -, hf⟩ := s_bind hf
    obtain ⟨σ3, hh, hf⟩ := s_bind hf
    refine s_lz.tr (s_le2 (s_pf_2 hh)) ?_
    cases hf
    exact s_le.rf
  · obtain ⟨x4, -, hf⟩ := s_bind hf
    obtain ⟨x5, -, hf⟩ := s_bind hf
    obtain ⟨x6, -, hf⟩ := s_bind hf
    obtain ⟨q7, hh, hf⟩ := s_bind hf
    refine s_lz.tr (l_X2_truth hh) ?_
    obtain ⟨σ8, hh, hf⟩ := s_bind hf
    refine s_lz.tr (s_le2 (s_sl_2 hh)) ?_
    cases hf
    exact s_le.rf
theorem l_X1_addFormula_s {x : sL} {z : sZ Int32} (hs : S_X1_addFormula x = some z) : s_lz x.2.2 z := by
  obtain ⟨pc, vs, σ⟩ := x
  unfold S_X1_addFormula at hs
  dsimp only at hs ⊢
  rcases s_ite hs with ⟨c, hs⟩ | ⟨-, hs⟩
  · subst c
    unfold U_X1_addFormula_0 at hs
    obtain ⟨a0, g0, hs⟩ := s_bind hs
    obtain ⟨a1, g1, hs⟩ := s_bind hs
    obtain ⟨a2, g2, hs⟩ := s_bind hs
    obtain ⟨u9, ge, hs⟩ := s_bind hs
    exact l_X1_addFormula_0 hs
  rcases s_ite hs with ⟨c, hs⟩ | ⟨-, hs⟩
  · subst c
    unfold U_X1_addFormula_23 at hs
    obtain ⟨a0, g0, hs⟩ := s_bind hs
    obtain ⟨a1, g1, hs⟩ := s_bind hs
    obtain ⟨a2, g2, hs⟩ := s_bind hs
    obtain ⟨a3, g3, hs⟩ := s_bind hs
    obtain ⟨u9, ge, hs⟩ := s_bind hs
    exact l_X1_addFormula_23 hs
  cases hs
theorem l_X1_addFormula {v0 : Nat} {v1 : Int32} {v2 : Nat} {σ : sS} {q : Int32 × sS} (h : F_X1_addFormula v0 v1 v2 σ = some q) : s_le σ q.2 := by
  unfold F_X1_addFormula at h
  obtain ⟨-, -, h⟩ := s_bind h
  exact s_run_ind (V := fun x r => s_le x.2.2 r.2) (fun x z r hs hk => by
    have h9 := l_X1_addFormula_s hs
    cases z with
    | inl y => exact s_le.tr h9 hk
    | inr q => cases hk; exact h9) h
theorem b_X1_addFormula {v0 : Nat} {v1 : Int32} {v2 : Nat} {σ : sS} {q : Int32 × sS} (h : F_X1_addFormula v0 v1 v2 σ = some q) : ∃ fs, σ.1 v0 = some (.inr (1, fs)) := by
  unfold F_X1_addFormula at h
  obtain ⟨u, hu, -⟩ := s_bind h
  exact s_is_to hu
set_option maxRecDepth 100000 in
set_option maxHeartbeats 4000000 in
theorem v_X1_addFormula_0 {G : sG} {d : Nat} {vs0 : List Value} {σ0 : sS} {v0 : Nat} {v1 : Int32} {v2 : Nat} {σ : sS} {z : sZ Int32} {r : Int32 × sS} (hf : T_X1_addFormula_0 v0 v1 v2 σ = some z) (k : s_K G (d + 68) M_X1_addFormula vs0 σ0 Y_X1_addFormula e_I z r) : s_V G (d + 68) M_X1_addFormula vs0 σ0 Y_X1_addFormula (0, [.ref v0, .int v1, .ref v2], σ) (e_I r) := by
  have le0 : s_le σ (e_I r).2 := s_lek hem_I (l_X1_addFormula_0 hf) k
  refine ⟨le0, ?_⟩
  intro p e s m below meth c H locs cells slots ls X I hn1 hn2 hl
  have hn : cells + σ0.2.1 ≤ σ.2.1 ∧ slots + σ0.2.2.1 ≤ σ.2.2.1 := ⟨hn1, hn2⟩
  have hl : lv_has ls 4 [(0, .ref v0), (1, .int v1), (2, .ref v2)] := hl
  have hx := X.1
  have hb : c.code = cX1_addFormula := X.2.1
  have hown : s.vm.findClass RX1 = some m.cls := X.2.2.2.2.2.1
  have hts := X.2.2.2.2.2.2.1
  refine W.eq (g2 := F0 m 0 ls []) rfl ?_
  unfold T_X1_addFormula_0 at hf
  obtain ⟨x1, h1, hf⟩ := s_bind hf
  refine lv_aload_n hx hb dX1_addFormula_0 rfl (lv_at hl 0 rfl) ?_
  refine r_gi X I fl_X1_48 h1 dX1_addFormula_1 ?_
  refine lv_bipush (v := 30) hx hb dX1_addFormula_4 (by decide) ?_
  rcases s_ite hf with ⟨c2, hf⟩ | ⟨c2, hf⟩
  · refine lv_icmp_lt (tgt := 11) hx hb dX1_addFormula_6 (by decide) (fun _ => ?_) (fun n => absurd c2 n)
    obtain ⟨x2, h3, hf⟩ := s_bind hf
    obtain ⟨x3, h4, hf⟩ := s_bind hf
    obtain ⟨σ4, h5, hf⟩ := s_bind hf
    cases hf
    have k : s_V G (d + 68) M_X1_addFormula vs0 σ0 Y_X1_addFormula (23, [.ref v0, .int v1, .ref v2, .int 0], σ4) (e_I r) := k
    have le6 : s_le σ4 (e_I r).2 := k.1
    refine lv_aload_n hx hb dX1_addFormula_11 rfl (lv_at hl 0 rfl) ?_
    refine r_gr X I fl_X1_32 h3 dX1_addFormula_12 ?_
    refine lv_aload_n hx hb dX1_addFormula_15 rfl (lv_at hl 0 rfl) ?_
    refine r_gi X I fl_X1_48 h4 dX1_addFormula_16 ?_
    refine lv_iload_n hx hb dX1_addFormula_19 rfl (lv_at hl 1 rfl) ?_
    refine r_iast X I h5 dX1_addFormula_20 (fun H locs I => ?_)
    have hn := s_k2 (s_si_2 h5) hn
    refine lv_iconst (v := 0) hx hb dX1_addFormula_21 (by decide) ?_
    refine lv_istore_n (lv' := [(3, .int 0), (0, .ref v0), (1, .int v1), (2, .ref v2)]) hx hb dX1_addFormula_22 rfl hl (by decide) rfl (fun ls hl => ?_)
    exact k.2 p e s m below meth c _ _ _ _ _ X I hn.1 hn.2 (lv_sub hl [1, 2, 3, 0] rfl)
  · refine lv_icmp_lt (tgt := 11) hx hb dX1_addFormula_6 (by decide) (fun n => absurd n c2) (fun _ => ?_)
    cases hf
    have k : _ = r := k
    subst k
    refine lv_iconst (v := (-1)) hx hb dX1_addFormula_9 (by decide) ?_
    exact r_iret X I rfl rfl rfl hn dX1_addFormula_10
set_option maxRecDepth 100000 in
set_option maxHeartbeats 4000000 in
theorem v_X1_addFormula_23 {G : sG} {d : Nat} {vs0 : List Value} {σ0 : sS} {v0 : Nat} {v1 : Int32} {v2 : Nat} {v3 : Int32} {σ : sS} {z : sZ Int32} {r : Int32 × sS} (hf : T_X1_addFormula_23 v0 v1 v2 v3 σ = some z) (k : s_K G (d + 68) M_X1_addFormula vs0 σ0 Y_X1_addFormula e_I z r) : s_V G (d + 68) M_X1_addFormula vs0 σ0 Y_X1_addFormula (23, [.ref v0, .int v1, .ref v2, .int v3], σ) (e_I r) := by
  have le0 : s_le σ (e_I r).2 := s_lek hem_I (l_X1_addFormula_23 hf) k
  refine ⟨le0, ?_⟩
  intro p e s m below meth c H locs cells slots ls X I hn1 hn2 hl
  have hn : cells + σ0.2.1 ≤ σ.2.1 ∧ slots + σ0.2.2.1 ≤ σ.2.2.1 := ⟨hn1, hn2⟩
  have hl : lv_has ls 4 [(0, .ref v0), (1, .int v1), (2, .ref v2), (3, .int v3)] := hl
  have hx := X.1
  have hb : c.code = cX1_addFormula := X.2.1
  have hown : s.vm.findClass RX1 = some m.cls := X.2.2.2.2.2.1
  have hts := X.2.2.2.2.2.2.1
  refine W.eq (g2 := F0 m 23 ls []) rfl ?_
  unfold T_X1_addFormula_23 at hf
  obtain ⟨q1, h1, hf⟩ := s_bind hf
  have le2 : s_le q1.2 (e_I r).2 := by
    refine s_lek hem_I ?_ k
    rcases s_ite hf with ⟨-, hf⟩ | ⟨-, hf⟩
    · obtain ⟨x2, -, hf⟩ := s_bind hf
      obtain ⟨σ3, hh, hf⟩ := s_bind hf
      refine s_lz.tr (s_le2 (s_pf_2 hh)) ?_
      cases hf
      exact s_le.rf
    · obtain ⟨x4, -, hf⟩ := s_bind hf
      obtain ⟨x5, -, hf⟩ := s_bind hf
      obtain ⟨x6, -, hf⟩ := s_bind hf
      obtain ⟨q7, hh, hf⟩ := s_bind hf
      refine s_lz.tr (l_X2_truth hh) ?_
      obtain ⟨σ8, hh, hf⟩ := s_bind hf
      refine s_lz.tr (s_le2 (s_sl_2 hh)) ?_
      cases hf
      exact s_le.rf
  refine lv_iload_n hx hb dX1_addFormula_23 rfl (lv_at hl 3 rfl) ?_
  refine lv_aload_n hx hb dX1_addFormula_24 rfl (lv_at hl 0 rfl) ?_
  refine r_callV (Y := M_X1_words) (v := some (.int q1.1)) X I w_955 my_X1_words (by omega) (t_X1_words (G := G) (d := d + 65) h1) (b_X1_words h1) rfl rfl hl.1 rfl (Nat.le_of_ble_eq_true rfl) hn le2 dX1_addFormula_25 (fun H locs cells slots I hn1 hn2 => ?_)
  have I : s_I G q1.2 s H locs := I
  have hn : cells + σ0.2.1 ≤ q1.2.2.1 ∧ slots + σ0.2.2.1 ≤ q1.2.2.2.1 := ⟨hn1, hn2⟩
  rcases s_ite hf with ⟨c3, hf⟩ | ⟨c3, hf⟩
  · refine lv_icmp_ge (tgt := 61) hx hb dX1_addFormula_28 (by decide) (fun _ => ?_) (fun n => absurd c3 n)
    obtain ⟨x2, h4, hf⟩ := s_bind hf
    obtain ⟨σ3, h5, hf⟩ := s_bind hf
    cases hf
    have k : _ = r := k
    subst k
    have le6 : s_le σ3 σ3 := s_le.rf
    refine lv_aload_n hx hb dX1_addFormula_61 rfl (lv_at hl 0 rfl) ?_
    refine lv_dup hx hb dX1_addFormula_62 rfl ?_
    refine r_gi X I fl_X1_48 h4 dX1_addFormula_63 ?_
    refine lv_dup_x1 hx hb dX1_addFormula_66 rfl rfl ?_
    refine lv_iconst (v := 1) hx hb dX1_addFormula_67 (by decide) ?_
    refine lv_iadd hx hb dX1_addFormula_68 ?_
    refine r_put X I fp_X1_48 (fun h => by cases h) h5 rfl rfl dX1_addFormula_69 (fun H locs I => ?_)
    have hn := s_k2 (s_pf_2 h5) hn
    exact r_iret X I rfl rfl rfl hn dX1_addFormula_72
  · refine lv_icmp_ge (tgt := 61) hx hb dX1_addFormula_28 (by decide) (fun n => absurd n c3) (fun _ => ?_)
    obtain ⟨x4, h7, hf⟩ := s_bind hf
    obtain ⟨x5, h8, hf⟩ := s_bind hf
    obtain ⟨x6, h9, hf⟩ := s_bind hf
    obtain ⟨q7, h10, hf⟩ := s_bind hf
    obtain ⟨σ8, h11, hf⟩ := s_bind hf
    cases hf
    have k : s_V G (d + 68) M_X1_addFormula vs0 σ0 Y_X1_addFormula (23, [.ref v0, .int v1, .ref v2, .int (v3 + 1)], σ8) (e_I r) := k
    have le12 : s_le σ8 (e_I r).2 := k.1
    have le13 := s_le.tr (s_le2 (s_sl_2 h11)) le12
    refine lv_aload_n hx hb dX1_addFormula_31 rfl (lv_at hl 0 rfl) ?_
    refine r_gr X I fl_X1_15 h7 dX1_addFormula_32 ?_
    refine lv_aload_n hx hb dX1_addFormula_35 rfl (lv_at hl 0 rfl) ?_
    refine r_gi X I fl_X1_48 h8 dX1_addFormula_36 ?_
    refine lv_bipush (v := 16) hx hb dX1_addFormula_39 (by decide) ?_
    refine lv_imul hx hb dX1_addFormula_41 ?_
    refine lv_iload_n hx hb dX1_addFormula_42 rfl (lv_at hl 3 rfl) ?_
    refine lv_iadd hx hb dX1_addFormula_43 ?_
    refine lv_aload_n hx hb dX1_addFormula_44 rfl (lv_at hl 2 rfl) ?_
    refine lv_iload_n hx hb dX1_addFormula_45 rfl (lv_at hl 1 rfl) ?_
    refine lv_iload_n hx hb dX1_addFormula_46 rfl (lv_at hl 3 rfl) ?_
    refine lv_aload_n hx hb dX1_addFormula_47 rfl (lv_at hl 0 rfl) ?_
    refine r_gi X I fl_X1_9 h9 dX1_addFormula_48 ?_
    refine r_callV (Y := M_X2_truth) (v := some (.long q7.1)) X I w_963 my_X2_truth (by omega) (t_X2_truth (G := G) (d := d + 0) h10) (b_X2_truth h10) rfl rfl hl.1 rfl (Nat.le_of_ble_eq_true rfl) hn le13 dX1_addFormula_51 (fun H locs cells slots I hn1 hn2 => ?_)
    have I : s_I G q7.2 s H locs := I
    have hn : cells + σ0.2.1 ≤ q7.2.2.1 ∧ slots + σ0.2.2.1 ≤ q7.2.2.2.1 := ⟨hn1, hn2⟩
    refine r_last X I h11 dX1_addFormula_54 (fun H locs I => ?_)
    have hn := s_k2 (s_sl_2 h11) hn
    refine lv_iinc (v := (v3 + 1)) (lv' := [(3, .int (v3 + 1)), (0, .ref v0), (1, .int v1), (2, .ref v2)]) hx hb dX1_addFormula_55 hl (k := 3) rfl rfl (by decide) rfl (fun ls hl => ?_)
    refine lv_goto (tgt := 23) hx hb dX1_addFormula_58 (by decide) ?_
    exact k.2 p e s m below meth c _ _ _ _ _ X I hn.1 hn.2 (lv_sub hl [1, 2, 3, 0] rfl)
theorem v_X1_addFormula {G : sG} {d : Nat} {vs0 : List Value} {σ0 : sS} {x : sL} {z : sZ Int32} {r : Int32 × sS} (hs : S_X1_addFormula x = some z) (k : s_K G (d + 68) M_X1_addFormula vs0 σ0 Y_X1_addFormula e_I z r) : s_V G (d + 68) M_X1_addFormula vs0 σ0 Y_X1_addFormula x (e_I r) := by
  obtain ⟨pc, vs, σ⟩ := x
  unfold S_X1_addFormula at hs
  dsimp only at hs
  rcases s_ite hs with ⟨c, hs⟩ | ⟨-, hs⟩
  · subst c
    unfold U_X1_addFormula_0 at hs
    obtain ⟨a0, g0, hs⟩ := s_bind hs
    obtain ⟨a1, g1, hs⟩ := s_bind hs
    obtain ⟨a2, g2, hs⟩ := s_bind hs
    obtain ⟨u9, ge, hs⟩ := s_bind hs
    rw [g_r_to g0, g_i_to g1, g_r_to g2, g_e_to ge]
    exact v_X1_addFormula_0 hs k
  rcases s_ite hs with ⟨c, hs⟩ | ⟨-, hs⟩
  · subst c
    unfold U_X1_addFormula_23 at hs
    obtain ⟨a0, g0, hs⟩ := s_bind hs
    obtain ⟨a1, g1, hs⟩ := s_bind hs
    obtain ⟨a2, g2, hs⟩ := s_bind hs
    obtain ⟨a3, g3, hs⟩ := s_bind hs
    obtain ⟨u9, ge, hs⟩ := s_bind hs
    rw [g_r_to g0, g_i_to g1, g_r_to g2, g_i_to g3, g_e_to ge]
    exact v_X1_addFormula_23 hs k
  cases hs
theorem t_X1_addFormula {G : sG} {d : Nat} {v0 : Nat} {v1 : Int32} {v2 : Nat} {σ : sS} {q : Int32 × sS} (h : F_X1_addFormula v0 v1 v2 σ = some q) : s_T G (d + 68) M_X1_addFormula [.ref v0, .int v1, .ref v2] σ (e_I q) := by
  unfold F_X1_addFormula at h
  obtain ⟨-, -, h⟩ := s_bind h
  exact s_ofV rfl (by decide) (Nat.le_of_ble_eq_true rfl) rfl rfl (s_run_ind (V := fun x r => s_V G (d + 68) M_X1_addFormula [.ref v0, .int v1, .ref v2] σ Y_X1_addFormula x (e_I r)) (fun x z r hs hk => v_X1_addFormula hs (by cases z <;> exact hk)) h)
/-! X7_formula -/
noncomputable def T_X7_formula_0 (v0 : Nat) (σ : sS) : Option (sZ (Int32 ⊕ String)) :=
  (s_fr σ v0 7 3).bind fun x1 =>
  (s_fr σ v0 7 1).bind fun x2 =>
  (s_fi σ x2 1 0).bind fun x3 =>
  (F_X5_read x1 x3 σ).bind fun q4 =>
  if q4.1 = (-1) then ((s_fr q4.2 v0 7 0).bind fun x18 =>
  (s_fr q4.2 v0 7 1).bind fun x19 =>
  (s_fi q4.2 x19 1 1).bind fun x20 =>
  (F_X2_cut x18 x20 q4.2).bind fun q21 =>
  some (.inr (.inr "java/lang/IllegalArgumentException", s_ex q21.2)))
  else ((s_fr q4.2 v0 7 1).bind fun x5 =>
  (s_fi q4.2 x5 1 2).bind fun x6 =>
  if x6 < 30 then ((s_fr q4.2 v0 7 1).bind fun x7 =>
  (s_fr q4.2 v0 7 0).bind fun x8 =>
  (s_fi q4.2 x8 2 0).bind fun x9 =>
  (s_pf q4.2 x7 1 1 (.int x9)).bind fun σ10 =>
  (s_fr σ10 v0 7 1).bind fun x11 =>
  (s_fr σ10 v0 7 0).bind fun x12 =>
  (F_X1_addFormula x11 q4.1 x12 σ10).bind fun q13 =>
  some (.inr (.inl q13.1, q13.2)))
  else ((s_fr q4.2 v0 7 0).bind fun x14 =>
  (s_fr q4.2 v0 7 1).bind fun x15 =>
  (s_fi q4.2 x15 1 1).bind fun x16 =>
  (F_X2_cut x14 x16 q4.2).bind fun q17 =>
  some (.inr (.inr "java/lang/UnsupportedOperationException", s_ex q17.2))))
noncomputable def U_X7_formula_0 (vs : List Value) (σ : sS) : Option (sZ (Int32 ⊕ String)) := (g_r vs).bind fun a0 => (g_e a0.2).bind fun _ => T_X7_formula_0 a0.1 σ
noncomputable def S_X7_formula (x : sL) : Option (sZ (Int32 ⊕ String)) := if x.1 = 0 then U_X7_formula_0 x.2.1 x.2.2 else none
def Y_X7_formula (pc : Nat) : List Nat := if pc = 0 then [0] else []
noncomputable def F_X7_formula (v0 : Nat) (σ : sS) : Option ((Int32 ⊕ String) × sS) := (s_is σ v0 7).bind fun _ => s_run S_X7_formula (0, [.ref v0], σ)
theorem l_X7_formula_0 {v0 : Nat} {σ : sS} {z : sZ (Int32 ⊕ String)} (hf : T_X7_formula_0 v0 σ = some z) : s_lz σ z := by
  unfold T_X7_formula_0 at hf
  obtain ⟨x1, -, hf⟩ := s_bind hf
  obtain ⟨x2, -, hf⟩ := s_bind hf
  obtain ⟨x3, -, hf⟩ := s_bind hf
  obtain ⟨q4, hh, hf⟩ := s_bind hf
  refine s_lz.tr (l_X5_read hh) ?_
  rcases s_ite hf with ⟨-, hf⟩ | ⟨-, hf⟩
  · obtain ⟨x18, -, hf⟩ := s_bind hf
    obtain ⟨x19, -, hf⟩ := s_bind hf
    obtain ⟨x20, -, hf⟩ := s_bind hf
    obtain ⟨q21, hh, hf⟩ := s_bind hf
    refine s_lz.tr (l_X2_cut hh) ?_
    cases hf
    exact s_ex_le
  · obtain ⟨x5, -, hf⟩ := s_bind hf
    obtain ⟨x6, -, hf⟩ := s_bind hf
    rcases s_ite hf with ⟨-, hf⟩ | ⟨-, hf⟩
    · obtain ⟨x7, -, hf⟩ := s_bind hf
      obtain ⟨x8, -, hf⟩ := s_bind hf
      obtain ⟨x9, -, hf⟩ := s_bind hf
      obtain ⟨σ10, hh, hf⟩ := s_bind hf
      refine s_lz.tr (s_le2 (s_pf_2 hh)) ?_
      obtain ⟨x11, -, hf⟩ := s_bind hf
      obtain ⟨x12, -, hf⟩ := s_bind hf
      obtain ⟨q13, hh, hf⟩ := s_bind hf
      refine s_lz.tr (l_X1_addFormula hh) ?_
      cases hf
      exact s_le.rf
    · obtain ⟨x14, -, hf⟩ := s_bind hf
      obtain ⟨x15, -, hf⟩ := s_bind hf
      obtain ⟨x16, -, hf⟩ := s_bind hf
      obtain ⟨q17, hh, hf⟩ := s_bind hf
      refine s_lz.tr (l_X2_cut hh) ?_
      cases hf
      exact s_ex_le
theorem l_X7_formula_s {x : sL} {z : sZ (Int32 ⊕ String)} (hs : S_X7_formula x = some z) : s_lz x.2.2 z := by
  obtain ⟨pc, vs, σ⟩ := x
  unfold S_X7_formula at hs
  dsimp only at hs ⊢
  rcases s_ite hs with ⟨c, hs⟩ | ⟨-, hs⟩
  · subst c
    unfold U_X7_formula_0 at hs
    obtain ⟨a0, g0, hs⟩ := s_bind hs
    obtain ⟨u9, ge, hs⟩ := s_bind hs
    exact l_X7_formula_0 hs
  cases hs
theorem l_X7_formula {v0 : Nat} {σ : sS} {q : (Int32 ⊕ String) × sS} (h : F_X7_formula v0 σ = some q) : s_le σ q.2 := by
  unfold F_X7_formula at h
  obtain ⟨-, -, h⟩ := s_bind h
  exact s_run_ind (V := fun x r => s_le x.2.2 r.2) (fun x z r hs hk => by
    have h9 := l_X7_formula_s hs
    cases z with
    | inl y => exact s_le.tr h9 hk
    | inr q => cases hk; exact h9) h
theorem b_X7_formula {v0 : Nat} {σ : sS} {q : (Int32 ⊕ String) × sS} (h : F_X7_formula v0 σ = some q) : ∃ fs, σ.1 v0 = some (.inr (7, fs)) := by
  unfold F_X7_formula at h
  obtain ⟨u, hu, -⟩ := s_bind h
  exact s_is_to hu
set_option maxRecDepth 100000 in
set_option maxHeartbeats 4000000 in
theorem v_X7_formula_0 {G : sG} {d : Nat} {vs0 : List Value} {σ0 : sS} {v0 : Nat} {σ : sS} {z : sZ (Int32 ⊕ String)} {r : (Int32 ⊕ String) × sS} (hf : T_X7_formula_0 v0 σ = some z) (k : s_K G (d + 137) M_X7_formula vs0 σ0 Y_X7_formula e_IX z r) : s_V G (d + 137) M_X7_formula vs0 σ0 Y_X7_formula (0, [.ref v0], σ) (e_IX r) := by
  have le0 : s_le σ (e_IX r).2 := s_lek hem_IX (l_X7_formula_0 hf) k
  refine ⟨le0, ?_⟩
  intro p e s m below meth c H locs cells slots ls X I hn1 hn2 hl
  have hn : cells + σ0.2.1 ≤ σ.2.1 ∧ slots + σ0.2.2.1 ≤ σ.2.2.1 := ⟨hn1, hn2⟩
  have hl : lv_has ls 2 [(0, .ref v0)] := hl
  have hx := X.1
  have hb : c.code = cX7_formula := X.2.1
  have hown : s.vm.findClass RX7 = some m.cls := X.2.2.2.2.2.1
  have hts := X.2.2.2.2.2.2.1
  refine W.eq (g2 := F0 m 0 ls []) rfl ?_
  unfold T_X7_formula_0 at hf
  obtain ⟨x1, h1, hf⟩ := s_bind hf
  obtain ⟨x2, h2, hf⟩ := s_bind hf
  obtain ⟨x3, h3, hf⟩ := s_bind hf
  obtain ⟨q4, h4, hf⟩ := s_bind hf
  have le5 : s_le q4.2 (e_IX r).2 := by
    refine s_lek hem_IX ?_ k
    rcases s_ite hf with ⟨-, hf⟩ | ⟨-, hf⟩
    · obtain ⟨x18, -, hf⟩ := s_bind hf
      obtain ⟨x19, -, hf⟩ := s_bind hf
      obtain ⟨x20, -, hf⟩ := s_bind hf
      obtain ⟨q21, hh, hf⟩ := s_bind hf
      refine s_lz.tr (l_X2_cut hh) ?_
      cases hf
      exact s_ex_le
    · obtain ⟨x5, -, hf⟩ := s_bind hf
      obtain ⟨x6, -, hf⟩ := s_bind hf
      rcases s_ite hf with ⟨-, hf⟩ | ⟨-, hf⟩
      · obtain ⟨x7, -, hf⟩ := s_bind hf
        obtain ⟨x8, -, hf⟩ := s_bind hf
        obtain ⟨x9, -, hf⟩ := s_bind hf
        obtain ⟨σ10, hh, hf⟩ := s_bind hf
        refine s_lz.tr (s_le2 (s_pf_2 hh)) ?_
        obtain ⟨x11, -, hf⟩ := s_bind hf
        obtain ⟨x12, -, hf⟩ := s_bind hf
        obtain ⟨q13, hh, hf⟩ := s_bind hf
        refine s_lz.tr (l_X1_addFormula hh) ?_
        cases hf
        exact s_le.rf
      · obtain ⟨x14, -, hf⟩ := s_bind hf
        obtain ⟨x15, -, hf⟩ := s_bind hf
        obtain ⟨x16, -, hf⟩ := s_bind hf
        obtain ⟨q17, hh, hf⟩ := s_bind hf
        refine s_lz.tr (l_X2_cut hh) ?_
        cases hf
        exact s_ex_le
  refine lv_aload_n hx hb dX7_formula_0 rfl (lv_at hl 0 rfl) ?_
  refine r_gr X I fl_X7_31 h1 dX7_formula_1 ?_
  refine lv_aload_n hx hb dX7_formula_4 rfl (lv_at hl 0 rfl) ?_
  refine r_gr X I fl_X7_19 h2 dX7_formula_5 ?_
  refine r_gi X I fl_X7_84 h3 dX7_formula_8 ?_
  refine r_callV (Y := M_X5_read) (v := some (.int q4.1)) X I w_697 my_X5_read (by omega) (t_X5_read (G := G) (d := d + 0) h4) (b_X5_read h4) rfl rfl hl.1 rfl (Nat.le_of_ble_eq_true rfl) hn le5 dX7_formula_11 (fun H locs cells slots I hn1 hn2 => ?_)
  have I : s_I G q4.2 s H locs := I
  have hn : cells + σ0.2.1 ≤ q4.2.2.1 ∧ slots + σ0.2.2.1 ≤ q4.2.2.2.1 := ⟨hn1, hn2⟩
  refine lv_istore_n (lv' := [(1, .int q4.1), (0, .ref v0)]) hx hb dX7_formula_14 rfl hl (by decide) rfl (fun ls hl => ?_)
  refine lv_iload_n hx hb dX7_formula_15 rfl (lv_at hl 0 rfl) ?_
  refine lv_iconst (v := (-1)) hx hb dX7_formula_16 (by decide) ?_
  rcases s_ite hf with ⟨c6, hf⟩ | ⟨c6, hf⟩
  · refine lv_icmp_ne (tgt := 44) hx hb dX7_formula_17 (by decide) (fun n => absurd c6 n) (fun _ => ?_)
    obtain ⟨x18, h7, hf⟩ := s_bind hf
    obtain ⟨x19, h8, hf⟩ := s_bind hf
    obtain ⟨x20, h9, hf⟩ := s_bind hf
    obtain ⟨q21, h10, hf⟩ := s_bind hf
    cases hf
    have k : _ = r := k
    subst k
    have le11 : s_le q21.2 (s_ex q21.2) := s_ex_le
    refine lv_aload_n hx hb dX7_formula_20 rfl (lv_at hl 1 rfl) ?_
    refine r_gr X I fl_X7_12 h7 dX7_formula_21 ?_
    refine lv_aload_n hx hb dX7_formula_24 rfl (lv_at hl 1 rfl) ?_
    refine r_gr X I fl_X7_19 h8 dX7_formula_25 ?_
    refine r_gi X I fl_X7_91 h9 dX7_formula_28 ?_
    refine r_callV (Y := M_X2_cut) (v := none) X I w_660 my_X2_cut (by omega) (t_X2_cut (G := G) (d := d + 135) h10) (b_X2_cut h10) rfl rfl hl.1 rfl (Nat.le_of_ble_eq_true rfl) hn le11 dX7_formula_31 (fun H locs cells slots I hn1 hn2 => ?_)
    have I : s_I G q21.2 s H locs := I
    have hn : cells + σ0.2.1 ≤ q21.2.2.1 ∧ slots + σ0.2.2.1 ≤ q21.2.2.2.1 := ⟨hn1, hn2⟩
    exact r_throw X I rfl th_X7_96_98 hl.1 (Nat.le_of_ble_eq_true rfl) hn rfl dX7_formula_34 dX7_formula_37 dX7_formula_38 dX7_formula_40 dX7_formula_43
  · refine lv_icmp_ne (tgt := 44) hx hb dX7_formula_17 (by decide) (fun _ => ?_) (fun n => absurd n c6)
    obtain ⟨x5, h12, hf⟩ := s_bind hf
    obtain ⟨x6, h13, hf⟩ := s_bind hf
    refine lv_aload_n hx hb dX7_formula_44 rfl (lv_at hl 1 rfl) ?_
    refine r_gr X I fl_X7_19 h12 dX7_formula_45 ?_
    refine r_gi X I fl_X7_103 h13 dX7_formula_48 ?_
    refine lv_bipush (v := 30) hx hb dX7_formula_51 (by decide) ?_
    rcases s_ite hf with ⟨c14, hf⟩ | ⟨c14, hf⟩
    · refine lv_icmp_lt (tgt := 80) hx hb dX7_formula_53 (by decide) (fun _ => ?_) (fun n => absurd c14 n)
      obtain ⟨x7, h15, hf⟩ := s_bind hf
      obtain ⟨x8, h16, hf⟩ := s_bind hf
      obtain ⟨x9, h17, hf⟩ := s_bind hf
      obtain ⟨σ10, h18, hf⟩ := s_bind hf
      obtain ⟨x11, h19, hf⟩ := s_bind hf
      obtain ⟨x12, h20, hf⟩ := s_bind hf
      obtain ⟨q13, h21, hf⟩ := s_bind hf
      cases hf
      have k : _ = r := k
      subst k
      have le22 : s_le q13.2 q13.2 := s_le.rf
      have le23 := s_le.tr (l_X1_addFormula h21) le22
      refine lv_aload_n hx hb dX7_formula_80 rfl (lv_at hl 1 rfl) ?_
      refine r_gr X I fl_X7_19 h15 dX7_formula_81 ?_
      refine lv_aload_n hx hb dX7_formula_84 rfl (lv_at hl 1 rfl) ?_
      refine r_gr X I fl_X7_12 h16 dX7_formula_85 ?_
      refine r_gi X I fl_X7_111 h17 dX7_formula_88 ?_
      refine r_put X I fp_X7_91 (fun h => by cases h) h18 rfl rfl dX7_formula_91 (fun H locs I => ?_)
      have hn := s_k2 (s_pf_2 h18) hn
      refine lv_aload_n hx hb dX7_formula_94 rfl (lv_at hl 1 rfl) ?_
      refine r_gr X I fl_X7_19 h19 dX7_formula_95 ?_
      refine lv_iload_n hx hb dX7_formula_98 rfl (lv_at hl 0 rfl) ?_
      refine lv_aload_n hx hb dX7_formula_99 rfl (lv_at hl 1 rfl) ?_
      refine r_gr X I fl_X7_12 h20 dX7_formula_100 ?_
      refine r_callV (Y := M_X1_addFormula) (v := some (.int q13.1)) X I w_951 my_X1_addFormula (by omega) (t_X1_addFormula (G := G) (d := d + 68) h21) (b_X1_addFormula h21) rfl rfl hl.1 rfl (Nat.le_of_ble_eq_true rfl) hn le22 dX7_formula_103 (fun H locs cells slots I hn1 hn2 => ?_)
      have I : s_I G q13.2 s H locs := I
      have hn : cells + σ0.2.1 ≤ q13.2.2.1 ∧ slots + σ0.2.2.1 ≤ q13.2.2.2.1 := ⟨hn1, hn2⟩
      exact r_iret X I rfl rfl rfl hn dX7_formula_106
    · refine lv_icmp_lt (tgt := 80) hx hb dX7_formula_53 (by decide) (fun n => absurd n c14) (fun _ => ?_)
      obtain ⟨x14, h24, hf⟩ := s_bind hf
      obtain ⟨x15, h25, hf⟩ := s_bind hf
      obtain ⟨x16, h26, hf⟩ := s_bind hf
      obtain ⟨q17, h27, hf⟩ := s_bind hf
      cases hf
      have k : _ = r := k
      subst k
      have le28 : s_le q17.2 (s_ex q17.2) := s_ex_le
      refine lv_aload_n hx hb dX7_formula_56 rfl (lv_at hl 1 rfl) ?_
      refine r_gr X I fl_X7_12 h24 dX7_formula_57 ?_
      refine lv_aload_n hx hb dX7_formula_60 rfl (lv_at hl 1 rfl) ?_
      refine r_gr X I fl_X7_19 h25 dX7_formula_61 ?_
      refine r_gi X I fl_X7_91 h26 dX7_formula_64 ?_
      refine r_callV (Y := M_X2_cut) (v := none) X I w_660 my_X2_cut (by omega) (t_X2_cut (G := G) (d := d + 135) h27) (b_X2_cut h27) rfl rfl hl.1 rfl (Nat.le_of_ble_eq_true rfl) hn le28 dX7_formula_67 (fun H locs cells slots I hn1 hn2 => ?_)
      have I : s_I G q17.2 s H locs := I
      have hn : cells + σ0.2.1 ≤ q17.2.2.1 ∧ slots + σ0.2.2.1 ≤ q17.2.2.2.1 := ⟨hn1, hn2⟩
      exact r_throw X I rfl th_X7_106_108 hl.1 (Nat.le_of_ble_eq_true rfl) hn rfl dX7_formula_70 dX7_formula_73 dX7_formula_74 dX7_formula_76 dX7_formula_79
theorem v_X7_formula {G : sG} {d : Nat} {vs0 : List Value} {σ0 : sS} {x : sL} {z : sZ (Int32 ⊕ String)} {r : (Int32 ⊕ String) × sS} (hs : S_X7_formula x = some z) (k : s_K G (d + 137) M_X7_formula vs0 σ0 Y_X7_formula e_IX z r) : s_V G (d + 137) M_X7_formula vs0 σ0 Y_X7_formula x (e_IX r) := by
  obtain ⟨pc, vs, σ⟩ := x
  unfold S_X7_formula at hs
  dsimp only at hs
  rcases s_ite hs with ⟨c, hs⟩ | ⟨-, hs⟩
  · subst c
    unfold U_X7_formula_0 at hs
    obtain ⟨a0, g0, hs⟩ := s_bind hs
    obtain ⟨u9, ge, hs⟩ := s_bind hs
    rw [g_r_to g0, g_e_to ge]
    exact v_X7_formula_0 hs k
  cases hs
theorem t_X7_formula {G : sG} {d : Nat} {v0 : Nat} {σ : sS} {q : (Int32 ⊕ String) × sS} (h : F_X7_formula v0 σ = some q) : s_T G (d + 137) M_X7_formula [.ref v0] σ (e_IX q) := by
  unfold F_X7_formula at h
  obtain ⟨-, -, h⟩ := s_bind h
  exact s_ofV rfl (by decide) (Nat.le_of_ble_eq_true rfl) rfl rfl (s_run_ind (V := fun x r => s_V G (d + 137) M_X7_formula [.ref v0] σ Y_X7_formula x (e_IX r)) (fun x z r hs hk => v_X7_formula hs (by cases z <;> exact hk)) h)
/-! L_formula -/
noncomputable def T_L_formula_0 (v0 : Nat) (v1 : Nat) (σ : sS) : Option (sZ Int32) :=
  (F_X7_formula v0 σ).bind fun q1 => s_sum q1.1 (fun x2 => (s_sl q1.2 v1 0 ((x2 : Int32).toInt64)).bind fun σ4 =>
  some (.inr (0, σ4))) (fun E3 => if E3 = "java/lang/IllegalArgumentException" then (some (.inr (1, q1.2))) else if E3 = "java/lang/UnsupportedOperationException" then (some (.inr (2, q1.2))) else none)
noncomputable def U_L_formula_0 (vs : List Value) (σ : sS) : Option (sZ Int32) := (g_r vs).bind fun a0 => (g_r a0.2).bind fun a1 => (g_e a1.2).bind fun _ => T_L_formula_0 a0.1 a1.1 σ
noncomputable def S_L_formula (x : sL) : Option (sZ Int32) := if x.1 = 0 then U_L_formula_0 x.2.1 x.2.2 else none
def Y_L_formula (pc : Nat) : List Nat := if pc = 0 then [0, 1] else []
noncomputable def F_L_formula (v0 : Nat) (v1 : Nat) (σ : sS) : Option (Int32 × sS) := s_run S_L_formula (0, [.ref v0, .ref v1], σ)
theorem hp_L_formula_3_1 : s_pass RL "java/lang/UnsupportedOperationException" 3 [(0, 8, 11, 13)] := fun z hz => by
  simp only [List.mem_cons, List.not_mem_nil, or_false] at hz
  rcases hz with rfl
  · exact ⟨rfl, by decide, "java/lang/IllegalArgumentException", w_691, by decide +kernel⟩
theorem l_L_formula_0 {v0 : Nat} {v1 : Nat} {σ : sS} {z : sZ Int32} (hf : T_L_formula_0 v0 v1 σ = some z) : s_lz σ z := by
  unfold T_L_formula_0 at hf
  obtain ⟨q1, hh, hf⟩ := s_bind hf
  refine s_lz.tr (l_X7_formula hh) ?_
  rcases s_sum_some hf with ⟨x2, -, hf⟩ | ⟨E3, -, hf⟩
  · obtain ⟨σ4, hh, hf⟩ := s_bind hf
    refine s_lz.tr (s_le2 (s_sl_2 hh)) ?_
    cases hf
    exact s_le.rf
  · rcases s_ite hf with ⟨-, hf⟩ | ⟨-, hf⟩
    · cases hf
      exact s_le.rf
    rcases s_ite hf with ⟨-, hf⟩ | ⟨-, hf⟩
    · cases hf
      exact s_le.rf
    cases hf
theorem l_L_formula_s {x : sL} {z : sZ Int32} (hs : S_L_formula x = some z) : s_lz x.2.2 z := by
  obtain ⟨pc, vs, σ⟩ := x
  unfold S_L_formula at hs
  dsimp only at hs ⊢
  rcases s_ite hs with ⟨c, hs⟩ | ⟨-, hs⟩
  · subst c
    unfold U_L_formula_0 at hs
    obtain ⟨a0, g0, hs⟩ := s_bind hs
    obtain ⟨a1, g1, hs⟩ := s_bind hs
    obtain ⟨u9, ge, hs⟩ := s_bind hs
    exact l_L_formula_0 hs
  cases hs
theorem l_L_formula {v0 : Nat} {v1 : Nat} {σ : sS} {q : Int32 × sS} (h : F_L_formula v0 v1 σ = some q) : s_le σ q.2 := by
  unfold F_L_formula at h
  exact s_run_ind (V := fun x r => s_le x.2.2 r.2) (fun x z r hs hk => by
    have h9 := l_L_formula_s hs
    cases z with
    | inl y => exact s_le.tr h9 hk
    | inr q => cases hk; exact h9) h
set_option maxRecDepth 100000 in
set_option maxHeartbeats 4000000 in
theorem v_L_formula_0 {G : sG} {d : Nat} {vs0 : List Value} {σ0 : sS} {v0 : Nat} {v1 : Nat} {σ : sS} {z : sZ Int32} {r : Int32 × sS} (hf : T_L_formula_0 v0 v1 σ = some z) (k : s_K G (d + 138) M_L_formula vs0 σ0 Y_L_formula e_I z r) : s_V G (d + 138) M_L_formula vs0 σ0 Y_L_formula (0, [.ref v0, .ref v1], σ) (e_I r) := by
  have le0 : s_le σ (e_I r).2 := s_lek hem_I (l_L_formula_0 hf) k
  refine ⟨le0, ?_⟩
  intro p e s m below meth c H locs cells slots ls X I hn1 hn2 hl
  have hn : cells + σ0.2.1 ≤ σ.2.1 ∧ slots + σ0.2.2.1 ≤ σ.2.2.1 := ⟨hn1, hn2⟩
  have hl : lv_has ls 3 [(0, .ref v0), (1, .ref v1)] := hl
  have hx := X.1
  have hb : c.code = cL_formula := X.2.1
  have hown : s.vm.findClass RL = some m.cls := X.2.2.2.2.2.1
  have hts := X.2.2.2.2.2.2.1
  refine W.eq (g2 := F0 m 0 ls []) rfl ?_
  unfold T_L_formula_0 at hf
  obtain ⟨q1, h1, hf⟩ := s_bind hf
  refine lv_aload_n hx hb dL_formula_0 rfl (lv_at hl 1 rfl) ?_
  refine lv_iconst (v := 0) hx hb dL_formula_1 (by decide) ?_
  refine lv_aload_n hx hb dL_formula_2 rfl (lv_at hl 0 rfl) ?_
  rcases s_sum_some hf with ⟨x2, hq2, hf⟩ | ⟨E3, hq2, hf⟩
  · have le3 : s_le q1.2 (e_I r).2 := by
      refine s_lek hem_I ?_ k
      obtain ⟨σ4, hh, hf⟩ := s_bind hf
      refine s_lz.tr (s_le2 (s_sl_2 hh)) ?_
      cases hf
      exact s_le.rf
    refine r_callV (Y := M_X7_formula) (v := some (.int x2)) X I w_693 my_X7_formula (by omega) (t_X7_formula (G := G) (d := d + 0) h1) (b_X7_formula h1) (e_IX_l hq2) rfl hl.1 rfl (Nat.le_of_ble_eq_true rfl) hn le3 dL_formula_3 (fun H locs cells slots I hn1 hn2 => ?_)
    have I : s_I G q1.2 s H locs := I
    have hn : cells + σ0.2.1 ≤ q1.2.2.1 ∧ slots + σ0.2.2.1 ≤ q1.2.2.2.1 := ⟨hn1, hn2⟩
    obtain ⟨σ4, h4, hf⟩ := s_bind hf
    cases hf
    have k : _ = r := k
    subst k
    have le5 : s_le σ4 σ4 := s_le.rf
    refine lv_i2l hx hb dL_formula_6 rfl ?_
    refine r_last X I h4 dL_formula_7 (fun H locs I => ?_)
    have hn := s_k2 (s_sl_2 h4) hn
    refine lv_goto (tgt := 17) hx hb dL_formula_8 (by decide) ?_
    refine lv_iconst (v := 0) hx hb dL_formula_17 (by decide) ?_
    exact r_iret X I rfl rfl rfl hn dL_formula_18
  · rcases s_ite hf with ⟨c6, hf⟩ | ⟨c6, hf⟩
    · subst c6
      have le7 : s_le q1.2 (e_I r).2 := by
        refine s_lek hem_I ?_ k
        cases hf
        exact s_le.rf
      refine r_callVh (x := (0, 8, 11, 13)) (Y := M_X7_formula) (E := "java/lang/IllegalArgumentException") (name := "java/lang/IllegalArgumentException") X I [] [(0, 8, 14, 15)] rfl (fun z hz => by cases hz) rfl (by decide) w_691 (by decide +kernel) w_693 my_X7_formula (by omega) (t_X7_formula (G := G) (d := d + 0) h1) (b_X7_formula h1) (e_IX_r hq2) rfl hl.1 rfl (Nat.le_of_ble_eq_true rfl) hn le7 dL_formula_3 (fun a5 H locs cells slots I hn1 hn2 => ?_)
      have I : s_I G q1.2 s H locs := I
      have hn : cells + σ0.2.1 ≤ q1.2.2.1 ∧ slots + σ0.2.2.1 ≤ q1.2.2.2.1 := ⟨hn1, hn2⟩
      cases hf
      have k : _ = r := k
      subst k
      refine lv_astore_n (lv' := [(2, .ref a5), (0, .ref v0), (1, .ref v1)]) hx hb dL_formula_11 rfl hl (by decide) rfl (fun ls hl => ?_)
      refine lv_iconst (v := 1) hx hb dL_formula_12 (by decide) ?_
      exact r_iret X I rfl rfl rfl hn dL_formula_13
    rcases s_ite hf with ⟨c8, hf⟩ | ⟨c8, hf⟩
    · subst c8
      have le9 : s_le q1.2 (e_I r).2 := by
        refine s_lek hem_I ?_ k
        cases hf
        exact s_le.rf
      refine r_callVh (x := (0, 8, 14, 15)) (Y := M_X7_formula) (E := "java/lang/UnsupportedOperationException") (name := "java/lang/UnsupportedOperationException") X I [(0, 8, 11, 13)] [] rfl hp_L_formula_3_1 rfl (by decide) w_692 (by decide +kernel) w_693 my_X7_formula (by omega) (t_X7_formula (G := G) (d := d + 0) h1) (b_X7_formula h1) (e_IX_r hq2) rfl hl.1 rfl (Nat.le_of_ble_eq_true rfl) hn le9 dL_formula_3 (fun a6 H locs cells slots I hn1 hn2 => ?_)
      have I : s_I G q1.2 s H locs := I
      have hn : cells + σ0.2.1 ≤ q1.2.2.1 ∧ slots + σ0.2.2.1 ≤ q1.2.2.2.1 := ⟨hn1, hn2⟩
      cases hf
      have k : _ = r := k
      subst k
      refine lv_astore_n (lv' := [(2, .ref a6), (0, .ref v0), (1, .ref v1)]) hx hb dL_formula_14 rfl hl (by decide) rfl (fun ls hl => ?_)
      refine lv_iconst (v := 2) hx hb dL_formula_15 (by decide) ?_
      exact r_iret X I rfl rfl rfl hn dL_formula_16
    cases hf
theorem v_L_formula {G : sG} {d : Nat} {vs0 : List Value} {σ0 : sS} {x : sL} {z : sZ Int32} {r : Int32 × sS} (hs : S_L_formula x = some z) (k : s_K G (d + 138) M_L_formula vs0 σ0 Y_L_formula e_I z r) : s_V G (d + 138) M_L_formula vs0 σ0 Y_L_formula x (e_I r) := by
  obtain ⟨pc, vs, σ⟩ := x
  unfold S_L_formula at hs
  dsimp only at hs
  rcases s_ite hs with ⟨c, hs⟩ | ⟨-, hs⟩
  · subst c
    unfold U_L_formula_0 at hs
    obtain ⟨a0, g0, hs⟩ := s_bind hs
    obtain ⟨a1, g1, hs⟩ := s_bind hs
    obtain ⟨u9, ge, hs⟩ := s_bind hs
    rw [g_r_to g0, g_r_to g1, g_e_to ge]
    exact v_L_formula_0 hs k
  cases hs
theorem t_L_formula {G : sG} {d : Nat} {v0 : Nat} {v1 : Nat} {σ : sS} {q : Int32 × sS} (h : F_L_formula v0 v1 σ = some q) : s_T G (d + 138) M_L_formula [.ref v0, .ref v1] σ (e_I q) := by
  unfold F_L_formula at h
  exact s_ofVH rfl (by decide) (Nat.le_of_ble_eq_true rfl) rfl rfl (s_run_ind (V := fun x r => s_V G (d + 138) M_L_formula [.ref v0, .ref v1] σ Y_L_formula x (e_I r)) (fun x z r hs hk => v_L_formula hs (by cases z <;> exact hk)) h)
/-! X1_costOf -/
noncomputable def T_X1_costOf_0 (v0 : Nat) (v1 : Int32) (v2 : Int32) (v3 : Int32) (σ : sS) : Option (sZ Int32) :=
  (F_X1_priceOf v0 v1 v2 σ).bind fun q1 =>
  (F_X1_priceOf v0 v1 16 q1.2).bind fun q2 =>
  some (.inr ((q1.1 + (v3 * q2.1)), q2.2))
noncomputable def U_X1_costOf_0 (vs : List Value) (σ : sS) : Option (sZ Int32) := (g_r vs).bind fun a0 => (g_i a0.2).bind fun a1 => (g_i a1.2).bind fun a2 => (g_i a2.2).bind fun a3 => (g_e a3.2).bind fun _ => T_X1_costOf_0 a0.1 a1.1 a2.1 a3.1 σ
noncomputable def S_X1_costOf (x : sL) : Option (sZ Int32) := if x.1 = 0 then U_X1_costOf_0 x.2.1 x.2.2 else none
def Y_X1_costOf (pc : Nat) : List Nat := if pc = 0 then [0, 1, 2, 3] else []
noncomputable def F_X1_costOf (v0 : Nat) (v1 : Int32) (v2 : Int32) (v3 : Int32) (σ : sS) : Option (Int32 × sS) := (s_is σ v0 1).bind fun _ => s_run S_X1_costOf (0, [.ref v0, .int v1, .int v2, .int v3], σ)
theorem l_X1_costOf_0 {v0 : Nat} {v1 : Int32} {v2 : Int32} {v3 : Int32} {σ : sS} {z : sZ Int32} (hf : T_X1_costOf_0 v0 v1 v2 v3 σ = some z) : s_lz σ z := by
  unfold T_X1_costOf_0 at hf
  obtain ⟨q1, hh, hf⟩ := s_bind hf
  refine s_lz.tr (l_X1_priceOf hh) ?_
  obtain ⟨q2, hh, hf⟩ := s_bind hf
  refine s_lz.tr (l_X1_priceOf hh) ?_
  cases hf
  exact s_le.rf
theorem l_X1_costOf_s {x : sL} {z : sZ Int32} (hs : S_X1_costOf x = some z) : s_lz x.2.2 z := by
  obtain ⟨pc, vs, σ⟩ := x
  unfold S_X1_costOf at hs
  dsimp only at hs ⊢
  rcases s_ite hs with ⟨c, hs⟩ | ⟨-, hs⟩
  · subst c
    unfold U_X1_costOf_0 at hs
    obtain ⟨a0, g0, hs⟩ := s_bind hs
    obtain ⟨a1, g1, hs⟩ := s_bind hs
    obtain ⟨a2, g2, hs⟩ := s_bind hs
    obtain ⟨a3, g3, hs⟩ := s_bind hs
    obtain ⟨u9, ge, hs⟩ := s_bind hs
    exact l_X1_costOf_0 hs
  cases hs
theorem l_X1_costOf {v0 : Nat} {v1 : Int32} {v2 : Int32} {v3 : Int32} {σ : sS} {q : Int32 × sS} (h : F_X1_costOf v0 v1 v2 v3 σ = some q) : s_le σ q.2 := by
  unfold F_X1_costOf at h
  obtain ⟨-, -, h⟩ := s_bind h
  exact s_run_ind (V := fun x r => s_le x.2.2 r.2) (fun x z r hs hk => by
    have h9 := l_X1_costOf_s hs
    cases z with
    | inl y => exact s_le.tr h9 hk
    | inr q => cases hk; exact h9) h
theorem b_X1_costOf {v0 : Nat} {v1 : Int32} {v2 : Int32} {v3 : Int32} {σ : sS} {q : Int32 × sS} (h : F_X1_costOf v0 v1 v2 v3 σ = some q) : ∃ fs, σ.1 v0 = some (.inr (1, fs)) := by
  unfold F_X1_costOf at h
  obtain ⟨u, hu, -⟩ := s_bind h
  exact s_is_to hu
set_option maxRecDepth 100000 in
set_option maxHeartbeats 4000000 in
theorem v_X1_costOf_0 {G : sG} {d : Nat} {vs0 : List Value} {σ0 : sS} {v0 : Nat} {v1 : Int32} {v2 : Int32} {v3 : Int32} {σ : sS} {z : sZ Int32} {r : Int32 × sS} (hf : T_X1_costOf_0 v0 v1 v2 v3 σ = some z) (k : s_K G (d + 2) M_X1_costOf vs0 σ0 Y_X1_costOf e_I z r) : s_V G (d + 2) M_X1_costOf vs0 σ0 Y_X1_costOf (0, [.ref v0, .int v1, .int v2, .int v3], σ) (e_I r) := by
  have le0 : s_le σ (e_I r).2 := s_lek hem_I (l_X1_costOf_0 hf) k
  refine ⟨le0, ?_⟩
  intro p e s m below meth c H locs cells slots ls X I hn1 hn2 hl
  have hn : cells + σ0.2.1 ≤ σ.2.1 ∧ slots + σ0.2.2.1 ≤ σ.2.2.1 := ⟨hn1, hn2⟩
  have hl : lv_has ls 4 [(0, .ref v0), (1, .int v1), (2, .int v2), (3, .int v3)] := hl
  have hx := X.1
  have hb : c.code = cX1_costOf := X.2.1
  have hown : s.vm.findClass RX1 = some m.cls := X.2.2.2.2.2.1
  have hts := X.2.2.2.2.2.2.1
  refine W.eq (g2 := F0 m 0 ls []) rfl ?_
  unfold T_X1_costOf_0 at hf
  obtain ⟨q1, h1, hf⟩ := s_bind hf
  obtain ⟨q2, h2, hf⟩ := s_bind hf
  cases hf
  have k : _ = r := k
  subst k
  have le3 : s_le q2.2 q2.2 := s_le.rf
  have le4 := s_le.tr (l_X1_priceOf h2) le3
  refine lv_aload_n hx hb dX1_costOf_0 rfl (lv_at hl 0 rfl) ?_
  refine lv_iload_n hx hb dX1_costOf_1 rfl (lv_at hl 1 rfl) ?_
  refine lv_iload_n hx hb dX1_costOf_2 rfl (lv_at hl 2 rfl) ?_
  refine r_callV (Y := M_X1_priceOf) (v := some (.int q1.1)) X I w_641 my_X1_priceOf (by omega) (t_X1_priceOf (G := G) (d := d + 0) h1) (b_X1_priceOf h1) rfl rfl hl.1 rfl (Nat.le_of_ble_eq_true rfl) hn le4 dX1_costOf_3 (fun H locs cells slots I hn1 hn2 => ?_)
  have I : s_I G q1.2 s H locs := I
  have hn : cells + σ0.2.1 ≤ q1.2.2.1 ∧ slots + σ0.2.2.1 ≤ q1.2.2.2.1 := ⟨hn1, hn2⟩
  refine lv_iload_n hx hb dX1_costOf_6 rfl (lv_at hl 3 rfl) ?_
  refine lv_aload_n hx hb dX1_costOf_7 rfl (lv_at hl 0 rfl) ?_
  refine lv_iload_n hx hb dX1_costOf_8 rfl (lv_at hl 1 rfl) ?_
  refine lv_bipush (v := 16) hx hb dX1_costOf_9 (by decide) ?_
  refine r_callV (Y := M_X1_priceOf) (v := some (.int q2.1)) X I w_641 my_X1_priceOf (by omega) (t_X1_priceOf (G := G) (d := d + 0) h2) (b_X1_priceOf h2) rfl rfl hl.1 rfl (Nat.le_of_ble_eq_true rfl) hn le3 dX1_costOf_11 (fun H locs cells slots I hn1 hn2 => ?_)
  have I : s_I G q2.2 s H locs := I
  have hn : cells + σ0.2.1 ≤ q2.2.2.1 ∧ slots + σ0.2.2.1 ≤ q2.2.2.2.1 := ⟨hn1, hn2⟩
  refine lv_imul hx hb dX1_costOf_14 ?_
  refine lv_iadd hx hb dX1_costOf_15 ?_
  exact r_iret X I rfl rfl rfl hn dX1_costOf_16
theorem v_X1_costOf {G : sG} {d : Nat} {vs0 : List Value} {σ0 : sS} {x : sL} {z : sZ Int32} {r : Int32 × sS} (hs : S_X1_costOf x = some z) (k : s_K G (d + 2) M_X1_costOf vs0 σ0 Y_X1_costOf e_I z r) : s_V G (d + 2) M_X1_costOf vs0 σ0 Y_X1_costOf x (e_I r) := by
  obtain ⟨pc, vs, σ⟩ := x
  unfold S_X1_costOf at hs
  dsimp only at hs
  rcases s_ite hs with ⟨c, hs⟩ | ⟨-, hs⟩
  · subst c
    unfold U_X1_costOf_0 at hs
    obtain ⟨a0, g0, hs⟩ := s_bind hs
    obtain ⟨a1, g1, hs⟩ := s_bind hs
    obtain ⟨a2, g2, hs⟩ := s_bind hs
    obtain ⟨a3, g3, hs⟩ := s_bind hs
    obtain ⟨u9, ge, hs⟩ := s_bind hs
    rw [g_r_to g0, g_i_to g1, g_i_to g2, g_i_to g3, g_e_to ge]
    exact v_X1_costOf_0 hs k
  cases hs
theorem t_X1_costOf {G : sG} {d : Nat} {v0 : Nat} {v1 : Int32} {v2 : Int32} {v3 : Int32} {σ : sS} {q : Int32 × sS} (h : F_X1_costOf v0 v1 v2 v3 σ = some q) : s_T G (d + 2) M_X1_costOf [.ref v0, .int v1, .int v2, .int v3] σ (e_I q) := by
  unfold F_X1_costOf at h
  obtain ⟨-, -, h⟩ := s_bind h
  exact s_ofV rfl (by decide) (Nat.le_of_ble_eq_true rfl) rfl rfl (s_run_ind (V := fun x r => s_V G (d + 2) M_X1_costOf [.ref v0, .int v1, .int v2, .int v3] σ Y_X1_costOf x (e_I r)) (fun x z r hs hk => v_X1_costOf hs (by cases z <;> exact hk)) h)
/-! X4_costResold -/
noncomputable def T_X4_costResold_0 (v0 : Nat) (v1 : Int32) (σ : sS) : Option (sZ Int32) :=
  (s_fr σ v0 4 1).bind fun x1 =>
  (F_X1_hasRule x1 v1 15 σ).bind fun q2 =>
  if q2.1 = 0 then (some (.inr ((-1), q2.2)))
  else ((s_fi q2.2 v0 4 8).bind fun x3 =>
  if x3 = 0 then (some (.inr ((-1), q2.2)))
  else (some (.inl (26, [.ref v0, .int v1, .int (-1), .int 0], q2.2))))
noncomputable def U_X4_costResold_0 (vs : List Value) (σ : sS) : Option (sZ Int32) := (g_r vs).bind fun a0 => (g_i a0.2).bind fun a1 => (g_e a1.2).bind fun _ => T_X4_costResold_0 a0.1 a1.1 σ
noncomputable def T_X4_costResold_26 (v0 : Nat) (v1 : Int32) (v2 : Int32) (v3 : Int32) (σ : sS) : Option (sZ Int32) :=
  if (3 : Int32) ≤ v3 then (if v2 = (-1) then (some (.inr ((-1), σ)))
  else ((s_fr σ v0 4 1).bind fun x1 =>
  (s_fr σ v0 4 3).bind fun x2 =>
  (s_ai σ x2 0).bind fun x3 =>
  (F_X1_costOf x1 v1 15 x3 σ).bind fun q4 =>
  some (.inr ((v2 + q4.1), q4.2))))
  else (if v3 = v1 then (some (.inl (45, [.ref v0, .int v1, .int v2, .int v3, .int (-1)], σ)))
  else ((F_X4_costIn v0 v3 σ).bind fun q5 =>
  some (.inl (45, [.ref v0, .int v1, .int v2, .int v3, .int q5.1], q5.2))))
noncomputable def U_X4_costResold_26 (vs : List Value) (σ : sS) : Option (sZ Int32) := (g_r vs).bind fun a0 => (g_i a0.2).bind fun a1 => (g_i a1.2).bind fun a2 => (g_i a2.2).bind fun a3 => (g_e a3.2).bind fun _ => T_X4_costResold_26 a0.1 a1.1 a2.1 a3.1 σ
noncomputable def T_X4_costResold_45 (v0 : Nat) (v1 : Int32) (v2 : Int32) (v3 : Int32) (w0 : Int32) (σ : sS) : Option (sZ Int32) :=
  if w0 = (-1) then (some (.inl (67, [.ref v0, .int v1, .int v2, .int v3], σ)))
  else (if v2 = (-1) then (some (.inl (64, [.ref v0, .int v1, .int v3, .int w0], σ)))
  else (if v2 ≤ w0 then (some (.inl (67, [.ref v0, .int v1, .int v2, .int v3], σ)))
  else (some (.inl (64, [.ref v0, .int v1, .int v3, .int w0], σ)))))
noncomputable def U_X4_costResold_45 (vs : List Value) (σ : sS) : Option (sZ Int32) := (g_r vs).bind fun a0 => (g_i a0.2).bind fun a1 => (g_i a1.2).bind fun a2 => (g_i a2.2).bind fun a3 => (g_i a3.2).bind fun a4 => (g_e a4.2).bind fun _ => T_X4_costResold_45 a0.1 a1.1 a2.1 a3.1 a4.1 σ
noncomputable def T_X4_costResold_64 (v0 : Nat) (v1 : Int32) (v3 : Int32) (v4 : Int32) (σ : sS) : Option (sZ Int32) :=
  some (.inl (67, [.ref v0, .int v1, .int v4, .int v3], σ))
noncomputable def U_X4_costResold_64 (vs : List Value) (σ : sS) : Option (sZ Int32) := (g_r vs).bind fun a0 => (g_i a0.2).bind fun a1 => (g_i a1.2).bind fun a2 => (g_i a2.2).bind fun a3 => (g_e a3.2).bind fun _ => T_X4_costResold_64 a0.1 a1.1 a2.1 a3.1 σ
noncomputable def T_X4_costResold_67 (v0 : Nat) (v1 : Int32) (v2 : Int32) (v3 : Int32) (σ : sS) : Option (sZ Int32) :=
  some (.inl (26, [.ref v0, .int v1, .int v2, .int (v3 + 1)], σ))
noncomputable def U_X4_costResold_67 (vs : List Value) (σ : sS) : Option (sZ Int32) := (g_r vs).bind fun a0 => (g_i a0.2).bind fun a1 => (g_i a1.2).bind fun a2 => (g_i a2.2).bind fun a3 => (g_e a3.2).bind fun _ => T_X4_costResold_67 a0.1 a1.1 a2.1 a3.1 σ
noncomputable def S_X4_costResold (x : sL) : Option (sZ Int32) := if x.1 = 0 then U_X4_costResold_0 x.2.1 x.2.2 else if x.1 = 26 then U_X4_costResold_26 x.2.1 x.2.2 else if x.1 = 45 then U_X4_costResold_45 x.2.1 x.2.2 else if x.1 = 64 then U_X4_costResold_64 x.2.1 x.2.2 else if x.1 = 67 then U_X4_costResold_67 x.2.1 x.2.2 else none
def Y_X4_costResold (pc : Nat) : List Nat := if pc = 0 then [0, 1] else if pc = 26 then [0, 1, 2, 3] else if pc = 45 then [0, 1, 2, 3] else if pc = 64 then [0, 1, 3, 4] else if pc = 67 then [0, 1, 2, 3] else []
noncomputable def F_X4_costResold (v0 : Nat) (v1 : Int32) (σ : sS) : Option (Int32 × sS) := (s_is σ v0 4).bind fun _ => s_run S_X4_costResold (0, [.ref v0, .int v1], σ)
theorem l_X4_costResold_0 {v0 : Nat} {v1 : Int32} {σ : sS} {z : sZ Int32} (hf : T_X4_costResold_0 v0 v1 σ = some z) : s_lz σ z := by
  unfold T_X4_costResold_0 at hf
  obtain ⟨x1, -, hf⟩ := s_bind hf
  obtain ⟨q2, hh, hf⟩ := s_bind hf
  refine s_lz.tr (l_X1_hasRule hh) ?_
  rcases s_ite hf with ⟨-, hf⟩ | ⟨-, hf⟩
  · cases hf
    exact s_le.rf
  · obtain ⟨x3, -, hf⟩ := s_bind hf
    rcases s_ite hf with ⟨-, hf⟩ | ⟨-, hf⟩
    · cases hf
      exact s_le.rf
    · cases hf
      exact s_le.rf
theorem l_X4_costResold_26 {v0 : Nat} {v1 : Int32} {v2 : Int32} {v3 : Int32} {σ : sS} {z : sZ Int32} (hf : T_X4_costResold_26 v0 v1 v2 v3 σ = some z) : s_lz σ z := by
  unfold T_X4_costResold_26 at hf
  rcases s_ite hf with ⟨-, hf⟩ | ⟨-, hf⟩
  · rcases s_ite hf with ⟨-, hf⟩ | ⟨-, hf⟩
    · cases hf
      exact s_le.rf
    · obtain ⟨x1, -, hf⟩ := s_bind hf
      obtain ⟨x2, -, hf⟩ := s_bind hf
      obtain ⟨x3, -, hf⟩ := s_bind hf
      obtain ⟨q4, hh, hf⟩ := s_bind hf
      refine s_lz.tr (l_X1_costOf hh) ?_
      cases hf
      exact s_le.rf
  · rcases s_ite hf with ⟨-, hf⟩ | ⟨-, hf⟩
    · cases hf
      exact s_le.rf
    · obtain ⟨q5, hh, hf⟩ := s_bind hf
      refine s_lz.tr (l_X4_costIn hh) ?_
      cases hf
      exact s_le.rf
theorem l_X4_costResold_45 {v0 : Nat} {v1 : Int32} {v2 : Int32} {v3 : Int32} {w0 : Int32} {σ : sS} {z : sZ Int32} (hf : T_X4_costResold_45 v0 v1 v2 v3 w0 σ = some z) : s_lz σ z := by
  unfold T_X4_costResold_45 at hf
  rcases s_ite hf with ⟨-, hf⟩ | ⟨-, hf⟩
  · cases hf
    exact s_le.rf
  · rcases s_ite hf with ⟨-, hf⟩ | ⟨-, hf⟩
    · cases hf
      exact s_le.rf
    · rcases s_ite hf with ⟨-, hf⟩ | ⟨-, hf⟩
      · cases hf
        exact s_le.rf
      · cases hf
        exact s_le.rf
theorem l_X4_costResold_64 {v0 : Nat} {v1 : Int32} {v3 : Int32} {v4 : Int32} {σ : sS} {z : sZ Int32} (hf : T_X4_costResold_64 v0 v1 v3 v4 σ = some z) : s_lz σ z := by
  unfold T_X4_costResold_64 at hf
  cases hf
  exact s_le.rf
theorem l_X4_costResold_67 {v0 : Nat} {v1 : Int32} {v2 : Int32} {v3 : Int32} {σ : sS} {z : sZ Int32} (hf : T_X4_costResold_67 v0 v1 v2 v3 σ = some z) : s_lz σ z := by
  unfold T_X4_costResold_67 at hf
  cases hf
  exact s_le.rf
theorem l_X4_costResold_s {x : sL} {z : sZ Int32} (hs : S_X4_costResold x = some z) : s_lz x.2.2 z := by
  obtain ⟨pc, vs, σ⟩ := x
  unfold S_X4_costResold at hs
  dsimp only at hs ⊢
  rcases s_ite hs with ⟨c, hs⟩ | ⟨-, hs⟩
  · subst c
    unfold U_X4_costResold_0 at hs
    obtain ⟨a0, g0, hs⟩ := s_bind hs
    obtain ⟨a1, g1, hs⟩ := s_bind hs
    obtain ⟨u9, ge, hs⟩ := s_bind hs
    exact l_X4_costResold_0 hs
  rcases s_ite hs with ⟨c, hs⟩ | ⟨-, hs⟩
  · subst c
    unfold U_X4_costResold_26 at hs
    obtain ⟨a0, g0, hs⟩ := s_bind hs
    obtain ⟨a1, g1, hs⟩ := s_bind hs
    obtain ⟨a2, g2, hs⟩ := s_bind hs
    obtain ⟨a3, g3, hs⟩ := s_bind hs
    obtain ⟨u9, ge, hs⟩ := s_bind hs
    exact l_X4_costResold_26 hs
  rcases s_ite hs with ⟨c, hs⟩ | ⟨-, hs⟩
  · subst c
    unfold U_X4_costResold_45 at hs
    obtain ⟨a0, g0, hs⟩ := s_bind hs
    obtain ⟨a1, g1, hs⟩ := s_bind hs
    obtain ⟨a2, g2, hs⟩ := s_bind hs
    obtain ⟨a3, g3, hs⟩ := s_bind hs
    obtain ⟨a4, g4, hs⟩ := s_bind hs
    obtain ⟨u9, ge, hs⟩ := s_bind hs
    exact l_X4_costResold_45 hs
  rcases s_ite hs with ⟨c, hs⟩ | ⟨-, hs⟩
  · subst c
    unfold U_X4_costResold_64 at hs
    obtain ⟨a0, g0, hs⟩ := s_bind hs
    obtain ⟨a1, g1, hs⟩ := s_bind hs
    obtain ⟨a2, g2, hs⟩ := s_bind hs
    obtain ⟨a3, g3, hs⟩ := s_bind hs
    obtain ⟨u9, ge, hs⟩ := s_bind hs
    exact l_X4_costResold_64 hs
  rcases s_ite hs with ⟨c, hs⟩ | ⟨-, hs⟩
  · subst c
    unfold U_X4_costResold_67 at hs
    obtain ⟨a0, g0, hs⟩ := s_bind hs
    obtain ⟨a1, g1, hs⟩ := s_bind hs
    obtain ⟨a2, g2, hs⟩ := s_bind hs
    obtain ⟨a3, g3, hs⟩ := s_bind hs
    obtain ⟨u9, ge, hs⟩ := s_bind hs
    exact l_X4_costResold_67 hs
  cases hs
theorem l_X4_costResold {v0 : Nat} {v1 : Int32} {σ : sS} {q : Int32 × sS} (h : F_X4_costResold v0 v1 σ = some q) : s_le σ q.2 := by
  unfold F_X4_costResold at h
  obtain ⟨-, -, h⟩ := s_bind h
  exact s_run_ind (V := fun x r => s_le x.2.2 r.2) (fun x z r hs hk => by
    have h9 := l_X4_costResold_s hs
    cases z with
    | inl y => exact s_le.tr h9 hk
    | inr q => cases hk; exact h9) h
theorem b_X4_costResold {v0 : Nat} {v1 : Int32} {σ : sS} {q : Int32 × sS} (h : F_X4_costResold v0 v1 σ = some q) : ∃ fs, σ.1 v0 = some (.inr (4, fs)) := by
  unfold F_X4_costResold at h
  obtain ⟨u, hu, -⟩ := s_bind h
  exact s_is_to hu
set_option maxRecDepth 100000 in
set_option maxHeartbeats 4000000 in
theorem v_X4_costResold_0 {G : sG} {d : Nat} {vs0 : List Value} {σ0 : sS} {v0 : Nat} {v1 : Int32} {σ : sS} {z : sZ Int32} {r : Int32 × sS} (hf : T_X4_costResold_0 v0 v1 σ = some z) (k : s_K G (d + 6) M_X4_costResold vs0 σ0 Y_X4_costResold e_I z r) : s_V G (d + 6) M_X4_costResold vs0 σ0 Y_X4_costResold (0, [.ref v0, .int v1], σ) (e_I r) := by
  have le0 : s_le σ (e_I r).2 := s_lek hem_I (l_X4_costResold_0 hf) k
  refine ⟨le0, ?_⟩
  intro p e s m below meth c H locs cells slots ls X I hn1 hn2 hl
  have hn : cells + σ0.2.1 ≤ σ.2.1 ∧ slots + σ0.2.2.1 ≤ σ.2.2.1 := ⟨hn1, hn2⟩
  have hl : lv_has ls 5 [(0, .ref v0), (1, .int v1)] := hl
  have hx := X.1
  have hb : c.code = cX4_costResold := X.2.1
  have hown : s.vm.findClass RX4 = some m.cls := X.2.2.2.2.2.1
  have hts := X.2.2.2.2.2.2.1
  refine W.eq (g2 := F0 m 0 ls []) rfl ?_
  unfold T_X4_costResold_0 at hf
  obtain ⟨x1, h1, hf⟩ := s_bind hf
  obtain ⟨q2, h2, hf⟩ := s_bind hf
  have le3 : s_le q2.2 (e_I r).2 := by
    refine s_lek hem_I ?_ k
    rcases s_ite hf with ⟨-, hf⟩ | ⟨-, hf⟩
    · cases hf
      exact s_le.rf
    · obtain ⟨x3, -, hf⟩ := s_bind hf
      rcases s_ite hf with ⟨-, hf⟩ | ⟨-, hf⟩
      · cases hf
        exact s_le.rf
      · cases hf
        exact s_le.rf
  refine lv_aload_n hx hb dX4_costResold_0 rfl (lv_at hl 0 rfl) ?_
  refine r_gr X I fl_X4_34 h1 dX4_costResold_1 ?_
  refine lv_iload_n hx hb dX4_costResold_4 rfl (lv_at hl 1 rfl) ?_
  refine lv_bipush (v := 15) hx hb dX4_costResold_5 (by decide) ?_
  refine r_callV (Y := M_X1_hasRule) (v := some (.int q2.1)) X I w_1347 my_X1_hasRule (by omega) (t_X1_hasRule (G := G) (d := d + 4) h2) (b_X1_hasRule h2) rfl rfl hl.1 rfl (Nat.le_of_ble_eq_true rfl) hn le3 dX4_costResold_7 (fun H locs cells slots I hn1 hn2 => ?_)
  have I : s_I G q2.2 s H locs := I
  have hn : cells + σ0.2.1 ≤ q2.2.2.1 ∧ slots + σ0.2.2.1 ≤ q2.2.2.2.1 := ⟨hn1, hn2⟩
  rcases s_ite hf with ⟨c4, hf⟩ | ⟨c4, hf⟩
  · refine lv_if_eq (tgt := 20) hx hb dX4_costResold_10 (by decide) (fun _ => ?_) (fun n => absurd c4 n)
    cases hf
    have k : _ = r := k
    subst k
    refine lv_iconst (v := (-1)) hx hb dX4_costResold_20 (by decide) ?_
    exact r_iret X I rfl rfl rfl hn dX4_costResold_21
  · refine lv_if_eq (tgt := 20) hx hb dX4_costResold_10 (by decide) (fun n => absurd n c4) (fun _ => ?_)
    obtain ⟨x3, h5, hf⟩ := s_bind hf
    refine lv_aload_n hx hb dX4_costResold_13 rfl (lv_at hl 0 rfl) ?_
    refine r_gi X I fl_X4_48 h5 dX4_costResold_14 ?_
    rcases s_ite hf with ⟨c6, hf⟩ | ⟨c6, hf⟩
    · refine lv_if_ne (tgt := 22) hx hb dX4_costResold_17 (by decide) (fun n => absurd c6 n) (fun _ => ?_)
      cases hf
      have k : _ = r := k
      subst k
      refine lv_iconst (v := (-1)) hx hb dX4_costResold_20 (by decide) ?_
      exact r_iret X I rfl rfl rfl hn dX4_costResold_21
    · refine lv_if_ne (tgt := 22) hx hb dX4_costResold_17 (by decide) (fun _ => ?_) (fun n => absurd n c6)
      cases hf
      have k : s_V G (d + 6) M_X4_costResold vs0 σ0 Y_X4_costResold (26, [.ref v0, .int v1, .int (-1), .int 0], q2.2) (e_I r) := k
      refine lv_iconst (v := (-1)) hx hb dX4_costResold_22 (by decide) ?_
      refine lv_istore_n (lv' := [(2, .int (-1)), (0, .ref v0), (1, .int v1)]) hx hb dX4_costResold_23 rfl hl (by decide) rfl (fun ls hl => ?_)
      refine lv_iconst (v := 0) hx hb dX4_costResold_24 (by decide) ?_
      refine lv_istore_n (lv' := [(3, .int 0), (2, .int (-1)), (0, .ref v0), (1, .int v1)]) hx hb dX4_costResold_25 rfl hl (by decide) rfl (fun ls hl => ?_)
      exact k.2 p e s m below meth c _ _ _ _ _ X I hn.1 hn.2 (lv_sub hl [2, 3, 1, 0] rfl)
set_option maxRecDepth 100000 in
set_option maxHeartbeats 4000000 in
theorem v_X4_costResold_26 {G : sG} {d : Nat} {vs0 : List Value} {σ0 : sS} {v0 : Nat} {v1 : Int32} {v2 : Int32} {v3 : Int32} {σ : sS} {z : sZ Int32} {r : Int32 × sS} (hf : T_X4_costResold_26 v0 v1 v2 v3 σ = some z) (k : s_K G (d + 6) M_X4_costResold vs0 σ0 Y_X4_costResold e_I z r) : s_V G (d + 6) M_X4_costResold vs0 σ0 Y_X4_costResold (26, [.ref v0, .int v1, .int v2, .int v3], σ) (e_I r) := by
  have le0 : s_le σ (e_I r).2 := s_lek hem_I (l_X4_costResold_26 hf) k
  refine ⟨le0, ?_⟩
  intro p e s m below meth c H locs cells slots ls X I hn1 hn2 hl
  have hn : cells + σ0.2.1 ≤ σ.2.1 ∧ slots + σ0.2.2.1 ≤ σ.2.2.1 := ⟨hn1, hn2⟩
  have hl : lv_has ls 5 [(0, .ref v0), (1, .int v1), (2, .int v2), (3, .int v3)] := hl
  have hx := X.1
  have hb : c.code = cX4_costResold := X.2.1
  have hown : s.vm.findClass RX4 = some m.cls := X.2.2.2.2.2.1
  have hts := X.2.2.2.2.2.2.1
  refine W.eq (g2 := F0 m 26 ls []) rfl ?_
  unfold T_X4_costResold_26 at hf
  refine lv_iload_n hx hb dX4_costResold_26 rfl (lv_at hl 3 rfl) ?_
  refine lv_iconst (v := 3) hx hb dX4_costResold_27 (by decide) ?_
  rcases s_ite hf with ⟨c1, hf⟩ | ⟨c1, hf⟩
  · refine lv_icmp_ge (tgt := 73) hx hb dX4_costResold_28 (by decide) (fun _ => ?_) (fun n => absurd c1 n)
    refine lv_iload_n hx hb dX4_costResold_73 rfl (lv_at hl 2 rfl) ?_
    refine lv_iconst (v := (-1)) hx hb dX4_costResold_74 (by decide) ?_
    rcases s_ite hf with ⟨c2, hf⟩ | ⟨c2, hf⟩
    · refine lv_icmp_ne (tgt := 82) hx hb dX4_costResold_75 (by decide) (fun n => absurd c2 n) (fun _ => ?_)
      cases hf
      have k : _ = r := k
      subst k
      refine lv_iconst (v := (-1)) hx hb dX4_costResold_78 (by decide) ?_
      refine lv_goto (tgt := 100) hx hb dX4_costResold_79 (by decide) ?_
      exact r_iret X I rfl rfl rfl hn dX4_costResold_100
    · refine lv_icmp_ne (tgt := 82) hx hb dX4_costResold_75 (by decide) (fun _ => ?_) (fun n => absurd n c2)
      obtain ⟨x1, h3, hf⟩ := s_bind hf
      obtain ⟨x2, h4, hf⟩ := s_bind hf
      obtain ⟨x3, h5, hf⟩ := s_bind hf
      obtain ⟨q4, h6, hf⟩ := s_bind hf
      cases hf
      have k : _ = r := k
      subst k
      have le7 : s_le q4.2 q4.2 := s_le.rf
      refine lv_iload_n hx hb dX4_costResold_82 rfl (lv_at hl 2 rfl) ?_
      refine lv_aload_n hx hb dX4_costResold_83 rfl (lv_at hl 0 rfl) ?_
      refine r_gr X I fl_X4_34 h3 dX4_costResold_84 ?_
      refine lv_iload_n hx hb dX4_costResold_87 rfl (lv_at hl 1 rfl) ?_
      refine lv_bipush (v := 15) hx hb dX4_costResold_88 (by decide) ?_
      refine lv_aload_n hx hb dX4_costResold_90 rfl (lv_at hl 0 rfl) ?_
      refine r_gr X I fl_X4_15 h4 dX4_costResold_91 ?_
      refine lv_iconst (v := 0) hx hb dX4_costResold_94 (by decide) ?_
      refine r_iald X I h5 dX4_costResold_95 ?_
      refine r_callV (Y := M_X1_costOf) (v := some (.int q4.1)) X I w_1422 my_X1_costOf (by omega) (t_X1_costOf (G := G) (d := d + 3) h6) (b_X1_costOf h6) rfl rfl hl.1 rfl (Nat.le_of_ble_eq_true rfl) hn le7 dX4_costResold_96 (fun H locs cells slots I hn1 hn2 => ?_)
      have I : s_I G q4.2 s H locs := I
      have hn : cells + σ0.2.1 ≤ q4.2.2.1 ∧ slots + σ0.2.2.1 ≤ q4.2.2.2.1 := ⟨hn1, hn2⟩
      refine lv_iadd hx hb dX4_costResold_99 ?_
      exact r_iret X I rfl rfl rfl hn dX4_costResold_100
  · refine lv_icmp_ge (tgt := 73) hx hb dX4_costResold_28 (by decide) (fun n => absurd n c1) (fun _ => ?_)
    refine lv_iload_n hx hb dX4_costResold_31 rfl (lv_at hl 3 rfl) ?_
    refine lv_iload_n hx hb dX4_costResold_32 rfl (lv_at hl 1 rfl) ?_
    rcases s_ite hf with ⟨c8, hf⟩ | ⟨c8, hf⟩
    · refine lv_icmp_ne (tgt := 40) hx hb dX4_costResold_33 (by decide) (fun n => absurd c8 n) (fun _ => ?_)
      cases hf
      have k : s_V G (d + 6) M_X4_costResold vs0 σ0 Y_X4_costResold (45, [.ref v0, .int v1, .int v2, .int v3, .int (-1)], σ) (e_I r) := k
      refine lv_iconst (v := (-1)) hx hb dX4_costResold_36 (by decide) ?_
      refine lv_goto (tgt := 45) hx hb dX4_costResold_37 (by decide) ?_
      exact k.2 p e s m below meth c _ _ _ _ _ X I hn.1 hn.2 (lv_sub hl [0, 1, 2, 3] rfl)
    · refine lv_icmp_ne (tgt := 40) hx hb dX4_costResold_33 (by decide) (fun _ => ?_) (fun n => absurd n c8)
      obtain ⟨q5, h9, hf⟩ := s_bind hf
      cases hf
      have k : s_V G (d + 6) M_X4_costResold vs0 σ0 Y_X4_costResold (45, [.ref v0, .int v1, .int v2, .int v3, .int q5.1], q5.2) (e_I r) := k
      have le10 : s_le q5.2 (e_I r).2 := k.1
      refine lv_aload_n hx hb dX4_costResold_40 rfl (lv_at hl 0 rfl) ?_
      refine lv_iload_n hx hb dX4_costResold_41 rfl (lv_at hl 3 rfl) ?_
      refine r_callV (Y := M_X4_costIn) (v := some (.int q5.1)) X I w_1399 my_X4_costIn (by omega) (t_X4_costIn (G := G) (d := d + 0) h9) (b_X4_costIn h9) rfl rfl hl.1 rfl (Nat.le_of_ble_eq_true rfl) hn le10 dX4_costResold_42 (fun H locs cells slots I hn1 hn2 => ?_)
      have I : s_I G q5.2 s H locs := I
      have hn : cells + σ0.2.1 ≤ q5.2.2.1 ∧ slots + σ0.2.2.1 ≤ q5.2.2.2.1 := ⟨hn1, hn2⟩
      exact k.2 p e s m below meth c _ _ _ _ _ X I hn.1 hn.2 (lv_sub hl [0, 1, 2, 3] rfl)
set_option maxRecDepth 100000 in
set_option maxHeartbeats 4000000 in
theorem v_X4_costResold_45 {G : sG} {d : Nat} {vs0 : List Value} {σ0 : sS} {v0 : Nat} {v1 : Int32} {v2 : Int32} {v3 : Int32} {w0 : Int32} {σ : sS} {z : sZ Int32} {r : Int32 × sS} (hf : T_X4_costResold_45 v0 v1 v2 v3 w0 σ = some z) (k : s_K G (d + 6) M_X4_costResold vs0 σ0 Y_X4_costResold e_I z r) : s_V G (d + 6) M_X4_costResold vs0 σ0 Y_X4_costResold (45, [.ref v0, .int v1, .int v2, .int v3, .int w0], σ) (e_I r) := by
  have le0 : s_le σ (e_I r).2 := s_lek hem_I (l_X4_costResold_45 hf) k
  refine ⟨le0, ?_⟩
  intro p e s m below meth c H locs cells slots ls X I hn1 hn2 hl
  have hn : cells + σ0.2.1 ≤ σ.2.1 ∧ slots + σ0.2.2.1 ≤ σ.2.2.1 := ⟨hn1, hn2⟩
  have hl : lv_has ls 5 [(0, .ref v0), (1, .int v1), (2, .int v2), (3, .int v3)] := hl
  have hx := X.1
  have hb : c.code = cX4_costResold := X.2.1
  have hown : s.vm.findClass RX4 = some m.cls := X.2.2.2.2.2.1
  have hts := X.2.2.2.2.2.2.1
  refine W.eq (g2 := F0 m 45 ls [.int w0]) rfl ?_
  unfold T_X4_costResold_45 at hf
  refine lv_istore (lv' := [(4, .int w0), (0, .ref v0), (1, .int v1), (2, .int v2), (3, .int v3)]) hx hb dX4_costResold_45 hl (by decide) rfl (fun ls hl => ?_)
  refine lv_iload hx hb dX4_costResold_47 (lv_at hl 0 rfl) ?_
  refine lv_iconst (v := (-1)) hx hb dX4_costResold_49 (by decide) ?_
  rcases s_ite hf with ⟨c1, hf⟩ | ⟨c1, hf⟩
  · refine lv_icmp_eq (tgt := 67) hx hb dX4_costResold_50 (by decide) (fun _ => ?_) (fun n => absurd c1 n)
    cases hf
    have k : s_V G (d + 6) M_X4_costResold vs0 σ0 Y_X4_costResold (67, [.ref v0, .int v1, .int v2, .int v3], σ) (e_I r) := k
    exact k.2 p e s m below meth c _ _ _ _ _ X I hn.1 hn.2 (lv_sub hl [1, 2, 3, 4] rfl)
  · refine lv_icmp_eq (tgt := 67) hx hb dX4_costResold_50 (by decide) (fun n => absurd n c1) (fun _ => ?_)
    refine lv_iload_n hx hb dX4_costResold_53 rfl (lv_at hl 3 rfl) ?_
    refine lv_iconst (v := (-1)) hx hb dX4_costResold_54 (by decide) ?_
    rcases s_ite hf with ⟨c2, hf⟩ | ⟨c2, hf⟩
    · refine lv_icmp_eq (tgt := 64) hx hb dX4_costResold_55 (by decide) (fun _ => ?_) (fun n => absurd c2 n)
      cases hf
      have k : s_V G (d + 6) M_X4_costResold vs0 σ0 Y_X4_costResold (64, [.ref v0, .int v1, .int v3, .int w0], σ) (e_I r) := k
      exact k.2 p e s m below meth c _ _ _ _ _ X I hn.1 hn.2 (lv_sub hl [1, 2, 4, 0] rfl)
    · refine lv_icmp_eq (tgt := 64) hx hb dX4_costResold_55 (by decide) (fun n => absurd n c2) (fun _ => ?_)
      refine lv_iload hx hb dX4_costResold_58 (lv_at hl 0 rfl) ?_
      refine lv_iload_n hx hb dX4_costResold_60 rfl (lv_at hl 3 rfl) ?_
      rcases s_ite hf with ⟨c3, hf⟩ | ⟨c3, hf⟩
      · refine lv_icmp_ge (tgt := 67) hx hb dX4_costResold_61 (by decide) (fun _ => ?_) (fun n => absurd c3 n)
        cases hf
        have k : s_V G (d + 6) M_X4_costResold vs0 σ0 Y_X4_costResold (67, [.ref v0, .int v1, .int v2, .int v3], σ) (e_I r) := k
        exact k.2 p e s m below meth c _ _ _ _ _ X I hn.1 hn.2 (lv_sub hl [1, 2, 3, 4] rfl)
      · refine lv_icmp_ge (tgt := 67) hx hb dX4_costResold_61 (by decide) (fun n => absurd n c3) (fun _ => ?_)
        cases hf
        have k : s_V G (d + 6) M_X4_costResold vs0 σ0 Y_X4_costResold (64, [.ref v0, .int v1, .int v3, .int w0], σ) (e_I r) := k
        exact k.2 p e s m below meth c _ _ _ _ _ X I hn.1 hn.2 (lv_sub hl [1, 2, 4, 0] rfl)
set_option maxRecDepth 100000 in
set_option maxHeartbeats 4000000 in
theorem v_X4_costResold_64 {G : sG} {d : Nat} {vs0 : List Value} {σ0 : sS} {v0 : Nat} {v1 : Int32} {v3 : Int32} {v4 : Int32} {σ : sS} {z : sZ Int32} {r : Int32 × sS} (hf : T_X4_costResold_64 v0 v1 v3 v4 σ = some z) (k : s_K G (d + 6) M_X4_costResold vs0 σ0 Y_X4_costResold e_I z r) : s_V G (d + 6) M_X4_costResold vs0 σ0 Y_X4_costResold (64, [.ref v0, .int v1, .int v3, .int v4], σ) (e_I r) := by
  have le0 : s_le σ (e_I r).2 := s_lek hem_I (l_X4_costResold_64 hf) k
  refine ⟨le0, ?_⟩
  intro p e s m below meth c H locs cells slots ls X I hn1 hn2 hl
  have hn : cells + σ0.2.1 ≤ σ.2.1 ∧ slots + σ0.2.2.1 ≤ σ.2.2.1 := ⟨hn1, hn2⟩
  have hl : lv_has ls 5 [(0, .ref v0), (1, .int v1), (3, .int v3), (4, .int v4)] := hl
  have hx := X.1
  have hb : c.code = cX4_costResold := X.2.1
  have hown : s.vm.findClass RX4 = some m.cls := X.2.2.2.2.2.1
  have hts := X.2.2.2.2.2.2.1
  refine W.eq (g2 := F0 m 64 ls []) rfl ?_
  unfold T_X4_costResold_64 at hf
  cases hf
  have k : s_V G (d + 6) M_X4_costResold vs0 σ0 Y_X4_costResold (67, [.ref v0, .int v1, .int v4, .int v3], σ) (e_I r) := k
  refine lv_iload hx hb dX4_costResold_64 (lv_at hl 3 rfl) ?_
  refine lv_istore_n (lv' := [(2, .int v4), (0, .ref v0), (1, .int v1), (3, .int v3), (4, .int v4)]) hx hb dX4_costResold_66 rfl hl (by decide) rfl (fun ls hl => ?_)
  exact k.2 p e s m below meth c _ _ _ _ _ X I hn.1 hn.2 (lv_sub hl [1, 2, 0, 3] rfl)
set_option maxRecDepth 100000 in
set_option maxHeartbeats 4000000 in
theorem v_X4_costResold_67 {G : sG} {d : Nat} {vs0 : List Value} {σ0 : sS} {v0 : Nat} {v1 : Int32} {v2 : Int32} {v3 : Int32} {σ : sS} {z : sZ Int32} {r : Int32 × sS} (hf : T_X4_costResold_67 v0 v1 v2 v3 σ = some z) (k : s_K G (d + 6) M_X4_costResold vs0 σ0 Y_X4_costResold e_I z r) : s_V G (d + 6) M_X4_costResold vs0 σ0 Y_X4_costResold (67, [.ref v0, .int v1, .int v2, .int v3], σ) (e_I r) := by
  have le0 : s_le σ (e_I r).2 := s_lek hem_I (l_X4_costResold_67 hf) k
  refine ⟨le0, ?_⟩
  intro p e s m below meth c H locs cells slots ls X I hn1 hn2 hl
  have hn : cells + σ0.2.1 ≤ σ.2.1 ∧ slots + σ0.2.2.1 ≤ σ.2.2.1 := ⟨hn1, hn2⟩
  have hl : lv_has ls 5 [(0, .ref v0), (1, .int v1), (2, .int v2), (3, .int v3)] := hl
  have hx := X.1
  have hb : c.code = cX4_costResold := X.2.1
  have hown : s.vm.findClass RX4 = some m.cls := X.2.2.2.2.2.1
  have hts := X.2.2.2.2.2.2.1
  refine W.eq (g2 := F0 m 67 ls []) rfl ?_
  unfold T_X4_costResold_67 at hf
  cases hf
  have k : s_V G (d + 6) M_X4_costResold vs0 σ0 Y_X4_costResold (26, [.ref v0, .int v1, .int v2, .int (v3 + 1)], σ) (e_I r) := k
  refine lv_iinc (v := (v3 + 1)) (lv' := [(3, .int (v3 + 1)), (0, .ref v0), (1, .int v1), (2, .int v2)]) hx hb dX4_costResold_67 hl (k := 3) rfl rfl (by decide) rfl (fun ls hl => ?_)
  refine lv_goto (tgt := 26) hx hb dX4_costResold_70 (by decide) ?_
  exact k.2 p e s m below meth c _ _ _ _ _ X I hn.1 hn.2 (lv_sub hl [1, 2, 3, 0] rfl)
theorem v_X4_costResold {G : sG} {d : Nat} {vs0 : List Value} {σ0 : sS} {x : sL} {z : sZ Int32} {r : Int32 × sS} (hs : S_X4_costResold x = some z) (k : s_K G (d + 6) M_X4_costResold vs0 σ0 Y_X4_costResold e_I z r) : s_V G (d + 6) M_X4_costResold vs0 σ0 Y_X4_costResold x (e_I r) := by
  obtain ⟨pc, vs, σ⟩ := x
  unfold S_X4_costResold at hs
  dsimp only at hs
  rcases s_ite hs with ⟨c, hs⟩ | ⟨-, hs⟩
  · subst c
    unfold U_X4_costResold_0 at hs
    obtain ⟨a0, g0, hs⟩ := s_bind hs
    obtain ⟨a1, g1, hs⟩ := s_bind hs
    obtain ⟨u9, ge, hs⟩ := s_bind hs
    rw [g_r_to g0, g_i_to g1, g_e_to ge]
    exact v_X4_costResold_0 hs k
  rcases s_ite hs with ⟨c, hs⟩ | ⟨-, hs⟩
  · subst c
    unfold U_X4_costResold_26 at hs
    obtain ⟨a0, g0, hs⟩ := s_bind hs
    obtain ⟨a1, g1, hs⟩ := s_bind hs
    obtain ⟨a2, g2, hs⟩ := s_bind hs
    obtain ⟨a3, g3, hs⟩ := s_bind hs
    obtain ⟨u9, ge, hs⟩ := s_bind hs
    rw [g_r_to g0, g_i_to g1, g_i_to g2, g_i_to g3, g_e_to ge]
    exact v_X4_costResold_26 hs k
  rcases s_ite hs with ⟨c, hs⟩ | ⟨-, hs⟩
  · subst c
    unfold U_X4_costResold_45 at hs
    obtain ⟨a0, g0, hs⟩ := s_bind hs
    obtain ⟨a1, g1, hs⟩ := s_bind hs
    obtain ⟨a2, g2, hs⟩ := s_bind hs
    obtain ⟨a3, g3, hs⟩ := s_bind hs
    obtain ⟨a4, g4, hs⟩ := s_bind hs
    obtain ⟨u9, ge, hs⟩ := s_bind hs
    rw [g_r_to g0, g_i_to g1, g_i_to g2, g_i_to g3, g_i_to g4, g_e_to ge]
    exact v_X4_costResold_45 hs k
  rcases s_ite hs with ⟨c, hs⟩ | ⟨-, hs⟩
  · subst c
    unfold U_X4_costResold_64 at hs
    obtain ⟨a0, g0, hs⟩ := s_bind hs
    obtain ⟨a1, g1, hs⟩ := s_bind hs
    obtain ⟨a2, g2, hs⟩ := s_bind hs
    obtain ⟨a3, g3, hs⟩ := s_bind hs
    obtain ⟨u9, ge, hs⟩ := s_bind hs
    rw [g_r_to g0, g_i_to g1, g_i_to g2, g_i_to g3, g_e_to ge]
    exact v_X4_costResold_64 hs k
  rcases s_ite hs with ⟨c, hs⟩ | ⟨-, hs⟩
  · subst c
    unfold U_X4_costResold_67 at hs
    obtain ⟨a0, g0, hs⟩ := s_bind hs
    obtain ⟨a1, g1, hs⟩ := s_bind hs
    obtain ⟨a2, g2, hs⟩ := s_bind hs
    obtain ⟨a3, g3, hs⟩ := s_bind hs
    obtain ⟨u9, ge, hs⟩ := s_bind hs
    rw [g_r_to g0, g_i_to g1, g_i_to g2, g_i_to g3, g_e_to ge]
    exact v_X4_costResold_67 hs k
  cases hs
theorem t_X4_costResold {G : sG} {d : Nat} {v0 : Nat} {v1 : Int32} {σ : sS} {q : Int32 × sS} (h : F_X4_costResold v0 v1 σ = some q) : s_T G (d + 6) M_X4_costResold [.ref v0, .int v1] σ (e_I q) := by
  unfold F_X4_costResold at h
  obtain ⟨-, -, h⟩ := s_bind h
  exact s_ofV rfl (by decide) (Nat.le_of_ble_eq_true rfl) rfl rfl (s_run_ind (V := fun x r => s_V G (d + 6) M_X4_costResold [.ref v0, .int v1] σ Y_X4_costResold x (e_I r)) (fun x z r hs hk => v_X4_costResold hs (by cases z <;> exact hk)) h)
/-! X7_forward -/
noncomputable def T_X7_forward_0 (v0 : Nat) (v1 : Int32) (v2 : Int32) (v3 : Int32) (σ : sS) : Option (sZ (Int32 ⊕ String)) :=
  (F_X7_needProof v0 v1 v2 v3 σ).bind fun q1 => s_sum q1.1 (fun x2 => (s_fr q1.2 v0 7 6).bind fun x4 =>
  (F_X4_costIn x4 v1 q1.2).bind fun q5 =>
  if q5.1 = (-1) then (some (.inr (.inl (-1), q5.2)))
  else ((s_fr q5.2 v0 7 6).bind fun x6 =>
  (F_X4_costResold x6 v1 q5.2).bind fun q7 =>
  if q7.1 = (-1) then (some (.inr (.inl 0, q7.2)))
  else (some (.inr (.inl (if 0 < (q5.1 - q7.1) then (q5.1 - q7.1) else 0), q7.2))))) (fun E3 => some (.inr (.inr E3, q1.2)))
noncomputable def U_X7_forward_0 (vs : List Value) (σ : sS) : Option (sZ (Int32 ⊕ String)) := (g_r vs).bind fun a0 => (g_i a0.2).bind fun a1 => (g_i a1.2).bind fun a2 => (g_i a2.2).bind fun a3 => (g_e a3.2).bind fun _ => T_X7_forward_0 a0.1 a1.1 a2.1 a3.1 σ
noncomputable def S_X7_forward (x : sL) : Option (sZ (Int32 ⊕ String)) := if x.1 = 0 then U_X7_forward_0 x.2.1 x.2.2 else none
def Y_X7_forward (pc : Nat) : List Nat := if pc = 0 then [0, 1, 2, 3] else []
noncomputable def F_X7_forward (v0 : Nat) (v1 : Int32) (v2 : Int32) (v3 : Int32) (σ : sS) : Option ((Int32 ⊕ String) × sS) := (s_is σ v0 7).bind fun _ => s_run S_X7_forward (0, [.ref v0, .int v1, .int v2, .int v3], σ)
theorem l_X7_forward_0 {v0 : Nat} {v1 : Int32} {v2 : Int32} {v3 : Int32} {σ : sS} {z : sZ (Int32 ⊕ String)} (hf : T_X7_forward_0 v0 v1 v2 v3 σ = some z) : s_lz σ z := by
  unfold T_X7_forward_0 at hf
  obtain ⟨q1, hh, hf⟩ := s_bind hf
  refine s_lz.tr (l_X7_needProof hh) ?_
  rcases s_sum_some hf with ⟨x2, -, hf⟩ | ⟨E3, -, hf⟩
  · obtain ⟨x4, -, hf⟩ := s_bind hf
    obtain ⟨q5, hh, hf⟩ := s_bind hf
    refine s_lz.tr (l_X4_costIn hh) ?_
    rcases s_ite hf with ⟨-, hf⟩ | ⟨-, hf⟩
    · cases hf
      exact s_le.rf
    · obtain ⟨x6, -, hf⟩ := s_bind hf
      obtain ⟨q7, hh, hf⟩ := s_bind hf
      refine s_lz.tr (l_X4_costResold hh) ?_
      rcases s_ite hf with ⟨-, hf⟩ | ⟨-, hf⟩
      · cases hf
        exact s_le.rf
      · cases hf
        exact s_le.rf
  · cases hf
    exact s_le.rf
theorem l_X7_forward_s {x : sL} {z : sZ (Int32 ⊕ String)} (hs : S_X7_forward x = some z) : s_lz x.2.2 z := by
  obtain ⟨pc, vs, σ⟩ := x
  unfold S_X7_forward at hs
  dsimp only at hs ⊢
  rcases s_ite hs with ⟨c, hs⟩ | ⟨-, hs⟩
  · subst c
    unfold U_X7_forward_0 at hs
    obtain ⟨a0, g0, hs⟩ := s_bind hs
    obtain ⟨a1, g1, hs⟩ := s_bind hs
    obtain ⟨a2, g2, hs⟩ := s_bind hs
    obtain ⟨a3, g3, hs⟩ := s_bind hs
    obtain ⟨u9, ge, hs⟩ := s_bind hs
    exact l_X7_forward_0 hs
  cases hs
theorem l_X7_forward {v0 : Nat} {v1 : Int32} {v2 : Int32} {v3 : Int32} {σ : sS} {q : (Int32 ⊕ String) × sS} (h : F_X7_forward v0 v1 v2 v3 σ = some q) : s_le σ q.2 := by
  unfold F_X7_forward at h
  obtain ⟨-, -, h⟩ := s_bind h
  exact s_run_ind (V := fun x r => s_le x.2.2 r.2) (fun x z r hs hk => by
    have h9 := l_X7_forward_s hs
    cases z with
    | inl y => exact s_le.tr h9 hk
    | inr q => cases hk; exact h9) h
theorem b_X7_forward {v0 : Nat} {v1 : Int32} {v2 : Int32} {v3 : Int32} {σ : sS} {q : (Int32 ⊕ String) × sS} (h : F_X7_forward v0 v1 v2 v3 σ = some q) : ∃ fs, σ.1 v0 = some (.inr (7, fs)) := by
  unfold F_X7_forward at h
  obtain ⟨u, hu, -⟩ := s_bind h
  exact s_is_to hu
set_option maxRecDepth 100000 in
set_option maxHeartbeats 4000000 in
theorem v_X7_forward_0 {G : sG} {d : Nat} {vs0 : List Value} {σ0 : sS} {v0 : Nat} {v1 : Int32} {v2 : Int32} {v3 : Int32} {σ : sS} {z : sZ (Int32 ⊕ String)} {r : (Int32 ⊕ String) × sS} (hf : T_X7_forward_0 v0 v1 v2 v3 σ = some z) (k : s_K G (d + 69) M_X7_forward vs0 σ0 Y_X7_forward e_IX z r) : s_V G (d + 69) M_X7_forward vs0 σ0 Y_X7_forward (0, [.ref v0, .int v1, .int v2, .int v3], σ) (e_IX r) := by
  have le0 : s_le σ (e_IX r).2 := s_lek hem_IX (l_X7_forward_0 hf) k
  refine ⟨le0, ?_⟩
  intro p e s m below meth c H locs cells slots ls X I hn1 hn2 hl
  have hn : cells + σ0.2.1 ≤ σ.2.1 ∧ slots + σ0.2.2.1 ≤ σ.2.2.1 := ⟨hn1, hn2⟩
  have hl : lv_has ls 6 [(0, .ref v0), (1, .int v1), (2, .int v2), (3, .int v3)] := hl
  have hx := X.1
  have hb : c.code = cX7_forward := X.2.1
  have hown : s.vm.findClass RX7 = some m.cls := X.2.2.2.2.2.1
  have hts := X.2.2.2.2.2.2.1
  refine W.eq (g2 := F0 m 0 ls []) rfl ?_
  unfold T_X7_forward_0 at hf
  obtain ⟨q1, h1, hf⟩ := s_bind hf
  refine lv_aload_n hx hb dX7_forward_0 rfl (lv_at hl 0 rfl) ?_
  refine lv_iload_n hx hb dX7_forward_1 rfl (lv_at hl 1 rfl) ?_
  refine lv_iload_n hx hb dX7_forward_2 rfl (lv_at hl 2 rfl) ?_
  refine lv_iload_n hx hb dX7_forward_3 rfl (lv_at hl 3 rfl) ?_
  rcases s_sum_some hf with ⟨x2, hq2, hf⟩ | ⟨E3, hq2, hf⟩
  · have le3 : s_le q1.2 (e_IX r).2 := by
      refine s_lek hem_IX ?_ k
      obtain ⟨x4, -, hf⟩ := s_bind hf
      obtain ⟨q5, hh, hf⟩ := s_bind hf
      refine s_lz.tr (l_X4_costIn hh) ?_
      rcases s_ite hf with ⟨-, hf⟩ | ⟨-, hf⟩
      · cases hf
        exact s_le.rf
      · obtain ⟨x6, -, hf⟩ := s_bind hf
        obtain ⟨q7, hh, hf⟩ := s_bind hf
        refine s_lz.tr (l_X4_costResold hh) ?_
        rcases s_ite hf with ⟨-, hf⟩ | ⟨-, hf⟩
        · cases hf
          exact s_le.rf
        · cases hf
          exact s_le.rf
    refine r_callV (Y := M_X7_needProof) (v := none) X I w_1279 my_X7_needProof (by omega) (t_X7_needProof (G := G) (d := d + 0) h1) (b_X7_needProof h1) (e_VX_l hq2) rfl hl.1 rfl (Nat.le_of_ble_eq_true rfl) hn le3 dX7_forward_4 (fun H locs cells slots I hn1 hn2 => ?_)
    have I : s_I G q1.2 s H locs := I
    have hn : cells + σ0.2.1 ≤ q1.2.2.1 ∧ slots + σ0.2.2.1 ≤ q1.2.2.2.1 := ⟨hn1, hn2⟩
    obtain ⟨x4, h4, hf⟩ := s_bind hf
    obtain ⟨q5, h5, hf⟩ := s_bind hf
    have le6 : s_le q5.2 (e_IX r).2 := by
      refine s_lek hem_IX ?_ k
      rcases s_ite hf with ⟨-, hf⟩ | ⟨-, hf⟩
      · cases hf
        exact s_le.rf
      · obtain ⟨x6, -, hf⟩ := s_bind hf
        obtain ⟨q7, hh, hf⟩ := s_bind hf
        refine s_lz.tr (l_X4_costResold hh) ?_
        rcases s_ite hf with ⟨-, hf⟩ | ⟨-, hf⟩
        · cases hf
          exact s_le.rf
        · cases hf
          exact s_le.rf
    refine lv_aload_n hx hb dX7_forward_7 rfl (lv_at hl 0 rfl) ?_
    refine r_gr X I fl_X7_56 h4 dX7_forward_8 ?_
    refine lv_iload_n hx hb dX7_forward_11 rfl (lv_at hl 1 rfl) ?_
    refine r_callV (Y := M_X4_costIn) (v := some (.int q5.1)) X I w_1343 my_X4_costIn (by omega) (t_X4_costIn (G := G) (d := d + 63) h5) (b_X4_costIn h5) rfl rfl hl.1 rfl (Nat.le_of_ble_eq_true rfl) hn le6 dX7_forward_12 (fun H locs cells slots I hn1 hn2 => ?_)
    have I : s_I G q5.2 s H locs := I
    have hn : cells + σ0.2.1 ≤ q5.2.2.1 ∧ slots + σ0.2.2.1 ≤ q5.2.2.2.1 := ⟨hn1, hn2⟩
    refine lv_istore (lv' := [(4, .int q5.1), (0, .ref v0), (1, .int v1), (2, .int v2), (3, .int v3)]) hx hb dX7_forward_15 hl (by decide) rfl (fun ls hl => ?_)
    refine lv_iload hx hb dX7_forward_17 (lv_at hl 0 rfl) ?_
    refine lv_iconst (v := (-1)) hx hb dX7_forward_19 (by decide) ?_
    rcases s_ite hf with ⟨c7, hf⟩ | ⟨c7, hf⟩
    · refine lv_icmp_ne (tgt := 25) hx hb dX7_forward_20 (by decide) (fun n => absurd c7 n) (fun _ => ?_)
      cases hf
      have k : _ = r := k
      subst k
      refine lv_iconst (v := (-1)) hx hb dX7_forward_23 (by decide) ?_
      exact r_iret X I rfl rfl rfl hn dX7_forward_24
    · refine lv_icmp_ne (tgt := 25) hx hb dX7_forward_20 (by decide) (fun _ => ?_) (fun n => absurd n c7)
      obtain ⟨x6, h8, hf⟩ := s_bind hf
      obtain ⟨q7, h9, hf⟩ := s_bind hf
      have le10 : s_le q7.2 (e_IX r).2 := by
        refine s_lek hem_IX ?_ k
        rcases s_ite hf with ⟨-, hf⟩ | ⟨-, hf⟩
        · cases hf
          exact s_le.rf
        · cases hf
          exact s_le.rf
      refine lv_aload_n hx hb dX7_forward_25 rfl (lv_at hl 1 rfl) ?_
      refine r_gr X I fl_X7_56 h8 dX7_forward_26 ?_
      refine lv_iload_n hx hb dX7_forward_29 rfl (lv_at hl 2 rfl) ?_
      refine r_callV (Y := M_X4_costResold) (v := some (.int q7.1)) X I w_1418 my_X4_costResold (by omega) (t_X4_costResold (G := G) (d := d + 62) h9) (b_X4_costResold h9) rfl rfl hl.1 rfl (Nat.le_of_ble_eq_true rfl) hn le10 dX7_forward_30 (fun H locs cells slots I hn1 hn2 => ?_)
      have I : s_I G q7.2 s H locs := I
      have hn : cells + σ0.2.1 ≤ q7.2.2.1 ∧ slots + σ0.2.2.1 ≤ q7.2.2.2.1 := ⟨hn1, hn2⟩
      refine lv_istore (lv' := [(5, .int q7.1), (4, .int q5.1), (0, .ref v0), (1, .int v1), (2, .int v2), (3, .int v3)]) hx hb dX7_forward_33 hl (by decide) rfl (fun ls hl => ?_)
      refine lv_iload hx hb dX7_forward_35 (lv_at hl 0 rfl) ?_
      refine lv_iconst (v := (-1)) hx hb dX7_forward_37 (by decide) ?_
      rcases s_ite hf with ⟨c11, hf⟩ | ⟨c11, hf⟩
      · refine lv_icmp_ne (tgt := 45) hx hb dX7_forward_38 (by decide) (fun n => absurd c11 n) (fun _ => ?_)
        cases hf
        have k : _ = r := k
        subst k
        refine lv_iconst (v := 0) hx hb dX7_forward_41 (by decide) ?_
        refine lv_goto (tgt := 54) hx hb dX7_forward_42 (by decide) ?_
        exact r_iret X I rfl rfl rfl hn dX7_forward_54
      · refine lv_icmp_ne (tgt := 45) hx hb dX7_forward_38 (by decide) (fun _ => ?_) (fun n => absurd n c11)
        cases hf
        have k : _ = r := k
        subst k
        refine lv_iconst (v := 0) hx hb dX7_forward_45 (by decide) ?_
        refine lv_iload hx hb dX7_forward_46 (lv_at hl 1 rfl) ?_
        refine lv_iload hx hb dX7_forward_48 (lv_at hl 0 rfl) ?_
        refine lv_isub hx hb dX7_forward_50 ?_
        refine r_mmax X w_1430 w_1431 w_179 w_1432 hl.1 (Nat.le_of_ble_eq_true rfl) hn le10 dX7_forward_51 ?_
        exact r_iret X I rfl rfl rfl hn dX7_forward_54
  · cases hf
    have k : _ = r := k
    subst k
    exact r_callVx (Y := M_X7_needProof) X I rfl w_1279 my_X7_needProof (by omega) (t_X7_needProof (G := G) (d := d + 0) h1) (b_X7_needProof h1) (e_VX_r hq2) rfl hl.1 rfl (Nat.le_of_ble_eq_true rfl) hn rfl dX7_forward_4
theorem v_X7_forward {G : sG} {d : Nat} {vs0 : List Value} {σ0 : sS} {x : sL} {z : sZ (Int32 ⊕ String)} {r : (Int32 ⊕ String) × sS} (hs : S_X7_forward x = some z) (k : s_K G (d + 69) M_X7_forward vs0 σ0 Y_X7_forward e_IX z r) : s_V G (d + 69) M_X7_forward vs0 σ0 Y_X7_forward x (e_IX r) := by
  obtain ⟨pc, vs, σ⟩ := x
  unfold S_X7_forward at hs
  dsimp only at hs
  rcases s_ite hs with ⟨c, hs⟩ | ⟨-, hs⟩
  · subst c
    unfold U_X7_forward_0 at hs
    obtain ⟨a0, g0, hs⟩ := s_bind hs
    obtain ⟨a1, g1, hs⟩ := s_bind hs
    obtain ⟨a2, g2, hs⟩ := s_bind hs
    obtain ⟨a3, g3, hs⟩ := s_bind hs
    obtain ⟨u9, ge, hs⟩ := s_bind hs
    rw [g_r_to g0, g_i_to g1, g_i_to g2, g_i_to g3, g_e_to ge]
    exact v_X7_forward_0 hs k
  cases hs
theorem t_X7_forward {G : sG} {d : Nat} {v0 : Nat} {v1 : Int32} {v2 : Int32} {v3 : Int32} {σ : sS} {q : (Int32 ⊕ String) × sS} (h : F_X7_forward v0 v1 v2 v3 σ = some q) : s_T G (d + 69) M_X7_forward [.ref v0, .int v1, .int v2, .int v3] σ (e_IX q) := by
  unfold F_X7_forward at h
  obtain ⟨-, -, h⟩ := s_bind h
  exact s_ofV rfl (by decide) (Nat.le_of_ble_eq_true rfl) rfl rfl (s_run_ind (V := fun x r => s_V G (d + 69) M_X7_forward [.ref v0, .int v1, .int v2, .int v3] σ Y_X7_forward x (e_IX r)) (fun x z r hs hk => v_X7_forward hs (by cases z <;> exact hk)) h)
/-! L_forward -/
noncomputable def T_L_forward_0 (v0 : Nat) (v1 : Int32) (v2 : Int32) (v3 : Int32) (v4 : Nat) (σ : sS) : Option (sZ Int32) :=
  (F_X7_forward v0 v1 v2 v3 σ).bind fun q1 => s_sum q1.1 (fun x2 => (s_sl q1.2 v4 0 ((x2 : Int32).toInt64)).bind fun σ4 =>
  some (.inr (0, σ4))) (fun E3 => if E3 = "java/lang/IndexOutOfBoundsException" then (some (.inr (1, q1.2))) else none)
noncomputable def U_L_forward_0 (vs : List Value) (σ : sS) : Option (sZ Int32) := (g_r vs).bind fun a0 => (g_i a0.2).bind fun a1 => (g_i a1.2).bind fun a2 => (g_i a2.2).bind fun a3 => (g_r a3.2).bind fun a4 => (g_e a4.2).bind fun _ => T_L_forward_0 a0.1 a1.1 a2.1 a3.1 a4.1 σ
noncomputable def S_L_forward (x : sL) : Option (sZ Int32) := if x.1 = 0 then U_L_forward_0 x.2.1 x.2.2 else none
def Y_L_forward (pc : Nat) : List Nat := if pc = 0 then [0, 1, 2, 3, 4] else []
noncomputable def F_L_forward (v0 : Nat) (v1 : Int32) (v2 : Int32) (v3 : Int32) (v4 : Nat) (σ : sS) : Option (Int32 × sS) := s_run S_L_forward (0, [.ref v0, .int v1, .int v2, .int v3, .ref v4], σ)
theorem l_L_forward_0 {v0 : Nat} {v1 : Int32} {v2 : Int32} {v3 : Int32} {v4 : Nat} {σ : sS} {z : sZ Int32} (hf : T_L_forward_0 v0 v1 v2 v3 v4 σ = some z) : s_lz σ z := by
  unfold T_L_forward_0 at hf
  obtain ⟨q1, hh, hf⟩ := s_bind hf
  refine s_lz.tr (l_X7_forward hh) ?_
  rcases s_sum_some hf with ⟨x2, -, hf⟩ | ⟨E3, -, hf⟩
  · obtain ⟨σ4, hh, hf⟩ := s_bind hf
    refine s_lz.tr (s_le2 (s_sl_2 hh)) ?_
    cases hf
    exact s_le.rf
  · rcases s_ite hf with ⟨-, hf⟩ | ⟨-, hf⟩
    · cases hf
      exact s_le.rf
    cases hf
theorem l_L_forward_s {x : sL} {z : sZ Int32} (hs : S_L_forward x = some z) : s_lz x.2.2 z := by
  obtain ⟨pc, vs, σ⟩ := x
  unfold S_L_forward at hs
  dsimp only at hs ⊢
  rcases s_ite hs with ⟨c, hs⟩ | ⟨-, hs⟩
  · subst c
    unfold U_L_forward_0 at hs
    obtain ⟨a0, g0, hs⟩ := s_bind hs
    obtain ⟨a1, g1, hs⟩ := s_bind hs
    obtain ⟨a2, g2, hs⟩ := s_bind hs
    obtain ⟨a3, g3, hs⟩ := s_bind hs
    obtain ⟨a4, g4, hs⟩ := s_bind hs
    obtain ⟨u9, ge, hs⟩ := s_bind hs
    exact l_L_forward_0 hs
  cases hs
theorem l_L_forward {v0 : Nat} {v1 : Int32} {v2 : Int32} {v3 : Int32} {v4 : Nat} {σ : sS} {q : Int32 × sS} (h : F_L_forward v0 v1 v2 v3 v4 σ = some q) : s_le σ q.2 := by
  unfold F_L_forward at h
  exact s_run_ind (V := fun x r => s_le x.2.2 r.2) (fun x z r hs hk => by
    have h9 := l_L_forward_s hs
    cases z with
    | inl y => exact s_le.tr h9 hk
    | inr q => cases hk; exact h9) h
set_option maxRecDepth 100000 in
set_option maxHeartbeats 4000000 in
theorem v_L_forward_0 {G : sG} {d : Nat} {vs0 : List Value} {σ0 : sS} {v0 : Nat} {v1 : Int32} {v2 : Int32} {v3 : Int32} {v4 : Nat} {σ : sS} {z : sZ Int32} {r : Int32 × sS} (hf : T_L_forward_0 v0 v1 v2 v3 v4 σ = some z) (k : s_K G (d + 70) M_L_forward vs0 σ0 Y_L_forward e_I z r) : s_V G (d + 70) M_L_forward vs0 σ0 Y_L_forward (0, [.ref v0, .int v1, .int v2, .int v3, .ref v4], σ) (e_I r) := by
  have le0 : s_le σ (e_I r).2 := s_lek hem_I (l_L_forward_0 hf) k
  refine ⟨le0, ?_⟩
  intro p e s m below meth c H locs cells slots ls X I hn1 hn2 hl
  have hn : cells + σ0.2.1 ≤ σ.2.1 ∧ slots + σ0.2.2.1 ≤ σ.2.2.1 := ⟨hn1, hn2⟩
  have hl : lv_has ls 6 [(0, .ref v0), (1, .int v1), (2, .int v2), (3, .int v3), (4, .ref v4)] := hl
  have hx := X.1
  have hb : c.code = cL_forward := X.2.1
  have hown : s.vm.findClass RL = some m.cls := X.2.2.2.2.2.1
  have hts := X.2.2.2.2.2.2.1
  refine W.eq (g2 := F0 m 0 ls []) rfl ?_
  unfold T_L_forward_0 at hf
  obtain ⟨q1, h1, hf⟩ := s_bind hf
  refine lv_aload hx hb dL_forward_0 (lv_at hl 4 rfl) ?_
  refine lv_iconst (v := 0) hx hb dL_forward_2 (by decide) ?_
  refine lv_aload_n hx hb dL_forward_3 rfl (lv_at hl 0 rfl) ?_
  refine lv_iload_n hx hb dL_forward_4 rfl (lv_at hl 1 rfl) ?_
  refine lv_iload_n hx hb dL_forward_5 rfl (lv_at hl 2 rfl) ?_
  refine lv_iload_n hx hb dL_forward_6 rfl (lv_at hl 3 rfl) ?_
  rcases s_sum_some hf with ⟨x2, hq2, hf⟩ | ⟨E3, hq2, hf⟩
  · have le3 : s_le q1.2 (e_I r).2 := by
      refine s_lek hem_I ?_ k
      obtain ⟨σ4, hh, hf⟩ := s_bind hf
      refine s_lz.tr (s_le2 (s_sl_2 hh)) ?_
      cases hf
      exact s_le.rf
    refine r_callV (Y := M_X7_forward) (v := some (.int x2)) X I w_1426 my_X7_forward (by omega) (t_X7_forward (G := G) (d := d + 0) h1) (b_X7_forward h1) (e_IX_l hq2) rfl hl.1 rfl (Nat.le_of_ble_eq_true rfl) hn le3 dL_forward_7 (fun H locs cells slots I hn1 hn2 => ?_)
    have I : s_I G q1.2 s H locs := I
    have hn : cells + σ0.2.1 ≤ q1.2.2.1 ∧ slots + σ0.2.2.1 ≤ q1.2.2.2.1 := ⟨hn1, hn2⟩
    obtain ⟨σ4, h4, hf⟩ := s_bind hf
    cases hf
    have k : _ = r := k
    subst k
    have le5 : s_le σ4 σ4 := s_le.rf
    refine lv_i2l hx hb dL_forward_10 rfl ?_
    refine r_last X I h4 dL_forward_11 (fun H locs I => ?_)
    have hn := s_k2 (s_sl_2 h4) hn
    refine lv_goto (tgt := 19) hx hb dL_forward_12 (by decide) ?_
    refine lv_iconst (v := 0) hx hb dL_forward_19 (by decide) ?_
    exact r_iret X I rfl rfl rfl hn dL_forward_20
  · rcases s_ite hf with ⟨c6, hf⟩ | ⟨c6, hf⟩
    · subst c6
      have le7 : s_le q1.2 (e_I r).2 := by
        refine s_lek hem_I ?_ k
        cases hf
        exact s_le.rf
      refine r_callVh (x := (0, 12, 15, 27)) (Y := M_X7_forward) (E := "java/lang/IndexOutOfBoundsException") (name := "java/lang/IndexOutOfBoundsException") X I [] [] rfl (fun z hz => by cases hz) rfl (by decide) w_1011 (by decide +kernel) w_1426 my_X7_forward (by omega) (t_X7_forward (G := G) (d := d + 0) h1) (b_X7_forward h1) (e_IX_r hq2) rfl hl.1 rfl (Nat.le_of_ble_eq_true rfl) hn le7 dL_forward_7 (fun a5 H locs cells slots I hn1 hn2 => ?_)
      have I : s_I G q1.2 s H locs := I
      have hn : cells + σ0.2.1 ≤ q1.2.2.1 ∧ slots + σ0.2.2.1 ≤ q1.2.2.2.1 := ⟨hn1, hn2⟩
      cases hf
      have k : _ = r := k
      subst k
      refine lv_astore (lv' := [(5, .ref a5), (0, .ref v0), (1, .int v1), (2, .int v2), (3, .int v3), (4, .ref v4)]) hx hb dL_forward_15 hl (by decide) rfl (fun ls hl => ?_)
      refine lv_iconst (v := 1) hx hb dL_forward_17 (by decide) ?_
      exact r_iret X I rfl rfl rfl hn dL_forward_18
    cases hf
theorem v_L_forward {G : sG} {d : Nat} {vs0 : List Value} {σ0 : sS} {x : sL} {z : sZ Int32} {r : Int32 × sS} (hs : S_L_forward x = some z) (k : s_K G (d + 70) M_L_forward vs0 σ0 Y_L_forward e_I z r) : s_V G (d + 70) M_L_forward vs0 σ0 Y_L_forward x (e_I r) := by
  obtain ⟨pc, vs, σ⟩ := x
  unfold S_L_forward at hs
  dsimp only at hs
  rcases s_ite hs with ⟨c, hs⟩ | ⟨-, hs⟩
  · subst c
    unfold U_L_forward_0 at hs
    obtain ⟨a0, g0, hs⟩ := s_bind hs
    obtain ⟨a1, g1, hs⟩ := s_bind hs
    obtain ⟨a2, g2, hs⟩ := s_bind hs
    obtain ⟨a3, g3, hs⟩ := s_bind hs
    obtain ⟨a4, g4, hs⟩ := s_bind hs
    obtain ⟨u9, ge, hs⟩ := s_bind hs
    rw [g_r_to g0, g_i_to g1, g_i_to g2, g_i_to g3, g_r_to g4, g_e_to ge]
    exact v_L_forward_0 hs k
  cases hs
theorem t_L_forward {G : sG} {d : Nat} {v0 : Nat} {v1 : Int32} {v2 : Int32} {v3 : Int32} {v4 : Nat} {σ : sS} {q : Int32 × sS} (h : F_L_forward v0 v1 v2 v3 v4 σ = some q) : s_T G (d + 70) M_L_forward [.ref v0, .int v1, .int v2, .int v3, .ref v4] σ (e_I q) := by
  unfold F_L_forward at h
  exact s_ofVH rfl (by decide) (Nat.le_of_ble_eq_true rfl) rfl rfl (s_run_ind (V := fun x r => s_V G (d + 70) M_L_forward [.ref v0, .int v1, .int v2, .int v3, .ref v4] σ Y_L_forward x (e_I r)) (fun x z r hs hk => v_L_forward hs (by cases z <;> exact hk)) h)
/-! X7_needLaw -/
noncomputable def T_X7_needLaw_0 (v0 : Nat) (v1 : Int32) (σ : sS) : Option (sZ (Unit ⊕ String)) :=
  if v1 < 0 then (some (.inr (.inr "java/lang/IllegalArgumentException", s_ex σ)))
  else (if v1 ≤ 31 then (some (.inr (.inl (), σ)))
  else (some (.inr (.inr "java/lang/IllegalArgumentException", s_ex σ))))
noncomputable def U_X7_needLaw_0 (vs : List Value) (σ : sS) : Option (sZ (Unit ⊕ String)) := (g_r vs).bind fun a0 => (g_i a0.2).bind fun a1 => (g_e a1.2).bind fun _ => T_X7_needLaw_0 a0.1 a1.1 σ
noncomputable def S_X7_needLaw (x : sL) : Option (sZ (Unit ⊕ String)) := if x.1 = 0 then U_X7_needLaw_0 x.2.1 x.2.2 else none
def Y_X7_needLaw (pc : Nat) : List Nat := if pc = 0 then [0, 1] else []
noncomputable def F_X7_needLaw (v0 : Nat) (v1 : Int32) (σ : sS) : Option ((Unit ⊕ String) × sS) := (s_is σ v0 7).bind fun _ => s_run S_X7_needLaw (0, [.ref v0, .int v1], σ)
theorem l_X7_needLaw_0 {v0 : Nat} {v1 : Int32} {σ : sS} {z : sZ (Unit ⊕ String)} (hf : T_X7_needLaw_0 v0 v1 σ = some z) : s_lz σ z := by
  unfold T_X7_needLaw_0 at hf
  rcases s_ite hf with ⟨-, hf⟩ | ⟨-, hf⟩
  · cases hf
    exact s_ex_le
  · rcases s_ite hf with ⟨-, hf⟩ | ⟨-, hf⟩
    · cases hf
      exact s_le.rf
    · cases hf
      exact s_ex_le
theorem l_X7_needLaw_s {x : sL} {z : sZ (Unit ⊕ String)} (hs : S_X7_needLaw x = some z) : s_lz x.2.2 z := by
  obtain ⟨pc, vs, σ⟩ := x
  unfold S_X7_needLaw at hs
  dsimp only at hs ⊢
  rcases s_ite hs with ⟨c, hs⟩ | ⟨-, hs⟩
  · subst c
    unfold U_X7_needLaw_0 at hs
    obtain ⟨a0, g0, hs⟩ := s_bind hs
    obtain ⟨a1, g1, hs⟩ := s_bind hs
    obtain ⟨u9, ge, hs⟩ := s_bind hs
    exact l_X7_needLaw_0 hs
  cases hs
theorem l_X7_needLaw {v0 : Nat} {v1 : Int32} {σ : sS} {q : (Unit ⊕ String) × sS} (h : F_X7_needLaw v0 v1 σ = some q) : s_le σ q.2 := by
  unfold F_X7_needLaw at h
  obtain ⟨-, -, h⟩ := s_bind h
  exact s_run_ind (V := fun x r => s_le x.2.2 r.2) (fun x z r hs hk => by
    have h9 := l_X7_needLaw_s hs
    cases z with
    | inl y => exact s_le.tr h9 hk
    | inr q => cases hk; exact h9) h
theorem b_X7_needLaw {v0 : Nat} {v1 : Int32} {σ : sS} {q : (Unit ⊕ String) × sS} (h : F_X7_needLaw v0 v1 σ = some q) : ∃ fs, σ.1 v0 = some (.inr (7, fs)) := by
  unfold F_X7_needLaw at h
  obtain ⟨u, hu, -⟩ := s_bind h
  exact s_is_to hu
set_option maxRecDepth 100000 in
set_option maxHeartbeats 4000000 in
theorem v_X7_needLaw_0 {G : sG} {d : Nat} {vs0 : List Value} {σ0 : sS} {v0 : Nat} {v1 : Int32} {σ : sS} {z : sZ (Unit ⊕ String)} {r : (Unit ⊕ String) × sS} (hf : T_X7_needLaw_0 v0 v1 σ = some z) (k : s_K G (d + 1) M_X7_needLaw vs0 σ0 Y_X7_needLaw e_VX z r) : s_V G (d + 1) M_X7_needLaw vs0 σ0 Y_X7_needLaw (0, [.ref v0, .int v1], σ) (e_VX r) := by
  have le0 : s_le σ (e_VX r).2 := s_lek hem_VX (l_X7_needLaw_0 hf) k
  refine ⟨le0, ?_⟩
  intro p e s m below meth c H locs cells slots ls X I hn1 hn2 hl
  have hn : cells + σ0.2.1 ≤ σ.2.1 ∧ slots + σ0.2.2.1 ≤ σ.2.2.1 := ⟨hn1, hn2⟩
  have hl : lv_has ls 2 [(0, .ref v0), (1, .int v1)] := hl
  have hx := X.1
  have hb : c.code = cX7_needLaw := X.2.1
  have hown : s.vm.findClass RX7 = some m.cls := X.2.2.2.2.2.1
  have hts := X.2.2.2.2.2.2.1
  refine W.eq (g2 := F0 m 0 ls []) rfl ?_
  unfold T_X7_needLaw_0 at hf
  refine lv_iload_n hx hb dX7_needLaw_0 rfl (lv_at hl 1 rfl) ?_
  rcases s_ite hf with ⟨c1, hf⟩ | ⟨c1, hf⟩
  · refine lv_if_lt (tgt := 10) hx hb dX7_needLaw_1 (by decide) (fun _ => ?_) (fun n => absurd c1 n)
    cases hf
    have k : _ = r := k
    subst k
    exact r_throwW X I rfl th_X7_96_359 hl.1 (Nat.le_of_ble_eq_true rfl) hn rfl dX7_needLaw_10 dX7_needLaw_13 dX7_needLaw_14 dX7_needLaw_17 dX7_needLaw_20
  · refine lv_if_lt (tgt := 10) hx hb dX7_needLaw_1 (by decide) (fun n => absurd n c1) (fun _ => ?_)
    refine lv_iload_n hx hb dX7_needLaw_4 rfl (lv_at hl 1 rfl) ?_
    refine lv_bipush (v := 31) hx hb dX7_needLaw_5 (by decide) ?_
    rcases s_ite hf with ⟨c2, hf⟩ | ⟨c2, hf⟩
    · refine lv_icmp_le (tgt := 21) hx hb dX7_needLaw_7 (by decide) (fun _ => ?_) (fun n => absurd c2 n)
      cases hf
      have k : _ = r := k
      subst k
      exact r_vret X I rfl rfl hn dX7_needLaw_21
    · refine lv_icmp_le (tgt := 21) hx hb dX7_needLaw_7 (by decide) (fun n => absurd n c2) (fun _ => ?_)
      cases hf
      have k : _ = r := k
      subst k
      exact r_throwW X I rfl th_X7_96_359 hl.1 (Nat.le_of_ble_eq_true rfl) hn rfl dX7_needLaw_10 dX7_needLaw_13 dX7_needLaw_14 dX7_needLaw_17 dX7_needLaw_20
theorem v_X7_needLaw {G : sG} {d : Nat} {vs0 : List Value} {σ0 : sS} {x : sL} {z : sZ (Unit ⊕ String)} {r : (Unit ⊕ String) × sS} (hs : S_X7_needLaw x = some z) (k : s_K G (d + 1) M_X7_needLaw vs0 σ0 Y_X7_needLaw e_VX z r) : s_V G (d + 1) M_X7_needLaw vs0 σ0 Y_X7_needLaw x (e_VX r) := by
  obtain ⟨pc, vs, σ⟩ := x
  unfold S_X7_needLaw at hs
  dsimp only at hs
  rcases s_ite hs with ⟨c, hs⟩ | ⟨-, hs⟩
  · subst c
    unfold U_X7_needLaw_0 at hs
    obtain ⟨a0, g0, hs⟩ := s_bind hs
    obtain ⟨a1, g1, hs⟩ := s_bind hs
    obtain ⟨u9, ge, hs⟩ := s_bind hs
    rw [g_r_to g0, g_i_to g1, g_e_to ge]
    exact v_X7_needLaw_0 hs k
  cases hs
theorem t_X7_needLaw {G : sG} {d : Nat} {v0 : Nat} {v1 : Int32} {σ : sS} {q : (Unit ⊕ String) × sS} (h : F_X7_needLaw v0 v1 σ = some q) : s_T G (d + 1) M_X7_needLaw [.ref v0, .int v1] σ (e_VX q) := by
  unfold F_X7_needLaw at h
  obtain ⟨-, -, h⟩ := s_bind h
  exact s_ofV rfl (by decide) (Nat.le_of_ble_eq_true rfl) rfl rfl (s_run_ind (V := fun x r => s_V G (d + 1) M_X7_needLaw [.ref v0, .int v1] σ Y_X7_needLaw x (e_VX r)) (fun x z r hs hk => v_X7_needLaw hs (by cases z <;> exact hk)) h)
/-! X0_linesOf -/
noncomputable def T_X0_linesOf_0 (v0 : Nat) (v1 : Int32) (σ : sS) : Option (sZ Int64) :=
  some (.inl (5, [.ref v0, .int v1, .long 0, .int 0], σ))
noncomputable def U_X0_linesOf_0 (vs : List Value) (σ : sS) : Option (sZ Int64) := (g_r vs).bind fun a0 => (g_i a0.2).bind fun a1 => (g_e a1.2).bind fun _ => T_X0_linesOf_0 a0.1 a1.1 σ
noncomputable def T_X0_linesOf_5 (v0 : Nat) (v1 : Int32) (v2 : Int64) (v4 : Int32) (σ : sS) : Option (sZ Int64) :=
  (s_fr σ v0 0 5).bind fun x1 =>
  (s_fi σ x1 1 6).bind fun x2 =>
  if x2 ≤ v4 then (some (.inr (v2, σ)))
  else ((s_fr σ v0 0 5).bind fun x3 =>
  (F_X1_ofLine x3 v4 2 σ).bind fun q4 =>
  if q4.1 = v1 then (some (.inl (38, [.ref v0, .int v1, .long (v2 ||| (1 <<< ((v4 : Int32).toInt64 &&& 63))), .int v4], q4.2)))
  else (some (.inl (38, [.ref v0, .int v1, .long v2, .int v4], q4.2))))
noncomputable def U_X0_linesOf_5 (vs : List Value) (σ : sS) : Option (sZ Int64) := (g_r vs).bind fun a0 => (g_i a0.2).bind fun a1 => (g_l a1.2).bind fun a2 => (g_i a2.2).bind fun a3 => (g_e a3.2).bind fun _ => T_X0_linesOf_5 a0.1 a1.1 a2.1 a3.1 σ
noncomputable def T_X0_linesOf_38 (v0 : Nat) (v1 : Int32) (v2 : Int64) (v4 : Int32) (σ : sS) : Option (sZ Int64) :=
  some (.inl (5, [.ref v0, .int v1, .long v2, .int (v4 + 1)], σ))
noncomputable def U_X0_linesOf_38 (vs : List Value) (σ : sS) : Option (sZ Int64) := (g_r vs).bind fun a0 => (g_i a0.2).bind fun a1 => (g_l a1.2).bind fun a2 => (g_i a2.2).bind fun a3 => (g_e a3.2).bind fun _ => T_X0_linesOf_38 a0.1 a1.1 a2.1 a3.1 σ
noncomputable def S_X0_linesOf (x : sL) : Option (sZ Int64) := if x.1 = 0 then U_X0_linesOf_0 x.2.1 x.2.2 else if x.1 = 5 then U_X0_linesOf_5 x.2.1 x.2.2 else if x.1 = 38 then U_X0_linesOf_38 x.2.1 x.2.2 else none
def Y_X0_linesOf (pc : Nat) : List Nat := if pc = 0 then [0, 1] else if pc = 5 then [0, 1, 2, 4] else if pc = 38 then [0, 1, 2, 4] else []
noncomputable def F_X0_linesOf (v0 : Nat) (v1 : Int32) (σ : sS) : Option (Int64 × sS) := (s_is σ v0 0).bind fun _ => s_run S_X0_linesOf (0, [.ref v0, .int v1], σ)
theorem l_X0_linesOf_0 {v0 : Nat} {v1 : Int32} {σ : sS} {z : sZ Int64} (hf : T_X0_linesOf_0 v0 v1 σ = some z) : s_lz σ z := by
  unfold T_X0_linesOf_0 at hf
  cases hf
  exact s_le.rf
theorem l_X0_linesOf_5 {v0 : Nat} {v1 : Int32} {v2 : Int64} {v4 : Int32} {σ : sS} {z : sZ Int64} (hf : T_X0_linesOf_5 v0 v1 v2 v4 σ = some z) : s_lz σ z := by
  unfold T_X0_linesOf_5 at hf
  obtain ⟨x1, -, hf⟩ := s_bind hf
  obtain ⟨x2, -, hf⟩ := s_bind hf
  rcases s_ite hf with ⟨-, hf⟩ | ⟨-, hf⟩
  · cases hf
    exact s_le.rf
  · obtain ⟨x3, -, hf⟩ := s_bind hf
    obtain ⟨q4, hh, hf⟩ := s_bind hf
    refine s_lz.tr (l_X1_ofLine hh) ?_
    rcases s_ite hf with ⟨-, hf⟩ | ⟨-, hf⟩
    · cases hf
      exact s_le.rf
    · cases hf
      exact s_le.rf
theorem l_X0_linesOf_38 {v0 : Nat} {v1 : Int32} {v2 : Int64} {v4 : Int32} {σ : sS} {z : sZ Int64} (hf : T_X0_linesOf_38 v0 v1 v2 v4 σ = some z) : s_lz σ z := by
  unfold T_X0_linesOf_38 at hf
  cases hf
  exact s_le.rf
theorem l_X0_linesOf_s {x : sL} {z : sZ Int64} (hs : S_X0_linesOf x = some z) : s_lz x.2.2 z := by
  obtain ⟨pc, vs, σ⟩ := x
  unfold S_X0_linesOf at hs
  dsimp only at hs ⊢
  rcases s_ite hs with ⟨c, hs⟩ | ⟨-, hs⟩
  · subst c
    unfold U_X0_linesOf_0 at hs
    obtain ⟨a0, g0, hs⟩ := s_bind hs
    obtain ⟨a1, g1, hs⟩ := s_bind hs
    obtain ⟨u9, ge, hs⟩ := s_bind hs
    exact l_X0_linesOf_0 hs
  rcases s_ite hs with ⟨c, hs⟩ | ⟨-, hs⟩
  · subst c
    unfold U_X0_linesOf_5 at hs
    obtain ⟨a0, g0, hs⟩ := s_bind hs
    obtain ⟨a1, g1, hs⟩ := s_bind hs
    obtain ⟨a2, g2, hs⟩ := s_bind hs
    obtain ⟨a3, g3, hs⟩ := s_bind hs
    obtain ⟨u9, ge, hs⟩ := s_bind hs
    exact l_X0_linesOf_5 hs
  rcases s_ite hs with ⟨c, hs⟩ | ⟨-, hs⟩
  · subst c
    unfold U_X0_linesOf_38 at hs
    obtain ⟨a0, g0, hs⟩ := s_bind hs
    obtain ⟨a1, g1, hs⟩ := s_bind hs
    obtain ⟨a2, g2, hs⟩ := s_bind hs
    obtain ⟨a3, g3, hs⟩ := s_bind hs
    obtain ⟨u9, ge, hs⟩ := s_bind hs
    exact l_X0_linesOf_38 hs
  cases hs
theorem l_X0_linesOf {v0 : Nat} {v1 : Int32} {σ : sS} {q : Int64 × sS} (h : F_X0_linesOf v0 v1 σ = some q) : s_le σ q.2 := by
  unfold F_X0_linesOf at h
  obtain ⟨-, -, h⟩ := s_bind h
  exact s_run_ind (V := fun x r => s_le x.2.2 r.2) (fun x z r hs hk => by
    have h9 := l_X0_linesOf_s hs
    cases z with
    | inl y => exact s_le.tr h9 hk
    | inr q => cases hk; exact h9) h
theorem b_X0_linesOf {v0 : Nat} {v1 : Int32} {σ : sS} {q : Int64 × sS} (h : F_X0_linesOf v0 v1 σ = some q) : ∃ fs, σ.1 v0 = some (.inr (0, fs)) := by
  unfold F_X0_linesOf at h
  obtain ⟨u, hu, -⟩ := s_bind h
  exact s_is_to hu
set_option maxRecDepth 100000 in
set_option maxHeartbeats 4000000 in
theorem v_X0_linesOf_0 {G : sG} {d : Nat} {vs0 : List Value} {σ0 : sS} {v0 : Nat} {v1 : Int32} {σ : sS} {z : sZ Int64} {r : Int64 × sS} (hf : T_X0_linesOf_0 v0 v1 σ = some z) (k : s_K G (d + 2) M_X0_linesOf vs0 σ0 Y_X0_linesOf e_J z r) : s_V G (d + 2) M_X0_linesOf vs0 σ0 Y_X0_linesOf (0, [.ref v0, .int v1], σ) (e_J r) := by
  have le0 : s_le σ (e_J r).2 := s_lek hem_J (l_X0_linesOf_0 hf) k
  refine ⟨le0, ?_⟩
  intro p e s m below meth c H locs cells slots ls X I hn1 hn2 hl
  have hn : cells + σ0.2.1 ≤ σ.2.1 ∧ slots + σ0.2.2.1 ≤ σ.2.2.1 := ⟨hn1, hn2⟩
  have hl : lv_has ls 5 [(0, .ref v0), (1, .int v1)] := hl
  have hx := X.1
  have hb : c.code = cX0_linesOf := X.2.1
  have hown : s.vm.findClass RX0 = some m.cls := X.2.2.2.2.2.1
  have hts := X.2.2.2.2.2.2.1
  refine W.eq (g2 := F0 m 0 ls []) rfl ?_
  unfold T_X0_linesOf_0 at hf
  cases hf
  have k : s_V G (d + 2) M_X0_linesOf vs0 σ0 Y_X0_linesOf (5, [.ref v0, .int v1, .long 0, .int 0], σ) (e_J r) := k
  refine lv_lconst (v := 0) hx hb dX0_linesOf_0 (by decide) ?_
  refine lv_lstore_n (lv' := [(2, .long 0), (0, .ref v0), (1, .int v1)]) hx hb dX0_linesOf_1 rfl hl (by decide) rfl (fun ls hl => ?_)
  refine lv_iconst (v := 0) hx hb dX0_linesOf_2 (by decide) ?_
  refine lv_istore (lv' := [(4, .int 0), (2, .long 0), (0, .ref v0), (1, .int v1)]) hx hb dX0_linesOf_3 hl (by decide) rfl (fun ls hl => ?_)
  exact k.2 p e s m below meth c _ _ _ _ _ X I hn.1 hn.2 (lv_sub hl [2, 3, 1, 0] rfl)
set_option maxRecDepth 100000 in
set_option maxHeartbeats 4000000 in
theorem v_X0_linesOf_5 {G : sG} {d : Nat} {vs0 : List Value} {σ0 : sS} {v0 : Nat} {v1 : Int32} {v2 : Int64} {v4 : Int32} {σ : sS} {z : sZ Int64} {r : Int64 × sS} (hf : T_X0_linesOf_5 v0 v1 v2 v4 σ = some z) (k : s_K G (d + 2) M_X0_linesOf vs0 σ0 Y_X0_linesOf e_J z r) : s_V G (d + 2) M_X0_linesOf vs0 σ0 Y_X0_linesOf (5, [.ref v0, .int v1, .long v2, .int v4], σ) (e_J r) := by
  have le0 : s_le σ (e_J r).2 := s_lek hem_J (l_X0_linesOf_5 hf) k
  refine ⟨le0, ?_⟩
  intro p e s m below meth c H locs cells slots ls X I hn1 hn2 hl
  have hn : cells + σ0.2.1 ≤ σ.2.1 ∧ slots + σ0.2.2.1 ≤ σ.2.2.1 := ⟨hn1, hn2⟩
  have hl : lv_has ls 5 [(0, .ref v0), (1, .int v1), (2, .long v2), (4, .int v4)] := hl
  have hx := X.1
  have hb : c.code = cX0_linesOf := X.2.1
  have hown : s.vm.findClass RX0 = some m.cls := X.2.2.2.2.2.1
  have hts := X.2.2.2.2.2.2.1
  refine W.eq (g2 := F0 m 5 ls []) rfl ?_
  unfold T_X0_linesOf_5 at hf
  obtain ⟨x1, h1, hf⟩ := s_bind hf
  obtain ⟨x2, h2, hf⟩ := s_bind hf
  refine lv_iload hx hb dX0_linesOf_5 (lv_at hl 3 rfl) ?_
  refine lv_aload_n hx hb dX0_linesOf_7 rfl (lv_at hl 0 rfl) ?_
  refine r_gr X I fl_X0_15 h1 dX0_linesOf_8 ?_
  refine r_gi X I fl_X0_40 h2 dX0_linesOf_11 ?_
  rcases s_ite hf with ⟨c3, hf⟩ | ⟨c3, hf⟩
  · refine lv_icmp_ge (tgt := 44) hx hb dX0_linesOf_14 (by decide) (fun _ => ?_) (fun n => absurd c3 n)
    cases hf
    have k : _ = r := k
    subst k
    refine lv_lload_n hx hb dX0_linesOf_44 rfl (lv_at hl 2 rfl) ?_
    exact r_lret X I rfl rfl hn dX0_linesOf_45
  · refine lv_icmp_ge (tgt := 44) hx hb dX0_linesOf_14 (by decide) (fun n => absurd n c3) (fun _ => ?_)
    obtain ⟨x3, h4, hf⟩ := s_bind hf
    obtain ⟨q4, h5, hf⟩ := s_bind hf
    have le6 : s_le q4.2 (e_J r).2 := by
      refine s_lek hem_J ?_ k
      rcases s_ite hf with ⟨-, hf⟩ | ⟨-, hf⟩
      · cases hf
        exact s_le.rf
      · cases hf
        exact s_le.rf
    refine lv_aload_n hx hb dX0_linesOf_17 rfl (lv_at hl 0 rfl) ?_
    refine r_gr X I fl_X0_15 h4 dX0_linesOf_18 ?_
    refine lv_iload hx hb dX0_linesOf_21 (lv_at hl 3 rfl) ?_
    refine lv_iconst (v := 2) hx hb dX0_linesOf_23 (by decide) ?_
    refine r_callV (Y := M_X1_ofLine) (v := some (.int q4.1)) X I w_517 my_X1_ofLine (by omega) (t_X1_ofLine (G := G) (d := d + 0) h5) (b_X1_ofLine h5) rfl rfl hl.1 rfl (Nat.le_of_ble_eq_true rfl) hn le6 dX0_linesOf_24 (fun H locs cells slots I hn1 hn2 => ?_)
    have I : s_I G q4.2 s H locs := I
    have hn : cells + σ0.2.1 ≤ q4.2.2.1 ∧ slots + σ0.2.2.1 ≤ q4.2.2.2.1 := ⟨hn1, hn2⟩
    refine lv_iload_n hx hb dX0_linesOf_27 rfl (lv_at hl 1 rfl) ?_
    rcases s_ite hf with ⟨c7, hf⟩ | ⟨c7, hf⟩
    · refine lv_icmp_ne (tgt := 38) hx hb dX0_linesOf_28 (by decide) (fun n => absurd c7 n) (fun _ => ?_)
      cases hf
      have k : s_V G (d + 2) M_X0_linesOf vs0 σ0 Y_X0_linesOf (38, [.ref v0, .int v1, .long (v2 ||| (1 <<< ((v4 : Int32).toInt64 &&& 63))), .int v4], q4.2) (e_J r) := k
      refine lv_lload_n hx hb dX0_linesOf_31 rfl (lv_at hl 2 rfl) ?_
      refine lv_lconst (v := 1) hx hb dX0_linesOf_32 (by decide) ?_
      refine lv_iload hx hb dX0_linesOf_33 (lv_at hl 3 rfl) ?_
      refine lv_lshl hx hb dX0_linesOf_35 rfl ?_
      refine lv_lor hx hb dX0_linesOf_36 ?_
      refine lv_lstore_n (lv' := [(2, .long (v2 ||| (1 <<< ((v4 : Int32).toInt64 &&& 63)))), (0, .ref v0), (1, .int v1), (4, .int v4)]) hx hb dX0_linesOf_37 rfl hl (by decide) rfl (fun ls hl => ?_)
      exact k.2 p e s m below meth c _ _ _ _ _ X I hn.1 hn.2 (lv_sub hl [1, 2, 0, 3] rfl)
    · refine lv_icmp_ne (tgt := 38) hx hb dX0_linesOf_28 (by decide) (fun _ => ?_) (fun n => absurd n c7)
      cases hf
      have k : s_V G (d + 2) M_X0_linesOf vs0 σ0 Y_X0_linesOf (38, [.ref v0, .int v1, .long v2, .int v4], q4.2) (e_J r) := k
      exact k.2 p e s m below meth c _ _ _ _ _ X I hn.1 hn.2 (lv_sub hl [0, 1, 2, 3] rfl)
set_option maxRecDepth 100000 in
set_option maxHeartbeats 4000000 in
theorem v_X0_linesOf_38 {G : sG} {d : Nat} {vs0 : List Value} {σ0 : sS} {v0 : Nat} {v1 : Int32} {v2 : Int64} {v4 : Int32} {σ : sS} {z : sZ Int64} {r : Int64 × sS} (hf : T_X0_linesOf_38 v0 v1 v2 v4 σ = some z) (k : s_K G (d + 2) M_X0_linesOf vs0 σ0 Y_X0_linesOf e_J z r) : s_V G (d + 2) M_X0_linesOf vs0 σ0 Y_X0_linesOf (38, [.ref v0, .int v1, .long v2, .int v4], σ) (e_J r) := by
  have le0 : s_le σ (e_J r).2 := s_lek hem_J (l_X0_linesOf_38 hf) k
  refine ⟨le0, ?_⟩
  intro p e s m below meth c H locs cells slots ls X I hn1 hn2 hl
  have hn : cells + σ0.2.1 ≤ σ.2.1 ∧ slots + σ0.2.2.1 ≤ σ.2.2.1 := ⟨hn1, hn2⟩
  have hl : lv_has ls 5 [(0, .ref v0), (1, .int v1), (2, .long v2), (4, .int v4)] := hl
  have hx := X.1
  have hb : c.code = cX0_linesOf := X.2.1
  have hown : s.vm.findClass RX0 = some m.cls := X.2.2.2.2.2.1
  have hts := X.2.2.2.2.2.2.1
  refine W.eq (g2 := F0 m 38 ls []) rfl ?_
  unfold T_X0_linesOf_38 at hf
  cases hf
  have k : s_V G (d + 2) M_X0_linesOf vs0 σ0 Y_X0_linesOf (5, [.ref v0, .int v1, .long v2, .int (v4 + 1)], σ) (e_J r) := k
  refine lv_iinc (v := (v4 + 1)) (lv' := [(4, .int (v4 + 1)), (0, .ref v0), (1, .int v1), (2, .long v2)]) hx hb dX0_linesOf_38 hl (k := 3) rfl rfl (by decide) rfl (fun ls hl => ?_)
  refine lv_goto (tgt := 5) hx hb dX0_linesOf_41 (by decide) ?_
  exact k.2 p e s m below meth c _ _ _ _ _ X I hn.1 hn.2 (lv_sub hl [1, 2, 3, 0] rfl)
theorem v_X0_linesOf {G : sG} {d : Nat} {vs0 : List Value} {σ0 : sS} {x : sL} {z : sZ Int64} {r : Int64 × sS} (hs : S_X0_linesOf x = some z) (k : s_K G (d + 2) M_X0_linesOf vs0 σ0 Y_X0_linesOf e_J z r) : s_V G (d + 2) M_X0_linesOf vs0 σ0 Y_X0_linesOf x (e_J r) := by
  obtain ⟨pc, vs, σ⟩ := x
  unfold S_X0_linesOf at hs
  dsimp only at hs
  rcases s_ite hs with ⟨c, hs⟩ | ⟨-, hs⟩
  · subst c
    unfold U_X0_linesOf_0 at hs
    obtain ⟨a0, g0, hs⟩ := s_bind hs
    obtain ⟨a1, g1, hs⟩ := s_bind hs
    obtain ⟨u9, ge, hs⟩ := s_bind hs
    rw [g_r_to g0, g_i_to g1, g_e_to ge]
    exact v_X0_linesOf_0 hs k
  rcases s_ite hs with ⟨c, hs⟩ | ⟨-, hs⟩
  · subst c
    unfold U_X0_linesOf_5 at hs
    obtain ⟨a0, g0, hs⟩ := s_bind hs
    obtain ⟨a1, g1, hs⟩ := s_bind hs
    obtain ⟨a2, g2, hs⟩ := s_bind hs
    obtain ⟨a3, g3, hs⟩ := s_bind hs
    obtain ⟨u9, ge, hs⟩ := s_bind hs
    rw [g_r_to g0, g_i_to g1, g_l_to g2, g_i_to g3, g_e_to ge]
    exact v_X0_linesOf_5 hs k
  rcases s_ite hs with ⟨c, hs⟩ | ⟨-, hs⟩
  · subst c
    unfold U_X0_linesOf_38 at hs
    obtain ⟨a0, g0, hs⟩ := s_bind hs
    obtain ⟨a1, g1, hs⟩ := s_bind hs
    obtain ⟨a2, g2, hs⟩ := s_bind hs
    obtain ⟨a3, g3, hs⟩ := s_bind hs
    obtain ⟨u9, ge, hs⟩ := s_bind hs
    rw [g_r_to g0, g_i_to g1, g_l_to g2, g_i_to g3, g_e_to ge]
    exact v_X0_linesOf_38 hs k
  cases hs
theorem t_X0_linesOf {G : sG} {d : Nat} {v0 : Nat} {v1 : Int32} {σ : sS} {q : Int64 × sS} (h : F_X0_linesOf v0 v1 σ = some q) : s_T G (d + 2) M_X0_linesOf [.ref v0, .int v1] σ (e_J q) := by
  unfold F_X0_linesOf at h
  obtain ⟨-, -, h⟩ := s_bind h
  exact s_ofV rfl (by decide) (Nat.le_of_ble_eq_true rfl) rfl rfl (s_run_ind (V := fun x r => s_V G (d + 2) M_X0_linesOf [.ref v0, .int v1] σ Y_X0_linesOf x (e_J r)) (fun x z r hs hk => v_X0_linesOf hs (by cases z <;> exact hk)) h)
/-! X0_premisesOf -/
noncomputable def T_X0_premisesOf_0 (v0 : Nat) (v1 : Int32) (σ : sS) : Option (sZ Int32) :=
  some (.inl (4, [.ref v0, .int v1, .int 0, .int 0], σ))
noncomputable def U_X0_premisesOf_0 (vs : List Value) (σ : sS) : Option (sZ Int32) := (g_r vs).bind fun a0 => (g_i a0.2).bind fun a1 => (g_e a1.2).bind fun _ => T_X0_premisesOf_0 a0.1 a1.1 σ
noncomputable def T_X0_premisesOf_4 (v0 : Nat) (v1 : Int32) (v2 : Int32) (v3 : Int32) (σ : sS) : Option (sZ Int32) :=
  if (3 : Int32) ≤ v3 then (some (.inr (v2, σ)))
  else ((s_fr σ v0 0 5).bind fun x1 =>
  (F_X1_premiseOf x1 v1 v3 σ).bind fun q2 =>
  if q2.1 = (-1) then (some (.inl (25, [.ref v0, .int v1, .int v2, .int v3], q2.2)))
  else (some (.inl (25, [.ref v0, .int v1, .int (v2 + 1), .int v3], q2.2))))
noncomputable def U_X0_premisesOf_4 (vs : List Value) (σ : sS) : Option (sZ Int32) := (g_r vs).bind fun a0 => (g_i a0.2).bind fun a1 => (g_i a1.2).bind fun a2 => (g_i a2.2).bind fun a3 => (g_e a3.2).bind fun _ => T_X0_premisesOf_4 a0.1 a1.1 a2.1 a3.1 σ
noncomputable def T_X0_premisesOf_25 (v0 : Nat) (v1 : Int32) (v2 : Int32) (v3 : Int32) (σ : sS) : Option (sZ Int32) :=
  some (.inl (4, [.ref v0, .int v1, .int v2, .int (v3 + 1)], σ))
noncomputable def U_X0_premisesOf_25 (vs : List Value) (σ : sS) : Option (sZ Int32) := (g_r vs).bind fun a0 => (g_i a0.2).bind fun a1 => (g_i a1.2).bind fun a2 => (g_i a2.2).bind fun a3 => (g_e a3.2).bind fun _ => T_X0_premisesOf_25 a0.1 a1.1 a2.1 a3.1 σ
noncomputable def S_X0_premisesOf (x : sL) : Option (sZ Int32) := if x.1 = 0 then U_X0_premisesOf_0 x.2.1 x.2.2 else if x.1 = 4 then U_X0_premisesOf_4 x.2.1 x.2.2 else if x.1 = 25 then U_X0_premisesOf_25 x.2.1 x.2.2 else none
def Y_X0_premisesOf (pc : Nat) : List Nat := if pc = 0 then [0, 1] else if pc = 4 then [0, 1, 2, 3] else if pc = 25 then [0, 1, 2, 3] else []
noncomputable def F_X0_premisesOf (v0 : Nat) (v1 : Int32) (σ : sS) : Option (Int32 × sS) := (s_is σ v0 0).bind fun _ => s_run S_X0_premisesOf (0, [.ref v0, .int v1], σ)
theorem l_X0_premisesOf_0 {v0 : Nat} {v1 : Int32} {σ : sS} {z : sZ Int32} (hf : T_X0_premisesOf_0 v0 v1 σ = some z) : s_lz σ z := by
  unfold T_X0_premisesOf_0 at hf
  cases hf
  exact s_le.rf
theorem l_X0_premisesOf_4 {v0 : Nat} {v1 : Int32} {v2 : Int32} {v3 : Int32} {σ : sS} {z : sZ Int32} (hf : T_X0_premisesOf_4 v0 v1 v2 v3 σ = some z) : s_lz σ z := by
  unfold T_X0_premisesOf_4 at hf
  rcases s_ite hf with ⟨-, hf⟩ | ⟨-, hf⟩
  · cases hf
    exact s_le.rf
  · obtain ⟨x1, -, hf⟩ := s_bind hf
    obtain ⟨q2, hh, hf⟩ := s_bind hf
    refine s_lz.tr (l_X1_premiseOf hh) ?_
    rcases s_ite hf with ⟨-, hf⟩ | ⟨-, hf⟩
    · cases hf
      exact s_le.rf
    · cases hf
      exact s_le.rf
theorem l_X0_premisesOf_25 {v0 : Nat} {v1 : Int32} {v2 : Int32} {v3 : Int32} {σ : sS} {z : sZ Int32} (hf : T_X0_premisesOf_25 v0 v1 v2 v3 σ = some z) : s_lz σ z := by
  unfold T_X0_premisesOf_25 at hf
  cases hf
  exact s_le.rf
theorem l_X0_premisesOf_s {x : sL} {z : sZ Int32} (hs : S_X0_premisesOf x = some z) : s_lz x.2.2 z := by
  obtain ⟨pc, vs, σ⟩ := x
  unfold S_X0_premisesOf at hs
  dsimp only at hs ⊢
  rcases s_ite hs with ⟨c, hs⟩ | ⟨-, hs⟩
  · subst c
    unfold U_X0_premisesOf_0 at hs
    obtain ⟨a0, g0, hs⟩ := s_bind hs
    obtain ⟨a1, g1, hs⟩ := s_bind hs
    obtain ⟨u9, ge, hs⟩ := s_bind hs
    exact l_X0_premisesOf_0 hs
  rcases s_ite hs with ⟨c, hs⟩ | ⟨-, hs⟩
  · subst c
    unfold U_X0_premisesOf_4 at hs
    obtain ⟨a0, g0, hs⟩ := s_bind hs
    obtain ⟨a1, g1, hs⟩ := s_bind hs
    obtain ⟨a2, g2, hs⟩ := s_bind hs
    obtain ⟨a3, g3, hs⟩ := s_bind hs
    obtain ⟨u9, ge, hs⟩ := s_bind hs
    exact l_X0_premisesOf_4 hs
  rcases s_ite hs with ⟨c, hs⟩ | ⟨-, hs⟩
  · subst c
    unfold U_X0_premisesOf_25 at hs
    obtain ⟨a0, g0, hs⟩ := s_bind hs
    obtain ⟨a1, g1, hs⟩ := s_bind hs
    obtain ⟨a2, g2, hs⟩ := s_bind hs
    obtain ⟨a3, g3, hs⟩ := s_bind hs
    obtain ⟨u9, ge, hs⟩ := s_bind hs
    exact l_X0_premisesOf_25 hs
  cases hs
theorem l_X0_premisesOf {v0 : Nat} {v1 : Int32} {σ : sS} {q : Int32 × sS} (h : F_X0_premisesOf v0 v1 σ = some q) : s_le σ q.2 := by
  unfold F_X0_premisesOf at h
  obtain ⟨-, -, h⟩ := s_bind h
  exact s_run_ind (V := fun x r => s_le x.2.2 r.2) (fun x z r hs hk => by
    have h9 := l_X0_premisesOf_s hs
    cases z with
    | inl y => exact s_le.tr h9 hk
    | inr q => cases hk; exact h9) h
theorem b_X0_premisesOf {v0 : Nat} {v1 : Int32} {σ : sS} {q : Int32 × sS} (h : F_X0_premisesOf v0 v1 σ = some q) : ∃ fs, σ.1 v0 = some (.inr (0, fs)) := by
  unfold F_X0_premisesOf at h
  obtain ⟨u, hu, -⟩ := s_bind h
  exact s_is_to hu
set_option maxRecDepth 100000 in
set_option maxHeartbeats 4000000 in
theorem v_X0_premisesOf_0 {G : sG} {d : Nat} {vs0 : List Value} {σ0 : sS} {v0 : Nat} {v1 : Int32} {σ : sS} {z : sZ Int32} {r : Int32 × sS} (hf : T_X0_premisesOf_0 v0 v1 σ = some z) (k : s_K G (d + 3) M_X0_premisesOf vs0 σ0 Y_X0_premisesOf e_I z r) : s_V G (d + 3) M_X0_premisesOf vs0 σ0 Y_X0_premisesOf (0, [.ref v0, .int v1], σ) (e_I r) := by
  have le0 : s_le σ (e_I r).2 := s_lek hem_I (l_X0_premisesOf_0 hf) k
  refine ⟨le0, ?_⟩
  intro p e s m below meth c H locs cells slots ls X I hn1 hn2 hl
  have hn : cells + σ0.2.1 ≤ σ.2.1 ∧ slots + σ0.2.2.1 ≤ σ.2.2.1 := ⟨hn1, hn2⟩
  have hl : lv_has ls 4 [(0, .ref v0), (1, .int v1)] := hl
  have hx := X.1
  have hb : c.code = cX0_premisesOf := X.2.1
  have hown : s.vm.findClass RX0 = some m.cls := X.2.2.2.2.2.1
  have hts := X.2.2.2.2.2.2.1
  refine W.eq (g2 := F0 m 0 ls []) rfl ?_
  unfold T_X0_premisesOf_0 at hf
  cases hf
  have k : s_V G (d + 3) M_X0_premisesOf vs0 σ0 Y_X0_premisesOf (4, [.ref v0, .int v1, .int 0, .int 0], σ) (e_I r) := k
  refine lv_iconst (v := 0) hx hb dX0_premisesOf_0 (by decide) ?_
  refine lv_istore_n (lv' := [(2, .int 0), (0, .ref v0), (1, .int v1)]) hx hb dX0_premisesOf_1 rfl hl (by decide) rfl (fun ls hl => ?_)
  refine lv_iconst (v := 0) hx hb dX0_premisesOf_2 (by decide) ?_
  refine lv_istore_n (lv' := [(3, .int 0), (2, .int 0), (0, .ref v0), (1, .int v1)]) hx hb dX0_premisesOf_3 rfl hl (by decide) rfl (fun ls hl => ?_)
  exact k.2 p e s m below meth c _ _ _ _ _ X I hn.1 hn.2 (lv_sub hl [2, 3, 1, 0] rfl)
set_option maxRecDepth 100000 in
set_option maxHeartbeats 4000000 in
theorem v_X0_premisesOf_4 {G : sG} {d : Nat} {vs0 : List Value} {σ0 : sS} {v0 : Nat} {v1 : Int32} {v2 : Int32} {v3 : Int32} {σ : sS} {z : sZ Int32} {r : Int32 × sS} (hf : T_X0_premisesOf_4 v0 v1 v2 v3 σ = some z) (k : s_K G (d + 3) M_X0_premisesOf vs0 σ0 Y_X0_premisesOf e_I z r) : s_V G (d + 3) M_X0_premisesOf vs0 σ0 Y_X0_premisesOf (4, [.ref v0, .int v1, .int v2, .int v3], σ) (e_I r) := by
  have le0 : s_le σ (e_I r).2 := s_lek hem_I (l_X0_premisesOf_4 hf) k
  refine ⟨le0, ?_⟩
  intro p e s m below meth c H locs cells slots ls X I hn1 hn2 hl
  have hn : cells + σ0.2.1 ≤ σ.2.1 ∧ slots + σ0.2.2.1 ≤ σ.2.2.1 := ⟨hn1, hn2⟩
  have hl : lv_has ls 4 [(0, .ref v0), (1, .int v1), (2, .int v2), (3, .int v3)] := hl
  have hx := X.1
  have hb : c.code = cX0_premisesOf := X.2.1
  have hown : s.vm.findClass RX0 = some m.cls := X.2.2.2.2.2.1
  have hts := X.2.2.2.2.2.2.1
  refine W.eq (g2 := F0 m 4 ls []) rfl ?_
  unfold T_X0_premisesOf_4 at hf
  refine lv_iload_n hx hb dX0_premisesOf_4 rfl (lv_at hl 3 rfl) ?_
  refine lv_iconst (v := 3) hx hb dX0_premisesOf_5 (by decide) ?_
  rcases s_ite hf with ⟨c1, hf⟩ | ⟨c1, hf⟩
  · refine lv_icmp_ge (tgt := 31) hx hb dX0_premisesOf_6 (by decide) (fun _ => ?_) (fun n => absurd c1 n)
    cases hf
    have k : _ = r := k
    subst k
    refine lv_iload_n hx hb dX0_premisesOf_31 rfl (lv_at hl 2 rfl) ?_
    exact r_iret X I rfl rfl rfl hn dX0_premisesOf_32
  · refine lv_icmp_ge (tgt := 31) hx hb dX0_premisesOf_6 (by decide) (fun n => absurd n c1) (fun _ => ?_)
    obtain ⟨x1, h2, hf⟩ := s_bind hf
    obtain ⟨q2, h3, hf⟩ := s_bind hf
    have le4 : s_le q2.2 (e_I r).2 := by
      refine s_lek hem_I ?_ k
      rcases s_ite hf with ⟨-, hf⟩ | ⟨-, hf⟩
      · cases hf
        exact s_le.rf
      · cases hf
        exact s_le.rf
    refine lv_aload_n hx hb dX0_premisesOf_9 rfl (lv_at hl 0 rfl) ?_
    refine r_gr X I fl_X0_15 h2 dX0_premisesOf_10 ?_
    refine lv_iload_n hx hb dX0_premisesOf_13 rfl (lv_at hl 1 rfl) ?_
    refine lv_iload_n hx hb dX0_premisesOf_14 rfl (lv_at hl 3 rfl) ?_
    refine r_callV (Y := M_X1_premiseOf) (v := some (.int q2.1)) X I w_554 my_X1_premiseOf (by omega) (t_X1_premiseOf (G := G) (d := d + 0) h3) (b_X1_premiseOf h3) rfl rfl hl.1 rfl (Nat.le_of_ble_eq_true rfl) hn le4 dX0_premisesOf_15 (fun H locs cells slots I hn1 hn2 => ?_)
    have I : s_I G q2.2 s H locs := I
    have hn : cells + σ0.2.1 ≤ q2.2.2.1 ∧ slots + σ0.2.2.1 ≤ q2.2.2.2.1 := ⟨hn1, hn2⟩
    refine lv_iconst (v := (-1)) hx hb dX0_premisesOf_18 (by decide) ?_
    rcases s_ite hf with ⟨c5, hf⟩ | ⟨c5, hf⟩
    · refine lv_icmp_eq (tgt := 25) hx hb dX0_premisesOf_19 (by decide) (fun _ => ?_) (fun n => absurd c5 n)
      cases hf
      have k : s_V G (d + 3) M_X0_premisesOf vs0 σ0 Y_X0_premisesOf (25, [.ref v0, .int v1, .int v2, .int v3], q2.2) (e_I r) := k
      exact k.2 p e s m below meth c _ _ _ _ _ X I hn.1 hn.2 (lv_sub hl [0, 1, 2, 3] rfl)
    · refine lv_icmp_eq (tgt := 25) hx hb dX0_premisesOf_19 (by decide) (fun n => absurd n c5) (fun _ => ?_)
      cases hf
      have k : s_V G (d + 3) M_X0_premisesOf vs0 σ0 Y_X0_premisesOf (25, [.ref v0, .int v1, .int (v2 + 1), .int v3], q2.2) (e_I r) := k
      refine lv_iinc (v := (v2 + 1)) (lv' := [(2, .int (v2 + 1)), (0, .ref v0), (1, .int v1), (3, .int v3)]) hx hb dX0_premisesOf_22 hl (k := 2) rfl rfl (by decide) rfl (fun ls hl => ?_)
      exact k.2 p e s m below meth c _ _ _ _ _ X I hn.1 hn.2 (lv_sub hl [1, 2, 0, 3] rfl)
set_option maxRecDepth 100000 in
set_option maxHeartbeats 4000000 in
theorem v_X0_premisesOf_25 {G : sG} {d : Nat} {vs0 : List Value} {σ0 : sS} {v0 : Nat} {v1 : Int32} {v2 : Int32} {v3 : Int32} {σ : sS} {z : sZ Int32} {r : Int32 × sS} (hf : T_X0_premisesOf_25 v0 v1 v2 v3 σ = some z) (k : s_K G (d + 3) M_X0_premisesOf vs0 σ0 Y_X0_premisesOf e_I z r) : s_V G (d + 3) M_X0_premisesOf vs0 σ0 Y_X0_premisesOf (25, [.ref v0, .int v1, .int v2, .int v3], σ) (e_I r) := by
  have le0 : s_le σ (e_I r).2 := s_lek hem_I (l_X0_premisesOf_25 hf) k
  refine ⟨le0, ?_⟩
  intro p e s m below meth c H locs cells slots ls X I hn1 hn2 hl
  have hn : cells + σ0.2.1 ≤ σ.2.1 ∧ slots + σ0.2.2.1 ≤ σ.2.2.1 := ⟨hn1, hn2⟩
  have hl : lv_has ls 4 [(0, .ref v0), (1, .int v1), (2, .int v2), (3, .int v3)] := hl
  have hx := X.1
  have hb : c.code = cX0_premisesOf := X.2.1
  have hown : s.vm.findClass RX0 = some m.cls := X.2.2.2.2.2.1
  have hts := X.2.2.2.2.2.2.1
  refine W.eq (g2 := F0 m 25 ls []) rfl ?_
  unfold T_X0_premisesOf_25 at hf
  cases hf
  have k : s_V G (d + 3) M_X0_premisesOf vs0 σ0 Y_X0_premisesOf (4, [.ref v0, .int v1, .int v2, .int (v3 + 1)], σ) (e_I r) := k
  refine lv_iinc (v := (v3 + 1)) (lv' := [(3, .int (v3 + 1)), (0, .ref v0), (1, .int v1), (2, .int v2)]) hx hb dX0_premisesOf_25 hl (k := 3) rfl rfl (by decide) rfl (fun ls hl => ?_)
  refine lv_goto (tgt := 4) hx hb dX0_premisesOf_28 (by decide) ?_
  exact k.2 p e s m below meth c _ _ _ _ _ X I hn.1 hn.2 (lv_sub hl [1, 2, 3, 0] rfl)
theorem v_X0_premisesOf {G : sG} {d : Nat} {vs0 : List Value} {σ0 : sS} {x : sL} {z : sZ Int32} {r : Int32 × sS} (hs : S_X0_premisesOf x = some z) (k : s_K G (d + 3) M_X0_premisesOf vs0 σ0 Y_X0_premisesOf e_I z r) : s_V G (d + 3) M_X0_premisesOf vs0 σ0 Y_X0_premisesOf x (e_I r) := by
  obtain ⟨pc, vs, σ⟩ := x
  unfold S_X0_premisesOf at hs
  dsimp only at hs
  rcases s_ite hs with ⟨c, hs⟩ | ⟨-, hs⟩
  · subst c
    unfold U_X0_premisesOf_0 at hs
    obtain ⟨a0, g0, hs⟩ := s_bind hs
    obtain ⟨a1, g1, hs⟩ := s_bind hs
    obtain ⟨u9, ge, hs⟩ := s_bind hs
    rw [g_r_to g0, g_i_to g1, g_e_to ge]
    exact v_X0_premisesOf_0 hs k
  rcases s_ite hs with ⟨c, hs⟩ | ⟨-, hs⟩
  · subst c
    unfold U_X0_premisesOf_4 at hs
    obtain ⟨a0, g0, hs⟩ := s_bind hs
    obtain ⟨a1, g1, hs⟩ := s_bind hs
    obtain ⟨a2, g2, hs⟩ := s_bind hs
    obtain ⟨a3, g3, hs⟩ := s_bind hs
    obtain ⟨u9, ge, hs⟩ := s_bind hs
    rw [g_r_to g0, g_i_to g1, g_i_to g2, g_i_to g3, g_e_to ge]
    exact v_X0_premisesOf_4 hs k
  rcases s_ite hs with ⟨c, hs⟩ | ⟨-, hs⟩
  · subst c
    unfold U_X0_premisesOf_25 at hs
    obtain ⟨a0, g0, hs⟩ := s_bind hs
    obtain ⟨a1, g1, hs⟩ := s_bind hs
    obtain ⟨a2, g2, hs⟩ := s_bind hs
    obtain ⟨a3, g3, hs⟩ := s_bind hs
    obtain ⟨u9, ge, hs⟩ := s_bind hs
    rw [g_r_to g0, g_i_to g1, g_i_to g2, g_i_to g3, g_e_to ge]
    exact v_X0_premisesOf_25 hs k
  cases hs
theorem t_X0_premisesOf {G : sG} {d : Nat} {v0 : Nat} {v1 : Int32} {σ : sS} {q : Int32 × sS} (h : F_X0_premisesOf v0 v1 σ = some q) : s_T G (d + 3) M_X0_premisesOf [.ref v0, .int v1] σ (e_I q) := by
  unfold F_X0_premisesOf at h
  obtain ⟨-, -, h⟩ := s_bind h
  exact s_ofV rfl (by decide) (Nat.le_of_ble_eq_true rfl) rfl rfl (s_run_ind (V := fun x r => s_V G (d + 3) M_X0_premisesOf [.ref v0, .int v1] σ Y_X0_premisesOf x (e_I r)) (fun x z r hs hk => v_X0_premisesOf hs (by cases z <;> exact hk)) h)
/-! X0_asked -/
noncomputable def T_X0_asked_0 (v0 : Nat) (v1 : Int32) (σ : sS) : Option (sZ Int32) :=
  if v1 = 12 then ((s_fr σ v0 0 5).bind fun x3 =>
  (s_fi σ x3 1 0).bind fun x4 =>
  some (.inr (x4, σ)))
  else (if v1 < 0 then (some (.inr ((-1), σ)))
  else ((s_len σ (σ.2.2.2 0)).bind fun x1 =>
  if x1 ≤ v1 then (some (.inr ((-1), σ)))
  else ((s_ai σ (σ.2.2.2 0) v1).bind fun x2 =>
  some (.inr (x2, σ)))))
noncomputable def U_X0_asked_0 (vs : List Value) (σ : sS) : Option (sZ Int32) := (g_r vs).bind fun a0 => (g_i a0.2).bind fun a1 => (g_e a1.2).bind fun _ => T_X0_asked_0 a0.1 a1.1 σ
noncomputable def S_X0_asked (x : sL) : Option (sZ Int32) := if x.1 = 0 then U_X0_asked_0 x.2.1 x.2.2 else none
def Y_X0_asked (pc : Nat) : List Nat := if pc = 0 then [0, 1] else []
noncomputable def F_X0_asked (v0 : Nat) (v1 : Int32) (σ : sS) : Option (Int32 × sS) := (s_is σ v0 0).bind fun _ => s_run S_X0_asked (0, [.ref v0, .int v1], σ)
theorem l_X0_asked_0 {v0 : Nat} {v1 : Int32} {σ : sS} {z : sZ Int32} (hf : T_X0_asked_0 v0 v1 σ = some z) : s_lz σ z := by
  unfold T_X0_asked_0 at hf
  rcases s_ite hf with ⟨-, hf⟩ | ⟨-, hf⟩
  · obtain ⟨x3, -, hf⟩ := s_bind hf
    obtain ⟨x4, -, hf⟩ := s_bind hf
    cases hf
    exact s_le.rf
  · rcases s_ite hf with ⟨-, hf⟩ | ⟨-, hf⟩
    · cases hf
      exact s_le.rf
    · obtain ⟨x1, -, hf⟩ := s_bind hf
      rcases s_ite hf with ⟨-, hf⟩ | ⟨-, hf⟩
      · cases hf
        exact s_le.rf
      · obtain ⟨x2, -, hf⟩ := s_bind hf
        cases hf
        exact s_le.rf
theorem l_X0_asked_s {x : sL} {z : sZ Int32} (hs : S_X0_asked x = some z) : s_lz x.2.2 z := by
  obtain ⟨pc, vs, σ⟩ := x
  unfold S_X0_asked at hs
  dsimp only at hs ⊢
  rcases s_ite hs with ⟨c, hs⟩ | ⟨-, hs⟩
  · subst c
    unfold U_X0_asked_0 at hs
    obtain ⟨a0, g0, hs⟩ := s_bind hs
    obtain ⟨a1, g1, hs⟩ := s_bind hs
    obtain ⟨u9, ge, hs⟩ := s_bind hs
    exact l_X0_asked_0 hs
  cases hs
theorem l_X0_asked {v0 : Nat} {v1 : Int32} {σ : sS} {q : Int32 × sS} (h : F_X0_asked v0 v1 σ = some q) : s_le σ q.2 := by
  unfold F_X0_asked at h
  obtain ⟨-, -, h⟩ := s_bind h
  exact s_run_ind (V := fun x r => s_le x.2.2 r.2) (fun x z r hs hk => by
    have h9 := l_X0_asked_s hs
    cases z with
    | inl y => exact s_le.tr h9 hk
    | inr q => cases hk; exact h9) h
theorem b_X0_asked {v0 : Nat} {v1 : Int32} {σ : sS} {q : Int32 × sS} (h : F_X0_asked v0 v1 σ = some q) : ∃ fs, σ.1 v0 = some (.inr (0, fs)) := by
  unfold F_X0_asked at h
  obtain ⟨u, hu, -⟩ := s_bind h
  exact s_is_to hu
set_option maxRecDepth 100000 in
set_option maxHeartbeats 4000000 in
theorem v_X0_asked_0 {G : sG} {d : Nat} {vs0 : List Value} {σ0 : sS} {v0 : Nat} {v1 : Int32} {σ : sS} {z : sZ Int32} {r : Int32 × sS} (hf : T_X0_asked_0 v0 v1 σ = some z) (k : s_K G (d + 1) M_X0_asked vs0 σ0 Y_X0_asked e_I z r) : s_V G (d + 1) M_X0_asked vs0 σ0 Y_X0_asked (0, [.ref v0, .int v1], σ) (e_I r) := by
  have le0 : s_le σ (e_I r).2 := s_lek hem_I (l_X0_asked_0 hf) k
  refine ⟨le0, ?_⟩
  intro p e s m below meth c H locs cells slots ls X I hn1 hn2 hl
  have hn : cells + σ0.2.1 ≤ σ.2.1 ∧ slots + σ0.2.2.1 ≤ σ.2.2.1 := ⟨hn1, hn2⟩
  have hl : lv_has ls 2 [(0, .ref v0), (1, .int v1)] := hl
  have hx := X.1
  have hb : c.code = cX0_asked := X.2.1
  have hown : s.vm.findClass RX0 = some m.cls := X.2.2.2.2.2.1
  have hts := X.2.2.2.2.2.2.1
  refine W.eq (g2 := F0 m 0 ls []) rfl ?_
  unfold T_X0_asked_0 at hf
  refine lv_iload_n hx hb dX0_asked_0 rfl (lv_at hl 1 rfl) ?_
  refine lv_bipush (v := 12) hx hb dX0_asked_1 (by decide) ?_
  rcases s_ite hf with ⟨c1, hf⟩ | ⟨c1, hf⟩
  · refine lv_icmp_ne (tgt := 14) hx hb dX0_asked_3 (by decide) (fun n => absurd c1 n) (fun _ => ?_)
    obtain ⟨x3, h2, hf⟩ := s_bind hf
    obtain ⟨x4, h3, hf⟩ := s_bind hf
    cases hf
    have k : _ = r := k
    subst k
    refine lv_aload_n hx hb dX0_asked_6 rfl (lv_at hl 0 rfl) ?_
    refine r_gr X I fl_X0_15 h2 dX0_asked_7 ?_
    refine r_gi X I fl_X0_87 h3 dX0_asked_10 ?_
    exact r_iret X I rfl rfl rfl hn dX0_asked_13
  · refine lv_icmp_ne (tgt := 14) hx hb dX0_asked_3 (by decide) (fun _ => ?_) (fun n => absurd n c1)
    refine lv_iload_n hx hb dX0_asked_14 rfl (lv_at hl 1 rfl) ?_
    rcases s_ite hf with ⟨c4, hf⟩ | ⟨c4, hf⟩
    · refine lv_if_lt (tgt := 34) hx hb dX0_asked_15 (by decide) (fun _ => ?_) (fun n => absurd c4 n)
      cases hf
      have k : _ = r := k
      subst k
      refine lv_iconst (v := (-1)) hx hb dX0_asked_34 (by decide) ?_
      exact r_iret X I rfl rfl rfl hn dX0_asked_35
    · refine lv_if_lt (tgt := 34) hx hb dX0_asked_15 (by decide) (fun n => absurd n c4) (fun _ => ?_)
      obtain ⟨x1, h5, hf⟩ := s_bind hf
      refine lv_iload_n hx hb dX0_asked_18 rfl (lv_at hl 1 rfl) ?_
      refine r_gets X I.1.2.2.2.2.2.1.2.2.1 w_562 dX0_asked_19 ?_
      refine r_alen X I h5 dX0_asked_22 ?_
      rcases s_ite hf with ⟨c6, hf⟩ | ⟨c6, hf⟩
      · refine lv_icmp_ge (tgt := 34) hx hb dX0_asked_23 (by decide) (fun _ => ?_) (fun n => absurd c6 n)
        cases hf
        have k : _ = r := k
        subst k
        refine lv_iconst (v := (-1)) hx hb dX0_asked_34 (by decide) ?_
        exact r_iret X I rfl rfl rfl hn dX0_asked_35
      · refine lv_icmp_ge (tgt := 34) hx hb dX0_asked_23 (by decide) (fun n => absurd n c6) (fun _ => ?_)
        obtain ⟨x2, h7, hf⟩ := s_bind hf
        cases hf
        have k : _ = r := k
        subst k
        refine r_gets X I.1.2.2.2.2.2.1.2.2.1 w_562 dX0_asked_26 ?_
        refine lv_iload_n hx hb dX0_asked_29 rfl (lv_at hl 1 rfl) ?_
        refine r_iald X I h7 dX0_asked_30 ?_
        refine lv_goto (tgt := 35) hx hb dX0_asked_31 (by decide) ?_
        exact r_iret X I rfl rfl rfl hn dX0_asked_35
theorem v_X0_asked {G : sG} {d : Nat} {vs0 : List Value} {σ0 : sS} {x : sL} {z : sZ Int32} {r : Int32 × sS} (hs : S_X0_asked x = some z) (k : s_K G (d + 1) M_X0_asked vs0 σ0 Y_X0_asked e_I z r) : s_V G (d + 1) M_X0_asked vs0 σ0 Y_X0_asked x (e_I r) := by
  obtain ⟨pc, vs, σ⟩ := x
  unfold S_X0_asked at hs
  dsimp only at hs
  rcases s_ite hs with ⟨c, hs⟩ | ⟨-, hs⟩
  · subst c
    unfold U_X0_asked_0 at hs
    obtain ⟨a0, g0, hs⟩ := s_bind hs
    obtain ⟨a1, g1, hs⟩ := s_bind hs
    obtain ⟨u9, ge, hs⟩ := s_bind hs
    rw [g_r_to g0, g_i_to g1, g_e_to ge]
    exact v_X0_asked_0 hs k
  cases hs
theorem t_X0_asked {G : sG} {d : Nat} {v0 : Nat} {v1 : Int32} {σ : sS} {q : Int32 × sS} (h : F_X0_asked v0 v1 σ = some q) : s_T G (d + 1) M_X0_asked [.ref v0, .int v1] σ (e_I q) := by
  unfold F_X0_asked at h
  obtain ⟨-, -, h⟩ := s_bind h
  exact s_ofV rfl (by decide) (Nat.le_of_ble_eq_true rfl) rfl rfl (s_run_ind (V := fun x r => s_V G (d + 1) M_X0_asked [.ref v0, .int v1] σ Y_X0_asked x (e_I r)) (fun x z r hs hk => v_X0_asked hs (by cases z <;> exact hk)) h)
