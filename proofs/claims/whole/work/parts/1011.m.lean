/-! X5_read -/
noncomputable def T_X5_read_0 (v0 : Nat) (v1 : Int32) (σ : sS) : Option (sZ Int32) :=
  (s_pf σ v0 5 6 (.int v1)).bind fun σ1 =>
  (s_pf σ1 v0 5 4 (.int 0)).bind fun σ2 =>
  (s_pf σ2 v0 5 5 (.int 0)).bind fun σ3 =>
  (s_pf σ3 v0 5 1 (.int (-1))).bind fun σ4 =>
  (F_X5_readIf 64 v0 0 0 σ4).bind fun q5 =>
  (F_X5_peek v0 q5.2).bind fun q6 =>
  if q6.1 = (-1) then (some (.inl (44, [.ref v0, .int q5.1], q6.2)))
  else ((s_fi q6.2 v0 5 4).bind fun x7 =>
  (F_X5_fail v0 x7 q6.2).bind fun q8 =>
  some (.inl (44, [.ref v0, .int q5.1], q8.2)))
noncomputable def U_X5_read_0 (vs : List Value) (σ : sS) : Option (sZ Int32) := (g_r vs).bind fun a0 => (g_i a0.2).bind fun a1 => (g_e a1.2).bind fun _ => T_X5_read_0 a0.1 a1.1 σ
noncomputable def T_X5_read_44 (v0 : Nat) (v2 : Int32) (σ : sS) : Option (sZ Int32) :=
  (s_pf σ v0 5 0 (.int 0)).bind fun σ1 =>
  (s_fi σ1 v0 5 1).bind fun x2 =>
  if x2 = (-1) then (some (.inr (v2, σ1)))
  else (some (.inr ((-1), σ1)))
noncomputable def U_X5_read_44 (vs : List Value) (σ : sS) : Option (sZ Int32) := (g_r vs).bind fun a0 => (g_i a0.2).bind fun a1 => (g_e a1.2).bind fun _ => T_X5_read_44 a0.1 a1.1 σ
noncomputable def S_X5_read (x : sL) : Option (sZ Int32) := if x.1 = 0 then U_X5_read_0 x.2.1 x.2.2 else if x.1 = 44 then U_X5_read_44 x.2.1 x.2.2 else none
def Y_X5_read (pc : Nat) : List Nat := if pc = 0 then [0, 1] else if pc = 44 then [0, 2] else []
noncomputable def F_X5_read (v0 : Nat) (v1 : Int32) (σ : sS) : Option (Int32 × sS) := (s_is σ v0 5).bind fun _ => s_run S_X5_read (0, [.ref v0, .int v1], σ)
theorem l_X5_read_0 {v0 : Nat} {v1 : Int32} {σ : sS} {z : sZ Int32} (hf : T_X5_read_0 v0 v1 σ = some z) : s_lz σ z := by
  unfold T_X5_read_0 at hf
  obtain ⟨σ1, hh, hf⟩ := s_bind hf
  refine s_lz.tr (s_le2 (s_pf_2 hh)) ?_
  obtain ⟨σ2, hh, hf⟩ := s_bind hf
  refine s_lz.tr (s_le2 (s_pf_2 hh)) ?_
  obtain ⟨σ3, hh, hf⟩ := s_bind hf
  refine s_lz.tr (s_le2 (s_pf_2 hh)) ?_
  obtain ⟨σ4, hh, hf⟩ := s_bind hf
  refine s_lz.tr (s_le2 (s_pf_2 hh)) ?_
  obtain ⟨q5, hh, hf⟩ := s_bind hf
  refine s_lz.tr (l_X5_readIf hh) ?_
  obtain ⟨q6, hh, hf⟩ := s_bind hf
  refine s_lz.tr (l_X5_peek hh) ?_
  rcases s_ite hf with ⟨-, hf⟩ | ⟨-, hf⟩
  · cases hf
    exact s_le.rf
  · obtain ⟨x7, -, hf⟩ := s_bind hf
    obtain ⟨q8, hh, hf⟩ := s_bind hf
    refine s_lz.tr (l_X5_fail hh) ?_
    cases hf
    exact s_le.rf
theorem l_X5_read_44 {v0 : Nat} {v2 : Int32} {σ : sS} {z : sZ Int32} (hf : T_X5_read_44 v0 v2 σ = some z) : s_lz σ z := by
  unfold T_X5_read_44 at hf
  obtain ⟨σ1, hh, hf⟩ := s_bind hf
  refine s_lz.tr (s_le2 (s_pf_2 hh)) ?_
  obtain ⟨x2, -, hf⟩ := s_bind hf
  rcases s_ite hf with ⟨-, hf⟩ | ⟨-, hf⟩
  · cases hf
    exact s_le.rf
  · cases hf
    exact s_le.rf
theorem l_X5_read_s {x : sL} {z : sZ Int32} (hs : S_X5_read x = some z) : s_lz x.2.2 z := by
  obtain ⟨pc, vs, σ⟩ := x
  unfold S_X5_read at hs
  dsimp only at hs ⊢
  rcases s_ite hs with ⟨c, hs⟩ | ⟨-, hs⟩
  · subst c
    unfold U_X5_read_0 at hs
    obtain ⟨a0, g0, hs⟩ := s_bind hs
    obtain ⟨a1, g1, hs⟩ := s_bind hs
    obtain ⟨u9, ge, hs⟩ := s_bind hs
    exact l_X5_read_0 hs
  rcases s_ite hs with ⟨c, hs⟩ | ⟨-, hs⟩
  · subst c
    unfold U_X5_read_44 at hs
    obtain ⟨a0, g0, hs⟩ := s_bind hs
    obtain ⟨a1, g1, hs⟩ := s_bind hs
    obtain ⟨u9, ge, hs⟩ := s_bind hs
    exact l_X5_read_44 hs
  cases hs
theorem l_X5_read {v0 : Nat} {v1 : Int32} {σ : sS} {q : Int32 × sS} (h : F_X5_read v0 v1 σ = some q) : s_le σ q.2 := by
  unfold F_X5_read at h
  obtain ⟨-, -, h⟩ := s_bind h
  exact s_run_ind (V := fun x r => s_le x.2.2 r.2) (fun x z r hs hk => by
    have h9 := l_X5_read_s hs
    cases z with
    | inl y => exact s_le.tr h9 hk
    | inr q => cases hk; exact h9) h
theorem b_X5_read {v0 : Nat} {v1 : Int32} {σ : sS} {q : Int32 × sS} (h : F_X5_read v0 v1 σ = some q) : ∃ fs, σ.1 v0 = some (.inr (5, fs)) := by
  unfold F_X5_read at h
  obtain ⟨u, hu, -⟩ := s_bind h
  exact s_is_to hu
set_option maxRecDepth 100000 in
set_option maxHeartbeats 4000000 in
theorem v_X5_read_0 {G : sG} {d : Nat} {vs0 : List Value} {σ0 : sS} {v0 : Nat} {v1 : Int32} {σ : sS} {z : sZ Int32} {r : Int32 × sS} (hf : T_X5_read_0 v0 v1 σ = some z) (k : s_K G (d + 136) M_X5_read vs0 σ0 Y_X5_read e_I z r) : s_V G (d + 136) M_X5_read vs0 σ0 Y_X5_read (0, [.ref v0, .int v1], σ) (e_I r) := by
  have le0 : s_le σ (e_I r).2 := s_lek hem_I (l_X5_read_0 hf) k
  refine ⟨le0, ?_⟩
  intro p e s m below meth c H locs cells slots ls X I hn1 hn2 hl
  have hn : cells + σ0.2.1 ≤ σ.2.1 ∧ slots + σ0.2.2.1 ≤ σ.2.2.1 := ⟨hn1, hn2⟩
  have hl : lv_has ls 3 [(0, .ref v0), (1, .int v1)] := hl
  have hx := X.1
  have hb : c.code = cX5_read := X.2.1
  have hown : s.vm.findClass RX5 = some m.cls := X.2.2.2.2.2.1
  have hts := X.2.2.2.2.2.2.1
  refine W.eq (g2 := F0 m 0 ls []) rfl ?_
  unfold T_X5_read_0 at hf
  obtain ⟨σ1, h1, hf⟩ := s_bind hf
  obtain ⟨σ2, h2, hf⟩ := s_bind hf
  obtain ⟨σ3, h3, hf⟩ := s_bind hf
  obtain ⟨σ4, h4, hf⟩ := s_bind hf
  obtain ⟨q5, h5, hf⟩ := s_bind hf
  obtain ⟨q6, h6, hf⟩ := s_bind hf
  have le7 : s_le q6.2 (e_I r).2 := by
    refine s_lek hem_I ?_ k
    rcases s_ite hf with ⟨-, hf⟩ | ⟨-, hf⟩
    · cases hf
      exact s_le.rf
    · obtain ⟨x7, -, hf⟩ := s_bind hf
      obtain ⟨q8, hh, hf⟩ := s_bind hf
      refine s_lz.tr (l_X5_fail hh) ?_
      cases hf
      exact s_le.rf
  have le8 := s_le.tr (l_X5_peek h6) le7
  have le9 := s_le.tr (l_X5_readIf h5) le8
  have le10 := s_le.tr (s_le2 (s_pf_2 h4)) le9
  have le11 := s_le.tr (s_le2 (s_pf_2 h3)) le10
  have le12 := s_le.tr (s_le2 (s_pf_2 h2)) le11
  refine lv_aload_n hx hb dX5_read_0 rfl (lv_at hl 0 rfl) ?_
  refine lv_iload_n hx hb dX5_read_1 rfl (lv_at hl 1 rfl) ?_
  refine r_put X I fp_X5_26 (fun h => by cases h) h1 rfl rfl dX5_read_2 (fun H locs I => ?_)
  have hn := s_k2 (s_pf_2 h1) hn
  refine lv_aload_n hx hb dX5_read_5 rfl (lv_at hl 0 rfl) ?_
  refine lv_iconst (v := 0) hx hb dX5_read_6 (by decide) ?_
  refine r_put X I fp_X5_29 (fun h => by cases h) h2 rfl rfl dX5_read_7 (fun H locs I => ?_)
  have hn := s_k2 (s_pf_2 h2) hn
  refine lv_aload_n hx hb dX5_read_10 rfl (lv_at hl 0 rfl) ?_
  refine lv_iconst (v := 0) hx hb dX5_read_11 (by decide) ?_
  refine r_put X I fp_X5_32 (fun h => by cases h) h3 rfl rfl dX5_read_12 (fun H locs I => ?_)
  have hn := s_k2 (s_pf_2 h3) hn
  refine lv_aload_n hx hb dX5_read_15 rfl (lv_at hl 0 rfl) ?_
  refine lv_iconst (v := (-1)) hx hb dX5_read_16 (by decide) ?_
  refine r_put X I fp_X5_9 (fun h => by cases h) h4 rfl rfl dX5_read_17 (fun H locs I => ?_)
  have hn := s_k2 (s_pf_2 h4) hn
  refine lv_aload_n hx hb dX5_read_20 rfl (lv_at hl 0 rfl) ?_
  refine lv_iconst (v := 0) hx hb dX5_read_21 (by decide) ?_
  refine lv_iconst (v := 0) hx hb dX5_read_22 (by decide) ?_
  refine r_callV (Y := M_X5_readIf) (v := some (.int q5.1)) X I w_701 my_X5_readIf (by omega) (t_X5_readIf (G := G) (d := d + 0) h5) (b_X5_readIf h5) rfl rfl hl.1 rfl (Nat.le_of_ble_eq_true rfl) hn le8 dX5_read_23 (fun H locs cells slots I hn1 hn2 => ?_)
  have I : s_I G q5.2 s H locs := I
  have hn : cells + σ0.2.1 ≤ q5.2.2.1 ∧ slots + σ0.2.2.1 ≤ q5.2.2.2.1 := ⟨hn1, hn2⟩
  refine lv_istore_n (lv' := [(2, .int q5.1), (0, .ref v0), (1, .int v1)]) hx hb dX5_read_26 rfl hl (by decide) rfl (fun ls hl => ?_)
  refine lv_aload_n hx hb dX5_read_27 rfl (lv_at hl 1 rfl) ?_
  refine r_callV (Y := M_X5_peek) (v := some (.int q6.1)) X I w_717 my_X5_peek (by omega) (t_X5_peek (G := G) (d := d + 133) h6) (b_X5_peek h6) rfl rfl hl.1 rfl (Nat.le_of_ble_eq_true rfl) hn le7 dX5_read_28 (fun H locs cells slots I hn1 hn2 => ?_)
  have I : s_I G q6.2 s H locs := I
  have hn : cells + σ0.2.1 ≤ q6.2.2.1 ∧ slots + σ0.2.2.1 ≤ q6.2.2.2.1 := ⟨hn1, hn2⟩
  refine lv_iconst (v := (-1)) hx hb dX5_read_31 (by decide) ?_
  rcases s_ite hf with ⟨c13, hf⟩ | ⟨c13, hf⟩
  · refine lv_icmp_eq (tgt := 44) hx hb dX5_read_32 (by decide) (fun _ => ?_) (fun n => absurd c13 n)
    cases hf
    have k : s_V G (d + 136) M_X5_read vs0 σ0 Y_X5_read (44, [.ref v0, .int q5.1], q6.2) (e_I r) := k
    exact k.2 p e s m below meth c _ _ _ _ _ X I hn.1 hn.2 (lv_sub hl [1, 0] rfl)
  · refine lv_icmp_eq (tgt := 44) hx hb dX5_read_32 (by decide) (fun n => absurd n c13) (fun _ => ?_)
    obtain ⟨x7, h14, hf⟩ := s_bind hf
    obtain ⟨q8, h15, hf⟩ := s_bind hf
    cases hf
    have k : s_V G (d + 136) M_X5_read vs0 σ0 Y_X5_read (44, [.ref v0, .int q5.1], q8.2) (e_I r) := k
    have le16 : s_le q8.2 (e_I r).2 := k.1
    refine lv_aload_n hx hb dX5_read_35 rfl (lv_at hl 1 rfl) ?_
    refine lv_aload_n hx hb dX5_read_36 rfl (lv_at hl 1 rfl) ?_
    refine r_gi X I fl_X5_29 h14 dX5_read_37 ?_
    refine r_callV (Y := M_X5_fail) (v := some (.int q8.1)) X I w_725 my_X5_fail (by omega) (t_X5_fail (G := G) (d := d + 134) h15) (b_X5_fail h15) rfl rfl hl.1 rfl (Nat.le_of_ble_eq_true rfl) hn le16 dX5_read_40 (fun H locs cells slots I hn1 hn2 => ?_)
    have I : s_I G q8.2 s H locs := I
    have hn : cells + σ0.2.1 ≤ q8.2.2.1 ∧ slots + σ0.2.2.1 ≤ q8.2.2.2.1 := ⟨hn1, hn2⟩
    refine lv_pop hx hb dX5_read_43 rfl ?_
    exact k.2 p e s m below meth c _ _ _ _ _ X I hn.1 hn.2 (lv_sub hl [1, 0] rfl)
set_option maxRecDepth 100000 in
set_option maxHeartbeats 4000000 in
theorem v_X5_read_44 {G : sG} {d : Nat} {vs0 : List Value} {σ0 : sS} {v0 : Nat} {v2 : Int32} {σ : sS} {z : sZ Int32} {r : Int32 × sS} (hf : T_X5_read_44 v0 v2 σ = some z) (k : s_K G (d + 136) M_X5_read vs0 σ0 Y_X5_read e_I z r) : s_V G (d + 136) M_X5_read vs0 σ0 Y_X5_read (44, [.ref v0, .int v2], σ) (e_I r) := by
  have le0 : s_le σ (e_I r).2 := s_lek hem_I (l_X5_read_44 hf) k
  refine ⟨le0, ?_⟩
  intro p e s m below meth c H locs cells slots ls X I hn1 hn2 hl
  have hn : cells + σ0.2.1 ≤ σ.2.1 ∧ slots + σ0.2.2.1 ≤ σ.2.2.1 := ⟨hn1, hn2⟩
  have hl : lv_has ls 3 [(0, .ref v0), (2, .int v2)] := hl
  have hx := X.1
  have hb : c.code = cX5_read := X.2.1
  have hown : s.vm.findClass RX5 = some m.cls := X.2.2.2.2.2.1
  have hts := X.2.2.2.2.2.2.1
  refine W.eq (g2 := F0 m 44 ls []) rfl ?_
  unfold T_X5_read_44 at hf
  obtain ⟨σ1, h1, hf⟩ := s_bind hf
  obtain ⟨x2, h2, hf⟩ := s_bind hf
  have le3 : s_le σ1 (e_I r).2 := by
    refine s_lek hem_I ?_ k
    rcases s_ite hf with ⟨-, hf⟩ | ⟨-, hf⟩
    · cases hf
      exact s_le.rf
    · cases hf
      exact s_le.rf
  refine lv_aload_n hx hb dX5_read_44 rfl (lv_at hl 0 rfl) ?_
  refine lv_iconst (v := 0) hx hb dX5_read_45 (by decide) ?_
  refine r_put X I fp_X5_23 (fun h => by cases h) h1 rfl rfl dX5_read_46 (fun H locs I => ?_)
  have hn := s_k2 (s_pf_2 h1) hn
  refine lv_aload_n hx hb dX5_read_49 rfl (lv_at hl 0 rfl) ?_
  refine r_gi X I fl_X5_9 h2 dX5_read_50 ?_
  refine lv_iconst (v := (-1)) hx hb dX5_read_53 (by decide) ?_
  rcases s_ite hf with ⟨c4, hf⟩ | ⟨c4, hf⟩
  · refine lv_icmp_ne (tgt := 61) hx hb dX5_read_54 (by decide) (fun n => absurd c4 n) (fun _ => ?_)
    cases hf
    have k : _ = r := k
    subst k
    refine lv_iload_n hx hb dX5_read_57 rfl (lv_at hl 1 rfl) ?_
    refine lv_goto (tgt := 62) hx hb dX5_read_58 (by decide) ?_
    exact r_iret X I rfl rfl rfl hn dX5_read_62
  · refine lv_icmp_ne (tgt := 61) hx hb dX5_read_54 (by decide) (fun _ => ?_) (fun n => absurd n c4)
    cases hf
    have k : _ = r := k
    subst k
    refine lv_iconst (v := (-1)) hx hb dX5_read_61 (by decide) ?_
    exact r_iret X I rfl rfl rfl hn dX5_read_62
theorem v_X5_read {G : sG} {d : Nat} {vs0 : List Value} {σ0 : sS} {x : sL} {z : sZ Int32} {r : Int32 × sS} (hs : S_X5_read x = some z) (k : s_K G (d + 136) M_X5_read vs0 σ0 Y_X5_read e_I z r) : s_V G (d + 136) M_X5_read vs0 σ0 Y_X5_read x (e_I r) := by
  obtain ⟨pc, vs, σ⟩ := x
  unfold S_X5_read at hs
  dsimp only at hs
  rcases s_ite hs with ⟨c, hs⟩ | ⟨-, hs⟩
  · subst c
    unfold U_X5_read_0 at hs
    obtain ⟨a0, g0, hs⟩ := s_bind hs
    obtain ⟨a1, g1, hs⟩ := s_bind hs
    obtain ⟨u9, ge, hs⟩ := s_bind hs
    rw [g_r_to g0, g_i_to g1, g_e_to ge]
    exact v_X5_read_0 hs k
  rcases s_ite hs with ⟨c, hs⟩ | ⟨-, hs⟩
  · subst c
    unfold U_X5_read_44 at hs
    obtain ⟨a0, g0, hs⟩ := s_bind hs
    obtain ⟨a1, g1, hs⟩ := s_bind hs
    obtain ⟨u9, ge, hs⟩ := s_bind hs
    rw [g_r_to g0, g_i_to g1, g_e_to ge]
    exact v_X5_read_44 hs k
  cases hs
theorem t_X5_read {G : sG} {d : Nat} {v0 : Nat} {v1 : Int32} {σ : sS} {q : Int32 × sS} (h : F_X5_read v0 v1 σ = some q) : s_T G (d + 136) M_X5_read [.ref v0, .int v1] σ (e_I q) := by
  unfold F_X5_read at h
  obtain ⟨-, -, h⟩ := s_bind h
  exact s_ofV rfl (by decide) (Nat.le_of_ble_eq_true rfl) rfl rfl (s_run_ind (V := fun x r => s_V G (d + 136) M_X5_read [.ref v0, .int v1] σ Y_X5_read x (e_I r)) (fun x z r hs hk => v_X5_read hs (by cases z <;> exact hk)) h)
/-! X2_cut -/
noncomputable def T_X2_cut_0 (v0 : Nat) (v1 : Int32) (σ : sS) : Option (sZ Unit) :=
  if v1 < 0 then (some (.inr ((), σ)))
  else ((s_fi σ v0 2 0).bind fun x1 =>
  if v1 < x1 then (some (.inl (15, [.ref v0, .int v1, .int 0], σ)))
  else (some (.inr ((), σ))))
noncomputable def U_X2_cut_0 (vs : List Value) (σ : sS) : Option (sZ Unit) := (g_r vs).bind fun a0 => (g_i a0.2).bind fun a1 => (g_e a1.2).bind fun _ => T_X2_cut_0 a0.1 a1.1 σ
noncomputable def T_X2_cut_15 (v0 : Nat) (v1 : Int32) (v2 : Int32) (σ : sS) : Option (sZ Unit) :=
  if (128 : Int32) ≤ v2 then ((s_pf σ v0 2 0 (.int v1)).bind fun σ1 =>
  some (.inr ((), σ1)))
  else ((s_fr σ v0 2 7).bind fun x2 =>
  (s_ai σ x2 v2).bind fun x3 =>
  some (.inl (32, [.ref v0, .int v1, .int v2, .int x3, .int 0], σ)))
noncomputable def U_X2_cut_15 (vs : List Value) (σ : sS) : Option (sZ Unit) := (g_r vs).bind fun a0 => (g_i a0.2).bind fun a1 => (g_i a1.2).bind fun a2 => (g_e a2.2).bind fun _ => T_X2_cut_15 a0.1 a1.1 a2.1 σ
noncomputable def T_X2_cut_32 (v0 : Nat) (v1 : Int32) (v2 : Int32) (v3 : Int32) (v4 : Int32) (σ : sS) : Option (sZ Unit) :=
  (s_fi σ v0 2 0).bind fun x1 =>
  if x1 ≤ v4 then (some (.inl (67, [.ref v0, .int v1, .int v2, .int v3], σ)))
  else (if v3 < v1 then (some (.inl (67, [.ref v0, .int v1, .int v2, .int v3], σ)))
  else ((s_fi σ v0 2 0).bind fun x2 =>
  if x2 ≤ v3 then (some (.inl (67, [.ref v0, .int v1, .int v2, .int v3], σ)))
  else ((s_fr σ v0 2 5).bind fun x3 =>
  (s_ai σ x3 v3).bind fun x4 =>
  some (.inl (32, [.ref v0, .int v1, .int v2, .int x4, .int (v4 + 1)], σ)))))
noncomputable def U_X2_cut_32 (vs : List Value) (σ : sS) : Option (sZ Unit) := (g_r vs).bind fun a0 => (g_i a0.2).bind fun a1 => (g_i a1.2).bind fun a2 => (g_i a2.2).bind fun a3 => (g_i a3.2).bind fun a4 => (g_e a4.2).bind fun _ => T_X2_cut_32 a0.1 a1.1 a2.1 a3.1 a4.1 σ
noncomputable def T_X2_cut_67 (v0 : Nat) (v1 : Int32) (v2 : Int32) (v3 : Int32) (σ : sS) : Option (sZ Unit) :=
  (s_fr σ v0 2 7).bind fun x1 =>
  (s_si σ x1 v2 v3).bind fun σ2 =>
  some (.inl (15, [.ref v0, .int v1, .int (v2 + 1)], σ2))
noncomputable def U_X2_cut_67 (vs : List Value) (σ : sS) : Option (sZ Unit) := (g_r vs).bind fun a0 => (g_i a0.2).bind fun a1 => (g_i a1.2).bind fun a2 => (g_i a2.2).bind fun a3 => (g_e a3.2).bind fun _ => T_X2_cut_67 a0.1 a1.1 a2.1 a3.1 σ
noncomputable def S_X2_cut (x : sL) : Option (sZ Unit) := if x.1 = 0 then U_X2_cut_0 x.2.1 x.2.2 else if x.1 = 15 then U_X2_cut_15 x.2.1 x.2.2 else if x.1 = 32 then U_X2_cut_32 x.2.1 x.2.2 else if x.1 = 67 then U_X2_cut_67 x.2.1 x.2.2 else none
def Y_X2_cut (pc : Nat) : List Nat := if pc = 0 then [0, 1] else if pc = 15 then [0, 1, 2] else if pc = 32 then [0, 1, 2, 3, 4] else if pc = 67 then [0, 1, 2, 3] else []
noncomputable def F_X2_cut (v0 : Nat) (v1 : Int32) (σ : sS) : Option (Unit × sS) := (s_is σ v0 2).bind fun _ => s_run S_X2_cut (0, [.ref v0, .int v1], σ)
theorem l_X2_cut_0 {v0 : Nat} {v1 : Int32} {σ : sS} {z : sZ Unit} (hf : T_X2_cut_0 v0 v1 σ = some z) : s_lz σ z := by
  unfold T_X2_cut_0 at hf
  rcases s_ite hf with ⟨-, hf⟩ | ⟨-, hf⟩
  · cases hf
    exact s_le.rf
  · obtain ⟨x1, -, hf⟩ := s_bind hf
    rcases s_ite hf with ⟨-, hf⟩ | ⟨-, hf⟩
    · cases hf
      exact s_le.rf
    · cases hf
      exact s_le.rf
theorem l_X2_cut_15 {v0 : Nat} {v1 : Int32} {v2 : Int32} {σ : sS} {z : sZ Unit} (hf : T_X2_cut_15 v0 v1 v2 σ = some z) : s_lz σ z := by
  unfold T_X2_cut_15 at hf
  rcases s_ite hf with ⟨-, hf⟩ | ⟨-, hf⟩
  · obtain ⟨σ1, hh, hf⟩ := s_bind hf
    refine s_lz.tr (s_le2 (s_pf_2 hh)) ?_
    cases hf
    exact s_le.rf
  · obtain ⟨x2, -, hf⟩ := s_bind hf
    obtain ⟨x3, -, hf⟩ := s_bind hf
    cases hf
    exact s_le.rf
theorem l_X2_cut_32 {v0 : Nat} {v1 : Int32} {v2 : Int32} {v3 : Int32} {v4 : Int32} {σ : sS} {z : sZ Unit} (hf : T_X2_cut_32 v0 v1 v2 v3 v4 σ = some z) : s_lz σ z := by
  unfold T_X2_cut_32 at hf
  obtain ⟨x1, -, hf⟩ := s_bind hf
  rcases s_ite hf with ⟨-, hf⟩ | ⟨-, hf⟩
  · cases hf
    exact s_le.rf
  · rcases s_ite hf with ⟨-, hf⟩ | ⟨-, hf⟩
    · cases hf
      exact s_le.rf
    · obtain ⟨x2, -, hf⟩ := s_bind hf
      rcases s_ite hf with ⟨-, hf⟩ | ⟨-, hf⟩
      · cases hf
        exact s_le.rf
      · obtain ⟨x3, -, hf⟩ := s_bind hf
        obtain ⟨x4, -, hf⟩ := s_bind hf
        cases hf
        exact s_le.rf
theorem l_X2_cut_67 {v0 : Nat} {v1 : Int32} {v2 : Int32} {v3 : Int32} {σ : sS} {z : sZ Unit} (hf : T_X2_cut_67 v0 v1 v2 v3 σ = some z) : s_lz σ z := by
  unfold T_X2_cut_67 at hf
  obtain ⟨x1, -, hf⟩ := s_bind hf
  obtain ⟨σ2, hh, hf⟩ := s_bind hf
  refine s_lz.tr (s_le2 (s_si_2 hh)) ?_
  cases hf
  exact s_le.rf
theorem l_X2_cut_s {x : sL} {z : sZ Unit} (hs : S_X2_cut x = some z) : s_lz x.2.2 z := by
  obtain ⟨pc, vs, σ⟩ := x
  unfold S_X2_cut at hs
  dsimp only at hs ⊢
  rcases s_ite hs with ⟨c, hs⟩ | ⟨-, hs⟩
  · subst c
    unfold U_X2_cut_0 at hs
    obtain ⟨a0, g0, hs⟩ := s_bind hs
    obtain ⟨a1, g1, hs⟩ := s_bind hs
    obtain ⟨u9, ge, hs⟩ := s_bind hs
    exact l_X2_cut_0 hs
  rcases s_ite hs with ⟨c, hs⟩ | ⟨-, hs⟩
  · subst c
    unfold U_X2_cut_15 at hs
    obtain ⟨a0, g0, hs⟩ := s_bind hs
    obtain ⟨a1, g1, hs⟩ := s_bind hs
    obtain ⟨a2, g2, hs⟩ := s_bind hs
    obtain ⟨u9, ge, hs⟩ := s_bind hs
    exact l_X2_cut_15 hs
  rcases s_ite hs with ⟨c, hs⟩ | ⟨-, hs⟩
  · subst c
    unfold U_X2_cut_32 at hs
    obtain ⟨a0, g0, hs⟩ := s_bind hs
    obtain ⟨a1, g1, hs⟩ := s_bind hs
    obtain ⟨a2, g2, hs⟩ := s_bind hs
    obtain ⟨a3, g3, hs⟩ := s_bind hs
    obtain ⟨a4, g4, hs⟩ := s_bind hs
    obtain ⟨u9, ge, hs⟩ := s_bind hs
    exact l_X2_cut_32 hs
  rcases s_ite hs with ⟨c, hs⟩ | ⟨-, hs⟩
  · subst c
    unfold U_X2_cut_67 at hs
    obtain ⟨a0, g0, hs⟩ := s_bind hs
    obtain ⟨a1, g1, hs⟩ := s_bind hs
    obtain ⟨a2, g2, hs⟩ := s_bind hs
    obtain ⟨a3, g3, hs⟩ := s_bind hs
    obtain ⟨u9, ge, hs⟩ := s_bind hs
    exact l_X2_cut_67 hs
  cases hs
theorem l_X2_cut {v0 : Nat} {v1 : Int32} {σ : sS} {q : Unit × sS} (h : F_X2_cut v0 v1 σ = some q) : s_le σ q.2 := by
  unfold F_X2_cut at h
  obtain ⟨-, -, h⟩ := s_bind h
  exact s_run_ind (V := fun x r => s_le x.2.2 r.2) (fun x z r hs hk => by
    have h9 := l_X2_cut_s hs
    cases z with
    | inl y => exact s_le.tr h9 hk
    | inr q => cases hk; exact h9) h
theorem b_X2_cut {v0 : Nat} {v1 : Int32} {σ : sS} {q : Unit × sS} (h : F_X2_cut v0 v1 σ = some q) : ∃ fs, σ.1 v0 = some (.inr (2, fs)) := by
  unfold F_X2_cut at h
  obtain ⟨u, hu, -⟩ := s_bind h
  exact s_is_to hu
set_option maxRecDepth 100000 in
set_option maxHeartbeats 4000000 in
theorem v_X2_cut_0 {G : sG} {d : Nat} {vs0 : List Value} {σ0 : sS} {v0 : Nat} {v1 : Int32} {σ : sS} {z : sZ Unit} {r : Unit × sS} (hf : T_X2_cut_0 v0 v1 σ = some z) (k : s_K G (d + 1) M_X2_cut vs0 σ0 Y_X2_cut e_V z r) : s_V G (d + 1) M_X2_cut vs0 σ0 Y_X2_cut (0, [.ref v0, .int v1], σ) (e_V r) := by
  have le0 : s_le σ (e_V r).2 := s_lek hem_V (l_X2_cut_0 hf) k
  refine ⟨le0, ?_⟩
  intro p e s m below meth c H locs cells slots ls X I hn1 hn2 hl
  have hn : cells + σ0.2.1 ≤ σ.2.1 ∧ slots + σ0.2.2.1 ≤ σ.2.2.1 := ⟨hn1, hn2⟩
  have hl : lv_has ls 5 [(0, .ref v0), (1, .int v1)] := hl
  have hx := X.1
  have hb : c.code = cX2_cut := X.2.1
  have hown : s.vm.findClass RX2 = some m.cls := X.2.2.2.2.2.1
  have hts := X.2.2.2.2.2.2.1
  refine W.eq (g2 := F0 m 0 ls []) rfl ?_
  unfold T_X2_cut_0 at hf
  refine lv_iload_n hx hb dX2_cut_0 rfl (lv_at hl 1 rfl) ?_
  rcases s_ite hf with ⟨c1, hf⟩ | ⟨c1, hf⟩
  · refine lv_if_lt (tgt := 12) hx hb dX2_cut_1 (by decide) (fun _ => ?_) (fun n => absurd c1 n)
    cases hf
    have k : _ = r := k
    subst k
    exact r_vret X I rfl rfl hn dX2_cut_12
  · refine lv_if_lt (tgt := 12) hx hb dX2_cut_1 (by decide) (fun n => absurd n c1) (fun _ => ?_)
    obtain ⟨x1, h2, hf⟩ := s_bind hf
    refine lv_iload_n hx hb dX2_cut_4 rfl (lv_at hl 1 rfl) ?_
    refine lv_aload_n hx hb dX2_cut_5 rfl (lv_at hl 0 rfl) ?_
    refine r_gi X I fl_X2_39 h2 dX2_cut_6 ?_
    rcases s_ite hf with ⟨c3, hf⟩ | ⟨c3, hf⟩
    · refine lv_icmp_lt (tgt := 13) hx hb dX2_cut_9 (by decide) (fun _ => ?_) (fun n => absurd c3 n)
      cases hf
      have k : s_V G (d + 1) M_X2_cut vs0 σ0 Y_X2_cut (15, [.ref v0, .int v1, .int 0], σ) (e_V r) := k
      refine lv_iconst (v := 0) hx hb dX2_cut_13 (by decide) ?_
      refine lv_istore_n (lv' := [(2, .int 0), (0, .ref v0), (1, .int v1)]) hx hb dX2_cut_14 rfl hl (by decide) rfl (fun ls hl => ?_)
      exact k.2 p e s m below meth c _ _ _ _ _ X I hn.1 hn.2 (lv_sub hl [1, 2, 0] rfl)
    · refine lv_icmp_lt (tgt := 13) hx hb dX2_cut_9 (by decide) (fun n => absurd n c3) (fun _ => ?_)
      cases hf
      have k : _ = r := k
      subst k
      exact r_vret X I rfl rfl hn dX2_cut_12
set_option maxRecDepth 100000 in
set_option maxHeartbeats 4000000 in
theorem v_X2_cut_15 {G : sG} {d : Nat} {vs0 : List Value} {σ0 : sS} {v0 : Nat} {v1 : Int32} {v2 : Int32} {σ : sS} {z : sZ Unit} {r : Unit × sS} (hf : T_X2_cut_15 v0 v1 v2 σ = some z) (k : s_K G (d + 1) M_X2_cut vs0 σ0 Y_X2_cut e_V z r) : s_V G (d + 1) M_X2_cut vs0 σ0 Y_X2_cut (15, [.ref v0, .int v1, .int v2], σ) (e_V r) := by
  have le0 : s_le σ (e_V r).2 := s_lek hem_V (l_X2_cut_15 hf) k
  refine ⟨le0, ?_⟩
  intro p e s m below meth c H locs cells slots ls X I hn1 hn2 hl
  have hn : cells + σ0.2.1 ≤ σ.2.1 ∧ slots + σ0.2.2.1 ≤ σ.2.2.1 := ⟨hn1, hn2⟩
  have hl : lv_has ls 5 [(0, .ref v0), (1, .int v1), (2, .int v2)] := hl
  have hx := X.1
  have hb : c.code = cX2_cut := X.2.1
  have hown : s.vm.findClass RX2 = some m.cls := X.2.2.2.2.2.1
  have hts := X.2.2.2.2.2.2.1
  refine W.eq (g2 := F0 m 15 ls []) rfl ?_
  unfold T_X2_cut_15 at hf
  refine lv_iload_n hx hb dX2_cut_15 rfl (lv_at hl 2 rfl) ?_
  refine lv_sipush (v := 128) hx hb dX2_cut_16 (by decide) ?_
  rcases s_ite hf with ⟨c1, hf⟩ | ⟨c1, hf⟩
  · refine lv_icmp_ge (tgt := 80) hx hb dX2_cut_19 (by decide) (fun _ => ?_) (fun n => absurd c1 n)
    obtain ⟨σ1, h2, hf⟩ := s_bind hf
    cases hf
    have k : _ = r := k
    subst k
    have le3 : s_le σ1 σ1 := s_le.rf
    refine lv_aload_n hx hb dX2_cut_80 rfl (lv_at hl 0 rfl) ?_
    refine lv_iload_n hx hb dX2_cut_81 rfl (lv_at hl 1 rfl) ?_
    refine r_put X I fp_X2_39 (fun h => by cases h) h2 rfl rfl dX2_cut_82 (fun H locs I => ?_)
    have hn := s_k2 (s_pf_2 h2) hn
    exact r_vret X I rfl rfl hn dX2_cut_85
  · refine lv_icmp_ge (tgt := 80) hx hb dX2_cut_19 (by decide) (fun n => absurd n c1) (fun _ => ?_)
    obtain ⟨x2, h4, hf⟩ := s_bind hf
    obtain ⟨x3, h5, hf⟩ := s_bind hf
    cases hf
    have k : s_V G (d + 1) M_X2_cut vs0 σ0 Y_X2_cut (32, [.ref v0, .int v1, .int v2, .int x3, .int 0], σ) (e_V r) := k
    refine lv_aload_n hx hb dX2_cut_22 rfl (lv_at hl 0 rfl) ?_
    refine r_gr X I fl_X2_30 h4 dX2_cut_23 ?_
    refine lv_iload_n hx hb dX2_cut_26 rfl (lv_at hl 2 rfl) ?_
    refine r_iald X I h5 dX2_cut_27 ?_
    refine lv_istore_n (lv' := [(3, .int x3), (0, .ref v0), (1, .int v1), (2, .int v2)]) hx hb dX2_cut_28 rfl hl (by decide) rfl (fun ls hl => ?_)
    refine lv_iconst (v := 0) hx hb dX2_cut_29 (by decide) ?_
    refine lv_istore (lv' := [(4, .int 0), (3, .int x3), (0, .ref v0), (1, .int v1), (2, .int v2)]) hx hb dX2_cut_30 hl (by decide) rfl (fun ls hl => ?_)
    exact k.2 p e s m below meth c _ _ _ _ _ X I hn.1 hn.2 (lv_sub hl [2, 3, 4, 1, 0] rfl)
set_option maxRecDepth 100000 in
set_option maxHeartbeats 4000000 in
theorem v_X2_cut_32 {G : sG} {d : Nat} {vs0 : List Value} {σ0 : sS} {v0 : Nat} {v1 : Int32} {v2 : Int32} {v3 : Int32} {v4 : Int32} {σ : sS} {z : sZ Unit} {r : Unit × sS} (hf : T_X2_cut_32 v0 v1 v2 v3 v4 σ = some z) (k : s_K G (d + 1) M_X2_cut vs0 σ0 Y_X2_cut e_V z r) : s_V G (d + 1) M_X2_cut vs0 σ0 Y_X2_cut (32, [.ref v0, .int v1, .int v2, .int v3, .int v4], σ) (e_V r) := by
  have le0 : s_le σ (e_V r).2 := s_lek hem_V (l_X2_cut_32 hf) k
  refine ⟨le0, ?_⟩
  intro p e s m below meth c H locs cells slots ls X I hn1 hn2 hl
  have hn : cells + σ0.2.1 ≤ σ.2.1 ∧ slots + σ0.2.2.1 ≤ σ.2.2.1 := ⟨hn1, hn2⟩
  have hl : lv_has ls 5 [(0, .ref v0), (1, .int v1), (2, .int v2), (3, .int v3), (4, .int v4)] := hl
  have hx := X.1
  have hb : c.code = cX2_cut := X.2.1
  have hown : s.vm.findClass RX2 = some m.cls := X.2.2.2.2.2.1
  have hts := X.2.2.2.2.2.2.1
  refine W.eq (g2 := F0 m 32 ls []) rfl ?_
  unfold T_X2_cut_32 at hf
  obtain ⟨x1, h1, hf⟩ := s_bind hf
  refine lv_iload hx hb dX2_cut_32 (lv_at hl 4 rfl) ?_
  refine lv_aload_n hx hb dX2_cut_34 rfl (lv_at hl 0 rfl) ?_
  refine r_gi X I fl_X2_39 h1 dX2_cut_35 ?_
  rcases s_ite hf with ⟨c2, hf⟩ | ⟨c2, hf⟩
  · refine lv_icmp_ge (tgt := 67) hx hb dX2_cut_38 (by decide) (fun _ => ?_) (fun n => absurd c2 n)
    cases hf
    have k : s_V G (d + 1) M_X2_cut vs0 σ0 Y_X2_cut (67, [.ref v0, .int v1, .int v2, .int v3], σ) (e_V r) := k
    exact k.2 p e s m below meth c _ _ _ _ _ X I hn.1 hn.2 (lv_sub hl [0, 1, 2, 3] rfl)
  · refine lv_icmp_ge (tgt := 67) hx hb dX2_cut_38 (by decide) (fun n => absurd n c2) (fun _ => ?_)
    refine lv_iload_n hx hb dX2_cut_41 rfl (lv_at hl 3 rfl) ?_
    refine lv_iload_n hx hb dX2_cut_42 rfl (lv_at hl 1 rfl) ?_
    rcases s_ite hf with ⟨c3, hf⟩ | ⟨c3, hf⟩
    · refine lv_icmp_lt (tgt := 67) hx hb dX2_cut_43 (by decide) (fun _ => ?_) (fun n => absurd c3 n)
      cases hf
      have k : s_V G (d + 1) M_X2_cut vs0 σ0 Y_X2_cut (67, [.ref v0, .int v1, .int v2, .int v3], σ) (e_V r) := k
      exact k.2 p e s m below meth c _ _ _ _ _ X I hn.1 hn.2 (lv_sub hl [0, 1, 2, 3] rfl)
    · refine lv_icmp_lt (tgt := 67) hx hb dX2_cut_43 (by decide) (fun n => absurd n c3) (fun _ => ?_)
      obtain ⟨x2, h4, hf⟩ := s_bind hf
      refine lv_iload_n hx hb dX2_cut_46 rfl (lv_at hl 3 rfl) ?_
      refine lv_aload_n hx hb dX2_cut_47 rfl (lv_at hl 0 rfl) ?_
      refine r_gi X I fl_X2_39 h4 dX2_cut_48 ?_
      rcases s_ite hf with ⟨c5, hf⟩ | ⟨c5, hf⟩
      · refine lv_icmp_ge (tgt := 67) hx hb dX2_cut_51 (by decide) (fun _ => ?_) (fun n => absurd c5 n)
        cases hf
        have k : s_V G (d + 1) M_X2_cut vs0 σ0 Y_X2_cut (67, [.ref v0, .int v1, .int v2, .int v3], σ) (e_V r) := k
        exact k.2 p e s m below meth c _ _ _ _ _ X I hn.1 hn.2 (lv_sub hl [0, 1, 2, 3] rfl)
      · refine lv_icmp_ge (tgt := 67) hx hb dX2_cut_51 (by decide) (fun n => absurd n c5) (fun _ => ?_)
        obtain ⟨x3, h6, hf⟩ := s_bind hf
        obtain ⟨x4, h7, hf⟩ := s_bind hf
        cases hf
        have k : s_V G (d + 1) M_X2_cut vs0 σ0 Y_X2_cut (32, [.ref v0, .int v1, .int v2, .int x4, .int (v4 + 1)], σ) (e_V r) := k
        refine lv_aload_n hx hb dX2_cut_54 rfl (lv_at hl 0 rfl) ?_
        refine r_gr X I fl_X2_24 h6 dX2_cut_55 ?_
        refine lv_iload_n hx hb dX2_cut_58 rfl (lv_at hl 3 rfl) ?_
        refine r_iald X I h7 dX2_cut_59 ?_
        refine lv_istore_n (lv' := [(3, .int x4), (0, .ref v0), (1, .int v1), (2, .int v2), (4, .int v4)]) hx hb dX2_cut_60 rfl hl (by decide) rfl (fun ls hl => ?_)
        refine lv_iinc (v := (v4 + 1)) (lv' := [(4, .int (v4 + 1)), (3, .int x4), (0, .ref v0), (1, .int v1), (2, .int v2)]) hx hb dX2_cut_61 hl (k := 4) rfl rfl (by decide) rfl (fun ls hl => ?_)
        refine lv_goto (tgt := 32) hx hb dX2_cut_64 (by decide) ?_
        exact k.2 p e s m below meth c _ _ _ _ _ X I hn.1 hn.2 (lv_sub hl [2, 3, 4, 1, 0] rfl)
set_option maxRecDepth 100000 in
set_option maxHeartbeats 4000000 in
theorem v_X2_cut_67 {G : sG} {d : Nat} {vs0 : List Value} {σ0 : sS} {v0 : Nat} {v1 : Int32} {v2 : Int32} {v3 : Int32} {σ : sS} {z : sZ Unit} {r : Unit × sS} (hf : T_X2_cut_67 v0 v1 v2 v3 σ = some z) (k : s_K G (d + 1) M_X2_cut vs0 σ0 Y_X2_cut e_V z r) : s_V G (d + 1) M_X2_cut vs0 σ0 Y_X2_cut (67, [.ref v0, .int v1, .int v2, .int v3], σ) (e_V r) := by
  have le0 : s_le σ (e_V r).2 := s_lek hem_V (l_X2_cut_67 hf) k
  refine ⟨le0, ?_⟩
  intro p e s m below meth c H locs cells slots ls X I hn1 hn2 hl
  have hn : cells + σ0.2.1 ≤ σ.2.1 ∧ slots + σ0.2.2.1 ≤ σ.2.2.1 := ⟨hn1, hn2⟩
  have hl : lv_has ls 5 [(0, .ref v0), (1, .int v1), (2, .int v2), (3, .int v3)] := hl
  have hx := X.1
  have hb : c.code = cX2_cut := X.2.1
  have hown : s.vm.findClass RX2 = some m.cls := X.2.2.2.2.2.1
  have hts := X.2.2.2.2.2.2.1
  refine W.eq (g2 := F0 m 67 ls []) rfl ?_
  unfold T_X2_cut_67 at hf
  obtain ⟨x1, h1, hf⟩ := s_bind hf
  obtain ⟨σ2, h2, hf⟩ := s_bind hf
  cases hf
  have k : s_V G (d + 1) M_X2_cut vs0 σ0 Y_X2_cut (15, [.ref v0, .int v1, .int (v2 + 1)], σ2) (e_V r) := k
  have le3 : s_le σ2 (e_V r).2 := k.1
  refine lv_aload_n hx hb dX2_cut_67 rfl (lv_at hl 0 rfl) ?_
  refine r_gr X I fl_X2_30 h1 dX2_cut_68 ?_
  refine lv_iload_n hx hb dX2_cut_71 rfl (lv_at hl 2 rfl) ?_
  refine lv_iload_n hx hb dX2_cut_72 rfl (lv_at hl 3 rfl) ?_
  refine r_iast X I h2 dX2_cut_73 (fun H locs I => ?_)
  have hn := s_k2 (s_si_2 h2) hn
  refine lv_iinc (v := (v2 + 1)) (lv' := [(2, .int (v2 + 1)), (0, .ref v0), (1, .int v1), (3, .int v3)]) hx hb dX2_cut_74 hl (k := 2) rfl rfl (by decide) rfl (fun ls hl => ?_)
  refine lv_goto (tgt := 15) hx hb dX2_cut_77 (by decide) ?_
  exact k.2 p e s m below meth c _ _ _ _ _ X I hn.1 hn.2 (lv_sub hl [1, 2, 0] rfl)
theorem v_X2_cut {G : sG} {d : Nat} {vs0 : List Value} {σ0 : sS} {x : sL} {z : sZ Unit} {r : Unit × sS} (hs : S_X2_cut x = some z) (k : s_K G (d + 1) M_X2_cut vs0 σ0 Y_X2_cut e_V z r) : s_V G (d + 1) M_X2_cut vs0 σ0 Y_X2_cut x (e_V r) := by
  obtain ⟨pc, vs, σ⟩ := x
  unfold S_X2_cut at hs
  dsimp only at hs
  rcases s_ite hs with ⟨c, hs⟩ | ⟨-, hs⟩
  · subst c
    unfold U_X2_cut_0 at hs
    obtain ⟨a0, g0, hs⟩ := s_bind hs
    obtain ⟨a1, g1, hs⟩ := s_bind hs
    obtain ⟨u9, ge, hs⟩ := s_bind hs
    rw [g_r_to g0, g_i_to g1, g_e_to ge]
    exact v_X2_cut_0 hs k
  rcases s_ite hs with ⟨c, hs⟩ | ⟨-, hs⟩
  · subst c
    unfold U_X2_cut_15 at hs
    obtain ⟨a0, g0, hs⟩ := s_bind hs
    obtain ⟨a1, g1, hs⟩ := s_bind hs
    obtain ⟨a2, g2, hs⟩ := s_bind hs
    obtain ⟨u9, ge, hs⟩ := s_bind hs
    rw [g_r_to g0, g_i_to g1, g_i_to g2, g_e_to ge]
    exact v_X2_cut_15 hs k
  rcases s_ite hs with ⟨c, hs⟩ | ⟨-, hs⟩
  · subst c
    unfold U_X2_cut_32 at hs
    obtain ⟨a0, g0, hs⟩ := s_bind hs
    obtain ⟨a1, g1, hs⟩ := s_bind hs
    obtain ⟨a2, g2, hs⟩ := s_bind hs
    obtain ⟨a3, g3, hs⟩ := s_bind hs
    obtain ⟨a4, g4, hs⟩ := s_bind hs
    obtain ⟨u9, ge, hs⟩ := s_bind hs
    rw [g_r_to g0, g_i_to g1, g_i_to g2, g_i_to g3, g_i_to g4, g_e_to ge]
    exact v_X2_cut_32 hs k
  rcases s_ite hs with ⟨c, hs⟩ | ⟨-, hs⟩
  · subst c
    unfold U_X2_cut_67 at hs
    obtain ⟨a0, g0, hs⟩ := s_bind hs
    obtain ⟨a1, g1, hs⟩ := s_bind hs
    obtain ⟨a2, g2, hs⟩ := s_bind hs
    obtain ⟨a3, g3, hs⟩ := s_bind hs
    obtain ⟨u9, ge, hs⟩ := s_bind hs
    rw [g_r_to g0, g_i_to g1, g_i_to g2, g_i_to g3, g_e_to ge]
    exact v_X2_cut_67 hs k
  cases hs
theorem t_X2_cut {G : sG} {d : Nat} {v0 : Nat} {v1 : Int32} {σ : sS} {q : Unit × sS} (h : F_X2_cut v0 v1 σ = some q) : s_T G (d + 1) M_X2_cut [.ref v0, .int v1] σ (e_V q) := by
  unfold F_X2_cut at h
  obtain ⟨-, -, h⟩ := s_bind h
  exact s_ofV rfl (by decide) (Nat.le_of_ble_eq_true rfl) rfl rfl (s_run_ind (V := fun x r => s_V G (d + 1) M_X2_cut [.ref v0, .int v1] σ Y_X2_cut x (e_V r)) (fun x z r hs hk => v_X2_cut hs (by cases z <;> exact hk)) h)
/-! X2_column -/
noncomputable def T_X2_column_0 (v0 : Int32) (v1 : Int32) (σ : sS) : Option (sZ Int64) :=
  if v0 < 0 then (some (.inl (18, [.int v0, .int v1], σ)))
  else ((s_len σ (σ.2.2.2 1)).bind fun x1 =>
  if x1 ≤ v0 then (some (.inl (18, [.int v0, .int v1], σ)))
  else ((s_al σ (σ.2.2.2 1) v0).bind fun x2 =>
  some (.inr (x2, σ))))
noncomputable def U_X2_column_0 (vs : List Value) (σ : sS) : Option (sZ Int64) := (g_i vs).bind fun a0 => (g_i a0.2).bind fun a1 => (g_e a1.2).bind fun _ => T_X2_column_0 a0.1 a1.1 σ
noncomputable def T_X2_column_18 (v0 : Int32) (v1 : Int32) (σ : sS) : Option (sZ Int64) :=
  (s_len σ (σ.2.2.2 1)).bind fun x1 =>
  if ((v1 >>> ((v0 - x1) &&& 31)) &&& 1) = 0 then (some (.inr (0, σ)))
  else (some (.inr ((-1), σ)))
noncomputable def U_X2_column_18 (vs : List Value) (σ : sS) : Option (sZ Int64) := (g_i vs).bind fun a0 => (g_i a0.2).bind fun a1 => (g_e a1.2).bind fun _ => T_X2_column_18 a0.1 a1.1 σ
noncomputable def S_X2_column (x : sL) : Option (sZ Int64) := if x.1 = 0 then U_X2_column_0 x.2.1 x.2.2 else if x.1 = 18 then U_X2_column_18 x.2.1 x.2.2 else none
def Y_X2_column (pc : Nat) : List Nat := if pc = 0 then [0, 1] else if pc = 18 then [0, 1] else []
noncomputable def F_X2_column (v0 : Int32) (v1 : Int32) (σ : sS) : Option (Int64 × sS) := s_run S_X2_column (0, [.int v0, .int v1], σ)
theorem l_X2_column_0 {v0 : Int32} {v1 : Int32} {σ : sS} {z : sZ Int64} (hf : T_X2_column_0 v0 v1 σ = some z) : s_lz σ z := by
  unfold T_X2_column_0 at hf
  rcases s_ite hf with ⟨-, hf⟩ | ⟨-, hf⟩
  · cases hf
    exact s_le.rf
  · obtain ⟨x1, -, hf⟩ := s_bind hf
    rcases s_ite hf with ⟨-, hf⟩ | ⟨-, hf⟩
    · cases hf
      exact s_le.rf
    · obtain ⟨x2, -, hf⟩ := s_bind hf
      cases hf
      exact s_le.rf
theorem l_X2_column_18 {v0 : Int32} {v1 : Int32} {σ : sS} {z : sZ Int64} (hf : T_X2_column_18 v0 v1 σ = some z) : s_lz σ z := by
  unfold T_X2_column_18 at hf
  obtain ⟨x1, -, hf⟩ := s_bind hf
  rcases s_ite hf with ⟨-, hf⟩ | ⟨-, hf⟩
  · cases hf
    exact s_le.rf
  · cases hf
    exact s_le.rf
theorem l_X2_column_s {x : sL} {z : sZ Int64} (hs : S_X2_column x = some z) : s_lz x.2.2 z := by
  obtain ⟨pc, vs, σ⟩ := x
  unfold S_X2_column at hs
  dsimp only at hs ⊢
  rcases s_ite hs with ⟨c, hs⟩ | ⟨-, hs⟩
  · subst c
    unfold U_X2_column_0 at hs
    obtain ⟨a0, g0, hs⟩ := s_bind hs
    obtain ⟨a1, g1, hs⟩ := s_bind hs
    obtain ⟨u9, ge, hs⟩ := s_bind hs
    exact l_X2_column_0 hs
  rcases s_ite hs with ⟨c, hs⟩ | ⟨-, hs⟩
  · subst c
    unfold U_X2_column_18 at hs
    obtain ⟨a0, g0, hs⟩ := s_bind hs
    obtain ⟨a1, g1, hs⟩ := s_bind hs
    obtain ⟨u9, ge, hs⟩ := s_bind hs
    exact l_X2_column_18 hs
  cases hs
theorem l_X2_column {v0 : Int32} {v1 : Int32} {σ : sS} {q : Int64 × sS} (h : F_X2_column v0 v1 σ = some q) : s_le σ q.2 := by
  unfold F_X2_column at h
  exact s_run_ind (V := fun x r => s_le x.2.2 r.2) (fun x z r hs hk => by
    have h9 := l_X2_column_s hs
    cases z with
    | inl y => exact s_le.tr h9 hk
    | inr q => cases hk; exact h9) h
set_option maxRecDepth 100000 in
set_option maxHeartbeats 4000000 in
theorem v_X2_column_0 {G : sG} {d : Nat} {vs0 : List Value} {σ0 : sS} {v0 : Int32} {v1 : Int32} {σ : sS} {z : sZ Int64} {r : Int64 × sS} (hf : T_X2_column_0 v0 v1 σ = some z) (k : s_K G (d + 1) M_X2_column vs0 σ0 Y_X2_column e_J z r) : s_V G (d + 1) M_X2_column vs0 σ0 Y_X2_column (0, [.int v0, .int v1], σ) (e_J r) := by
  have le0 : s_le σ (e_J r).2 := s_lek hem_J (l_X2_column_0 hf) k
  refine ⟨le0, ?_⟩
  intro p e s m below meth c H locs cells slots ls X I hn1 hn2 hl
  have hn : cells + σ0.2.1 ≤ σ.2.1 ∧ slots + σ0.2.2.1 ≤ σ.2.2.1 := ⟨hn1, hn2⟩
  have hl : lv_has ls 2 [(0, .int v0), (1, .int v1)] := hl
  have hx := X.1
  have hb : c.code = cX2_column := X.2.1
  have hown : s.vm.findClass RX2 = some m.cls := X.2.2.2.2.2.1
  have hts := X.2.2.2.2.2.2.1
  refine W.eq (g2 := F0 m 0 ls []) rfl ?_
  unfold T_X2_column_0 at hf
  refine lv_iload_n hx hb dX2_column_0 rfl (lv_at hl 0 rfl) ?_
  rcases s_ite hf with ⟨c1, hf⟩ | ⟨c1, hf⟩
  · refine lv_if_lt (tgt := 18) hx hb dX2_column_1 (by decide) (fun _ => ?_) (fun n => absurd c1 n)
    cases hf
    have k : s_V G (d + 1) M_X2_column vs0 σ0 Y_X2_column (18, [.int v0, .int v1], σ) (e_J r) := k
    exact k.2 p e s m below meth c _ _ _ _ _ X I hn.1 hn.2 (lv_sub hl [0, 1] rfl)
  · refine lv_if_lt (tgt := 18) hx hb dX2_column_1 (by decide) (fun n => absurd n c1) (fun _ => ?_)
    obtain ⟨x1, h2, hf⟩ := s_bind hf
    refine lv_iload_n hx hb dX2_column_4 rfl (lv_at hl 0 rfl) ?_
    refine r_gets X I.1.2.2.2.2.2.1.2.2.2.1 w_974 dX2_column_5 ?_
    refine r_alen X I h2 dX2_column_8 ?_
    rcases s_ite hf with ⟨c3, hf⟩ | ⟨c3, hf⟩
    · refine lv_icmp_ge (tgt := 18) hx hb dX2_column_9 (by decide) (fun _ => ?_) (fun n => absurd c3 n)
      cases hf
      have k : s_V G (d + 1) M_X2_column vs0 σ0 Y_X2_column (18, [.int v0, .int v1], σ) (e_J r) := k
      exact k.2 p e s m below meth c _ _ _ _ _ X I hn.1 hn.2 (lv_sub hl [0, 1] rfl)
    · refine lv_icmp_ge (tgt := 18) hx hb dX2_column_9 (by decide) (fun n => absurd n c3) (fun _ => ?_)
      obtain ⟨x2, h4, hf⟩ := s_bind hf
      cases hf
      have k : _ = r := k
      subst k
      refine r_gets X I.1.2.2.2.2.2.1.2.2.2.1 w_974 dX2_column_12 ?_
      refine lv_iload_n hx hb dX2_column_15 rfl (lv_at hl 0 rfl) ?_
      refine r_lald X I h4 dX2_column_16 ?_
      exact r_lret X I rfl rfl hn dX2_column_17
set_option maxRecDepth 100000 in
set_option maxHeartbeats 4000000 in
theorem v_X2_column_18 {G : sG} {d : Nat} {vs0 : List Value} {σ0 : sS} {v0 : Int32} {v1 : Int32} {σ : sS} {z : sZ Int64} {r : Int64 × sS} (hf : T_X2_column_18 v0 v1 σ = some z) (k : s_K G (d + 1) M_X2_column vs0 σ0 Y_X2_column e_J z r) : s_V G (d + 1) M_X2_column vs0 σ0 Y_X2_column (18, [.int v0, .int v1], σ) (e_J r) := by
  have le0 : s_le σ (e_J r).2 := s_lek hem_J (l_X2_column_18 hf) k
  refine ⟨le0, ?_⟩
  intro p e s m below meth c H locs cells slots ls X I hn1 hn2 hl
  have hn : cells + σ0.2.1 ≤ σ.2.1 ∧ slots + σ0.2.2.1 ≤ σ.2.2.1 := ⟨hn1, hn2⟩
  have hl : lv_has ls 2 [(0, .int v0), (1, .int v1)] := hl
  have hx := X.1
  have hb : c.code = cX2_column := X.2.1
  have hown : s.vm.findClass RX2 = some m.cls := X.2.2.2.2.2.1
  have hts := X.2.2.2.2.2.2.1
  refine W.eq (g2 := F0 m 18 ls []) rfl ?_
  unfold T_X2_column_18 at hf
  obtain ⟨x1, h1, hf⟩ := s_bind hf
  refine lv_iload_n hx hb dX2_column_18 rfl (lv_at hl 1 rfl) ?_
  refine lv_iload_n hx hb dX2_column_19 rfl (lv_at hl 0 rfl) ?_
  refine r_gets X I.1.2.2.2.2.2.1.2.2.2.1 w_974 dX2_column_20 ?_
  refine r_alen X I h1 dX2_column_23 ?_
  refine lv_isub hx hb dX2_column_24 ?_
  refine lv_ishr hx hb dX2_column_25 ?_
  refine lv_iconst (v := 1) hx hb dX2_column_26 (by decide) ?_
  refine lv_iand hx hb dX2_column_27 ?_
  rcases s_ite hf with ⟨c2, hf⟩ | ⟨c2, hf⟩
  · refine lv_if_ne (tgt := 35) hx hb dX2_column_28 (by decide) (fun n => absurd c2 n) (fun _ => ?_)
    cases hf
    have k : _ = r := k
    subst k
    refine lv_lconst (v := 0) hx hb dX2_column_31 (by decide) ?_
    refine lv_goto (tgt := 38) hx hb dX2_column_32 (by decide) ?_
    exact r_lret X I rfl rfl hn dX2_column_38
  · refine lv_if_ne (tgt := 35) hx hb dX2_column_28 (by decide) (fun _ => ?_) (fun n => absurd n c2)
    cases hf
    have k : _ = r := k
    subst k
    refine lv_ldc2 (own := RX2) hx hb hown (hts _ w_976) dX2_column_35 ?_
    exact r_lret X I rfl rfl hn dX2_column_38
theorem v_X2_column {G : sG} {d : Nat} {vs0 : List Value} {σ0 : sS} {x : sL} {z : sZ Int64} {r : Int64 × sS} (hs : S_X2_column x = some z) (k : s_K G (d + 1) M_X2_column vs0 σ0 Y_X2_column e_J z r) : s_V G (d + 1) M_X2_column vs0 σ0 Y_X2_column x (e_J r) := by
  obtain ⟨pc, vs, σ⟩ := x
  unfold S_X2_column at hs
  dsimp only at hs
  rcases s_ite hs with ⟨c, hs⟩ | ⟨-, hs⟩
  · subst c
    unfold U_X2_column_0 at hs
    obtain ⟨a0, g0, hs⟩ := s_bind hs
    obtain ⟨a1, g1, hs⟩ := s_bind hs
    obtain ⟨u9, ge, hs⟩ := s_bind hs
    rw [g_i_to g0, g_i_to g1, g_e_to ge]
    exact v_X2_column_0 hs k
  rcases s_ite hs with ⟨c, hs⟩ | ⟨-, hs⟩
  · subst c
    unfold U_X2_column_18 at hs
    obtain ⟨a0, g0, hs⟩ := s_bind hs
    obtain ⟨a1, g1, hs⟩ := s_bind hs
    obtain ⟨u9, ge, hs⟩ := s_bind hs
    rw [g_i_to g0, g_i_to g1, g_e_to ge]
    exact v_X2_column_18 hs k
  cases hs
theorem t_X2_column {G : sG} {d : Nat} {v0 : Int32} {v1 : Int32} {σ : sS} {q : Int64 × sS} (h : F_X2_column v0 v1 σ = some q) : s_T G (d + 1) M_X2_column [.int v0, .int v1] σ (e_J q) := by
  unfold F_X2_column at h
  exact s_ofV rfl (by decide) (Nat.le_of_ble_eq_true rfl) rfl rfl (s_run_ind (V := fun x r => s_V G (d + 1) M_X2_column [.int v0, .int v1] σ Y_X2_column x (e_J r)) (fun x z r hs hk => v_X2_column hs (by cases z <;> exact hk)) h)
/-! X2_truthAt X2_truthOfBinder -/
noncomputable def T_X2_truthAt_0 (f_X2_truthAt : Nat → Int32 → Int32 → Int32 → Int32 → sS → Option (Int64 × sS)) (f_X2_truthOfBinder : Nat → Int32 → Int32 → Int32 → Int32 → sS → Option (Int64 × sS)) (v0 : Nat) (v1 : Int32) (v2 : Int32) (v3 : Int32) (v4 : Int32) (σ : sS) : Option (sZ Int64) :=
  if v1 < 0 then (some (.inr (0, σ)))
  else ((s_fi σ v0 2 0).bind fun x1 =>
  if x1 ≤ v1 then (some (.inr (0, σ)))
  else (if v4 ≤ 48 then ((s_fr σ v0 2 2).bind fun x2 =>
  (s_ai σ x2 v1).bind fun x3 =>
  (s_fr σ v0 2 3).bind fun x4 =>
  (s_ai σ x4 v1).bind fun x5 =>
  (s_fr σ v0 2 1).bind fun x6 =>
  (s_ai σ x6 v1).bind fun x7 =>
  if x7 = 0 then (if (4 : Int32) ≤ x3 then (some (.inl (98, [.int v2, .int ((4 + ((x3 - 4) * v3)) + x5)], σ)))
  else (some (.inl (98, [.int v2, .int x3], σ))))
  else if x7 = 1 then ((f_X2_truthAt v0 x3 v2 v3 (v4 + 1) σ).bind fun q8 =>
  some (.inr ((q8.1 ^^^ (-1)), q8.2)))
  else if x7 = 2 then ((f_X2_truthAt v0 x3 v2 v3 (v4 + 1) σ).bind fun q9 =>
  (f_X2_truthAt v0 x5 v2 v3 (v4 + 1) q9.2).bind fun q10 =>
  some (.inr ((q9.1 &&& q10.1), q10.2)))
  else if x7 = 3 then ((f_X2_truthAt v0 x3 v2 v3 (v4 + 1) σ).bind fun q11 =>
  (f_X2_truthAt v0 x5 v2 v3 (v4 + 1) q11.2).bind fun q12 =>
  some (.inr ((q11.1 ||| q12.1), q12.2)))
  else if x7 = 4 then ((f_X2_truthAt v0 x3 v2 v3 (v4 + 1) σ).bind fun q13 =>
  (f_X2_truthAt v0 x5 v2 v3 (v4 + 1) q13.2).bind fun q14 =>
  some (.inr (((q13.1 ^^^ (-1)) ||| q14.1), q14.2)))
  else ((f_X2_truthOfBinder v0 v1 v2 v3 v4 σ).bind fun q15 =>
  some (.inr (q15.1, q15.2))))
  else (some (.inr (0, σ)))))
noncomputable def U_X2_truthAt_0 (f_X2_truthAt : Nat → Int32 → Int32 → Int32 → Int32 → sS → Option (Int64 × sS)) (f_X2_truthOfBinder : Nat → Int32 → Int32 → Int32 → Int32 → sS → Option (Int64 × sS)) (vs : List Value) (σ : sS) : Option (sZ Int64) := (g_r vs).bind fun a0 => (g_i a0.2).bind fun a1 => (g_i a1.2).bind fun a2 => (g_i a2.2).bind fun a3 => (g_i a3.2).bind fun a4 => (g_e a4.2).bind fun _ => T_X2_truthAt_0 f_X2_truthAt f_X2_truthOfBinder a0.1 a1.1 a2.1 a3.1 a4.1 σ
noncomputable def T_X2_truthAt_98 (f_X2_truthAt : Nat → Int32 → Int32 → Int32 → Int32 → sS → Option (Int64 × sS)) (f_X2_truthOfBinder : Nat → Int32 → Int32 → Int32 → Int32 → sS → Option (Int64 × sS)) (v2 : Int32) (w0 : Int32) (σ : sS) : Option (sZ Int64) :=
  (F_X2_column w0 v2 σ).bind fun q1 =>
  some (.inr (q1.1, q1.2))
noncomputable def U_X2_truthAt_98 (f_X2_truthAt : Nat → Int32 → Int32 → Int32 → Int32 → sS → Option (Int64 × sS)) (f_X2_truthOfBinder : Nat → Int32 → Int32 → Int32 → Int32 → sS → Option (Int64 × sS)) (vs : List Value) (σ : sS) : Option (sZ Int64) := (g_i vs).bind fun a0 => (g_i a0.2).bind fun a1 => (g_e a1.2).bind fun _ => T_X2_truthAt_98 f_X2_truthAt f_X2_truthOfBinder a0.1 a1.1 σ
noncomputable def S_X2_truthAt (f_X2_truthAt : Nat → Int32 → Int32 → Int32 → Int32 → sS → Option (Int64 × sS)) (f_X2_truthOfBinder : Nat → Int32 → Int32 → Int32 → Int32 → sS → Option (Int64 × sS)) (x : sL) : Option (sZ Int64) := if x.1 = 0 then U_X2_truthAt_0 f_X2_truthAt f_X2_truthOfBinder x.2.1 x.2.2 else if x.1 = 98 then U_X2_truthAt_98 f_X2_truthAt f_X2_truthOfBinder x.2.1 x.2.2 else none
def Y_X2_truthAt (pc : Nat) : List Nat := if pc = 0 then [0, 1, 2, 3, 4] else if pc = 98 then [2] else []
noncomputable def T_X2_truthOfBinder_0 (f_X2_truthAt : Nat → Int32 → Int32 → Int32 → Int32 → sS → Option (Int64 × sS)) (f_X2_truthOfBinder : Nat → Int32 → Int32 → Int32 → Int32 → sS → Option (Int64 × sS)) (v0 : Nat) (v1 : Int32) (v2 : Int32) (v3 : Int32) (v4 : Int32) (σ : sS) : Option (sZ Int64) :=
  (F_X2_kindOf v0 v1 σ).bind fun q1 =>
  if q1.1 = 5 then (some (.inl (14, [.ref v0, .int v1, .int v2, .int v3, .int v4, .int 1], q1.2)))
  else (some (.inl (14, [.ref v0, .int v1, .int v2, .int v3, .int v4, .int 0], q1.2)))
noncomputable def U_X2_truthOfBinder_0 (f_X2_truthAt : Nat → Int32 → Int32 → Int32 → Int32 → sS → Option (Int64 × sS)) (f_X2_truthOfBinder : Nat → Int32 → Int32 → Int32 → Int32 → sS → Option (Int64 × sS)) (vs : List Value) (σ : sS) : Option (sZ Int64) := (g_r vs).bind fun a0 => (g_i a0.2).bind fun a1 => (g_i a1.2).bind fun a2 => (g_i a2.2).bind fun a3 => (g_i a3.2).bind fun a4 => (g_e a4.2).bind fun _ => T_X2_truthOfBinder_0 f_X2_truthAt f_X2_truthOfBinder a0.1 a1.1 a2.1 a3.1 a4.1 σ
noncomputable def T_X2_truthOfBinder_14 (f_X2_truthAt : Nat → Int32 → Int32 → Int32 → Int32 → sS → Option (Int64 × sS)) (f_X2_truthOfBinder : Nat → Int32 → Int32 → Int32 → Int32 → sS → Option (Int64 × sS)) (v0 : Nat) (v1 : Int32) (v2 : Int32) (v3 : Int32) (v4 : Int32) (w0 : Int32) (σ : sS) : Option (sZ Int64) :=
  if w0 = 0 then (some (.inl (28, [.ref v0, .int v1, .int v2, .int v3, .int v4, .int w0, .long 0], σ)))
  else (some (.inl (28, [.ref v0, .int v1, .int v2, .int v3, .int v4, .int w0, .long (-1)], σ)))
noncomputable def U_X2_truthOfBinder_14 (f_X2_truthAt : Nat → Int32 → Int32 → Int32 → Int32 → sS → Option (Int64 × sS)) (f_X2_truthOfBinder : Nat → Int32 → Int32 → Int32 → Int32 → sS → Option (Int64 × sS)) (vs : List Value) (σ : sS) : Option (sZ Int64) := (g_r vs).bind fun a0 => (g_i a0.2).bind fun a1 => (g_i a1.2).bind fun a2 => (g_i a2.2).bind fun a3 => (g_i a3.2).bind fun a4 => (g_i a4.2).bind fun a5 => (g_e a5.2).bind fun _ => T_X2_truthOfBinder_14 f_X2_truthAt f_X2_truthOfBinder a0.1 a1.1 a2.1 a3.1 a4.1 a5.1 σ
noncomputable def T_X2_truthOfBinder_28 (f_X2_truthAt : Nat → Int32 → Int32 → Int32 → Int32 → sS → Option (Int64 × sS)) (f_X2_truthOfBinder : Nat → Int32 → Int32 → Int32 → Int32 → sS → Option (Int64 × sS)) (v0 : Nat) (v1 : Int32) (v2 : Int32) (v3 : Int32) (v4 : Int32) (v5 : Int32) (w0 : Int64) (σ : sS) : Option (sZ Int64) :=
  some (.inl (33, [.ref v0, .int v1, .int v2, .int v3, .int v4, .int v5, .long w0, .int 0], σ))
noncomputable def U_X2_truthOfBinder_28 (f_X2_truthAt : Nat → Int32 → Int32 → Int32 → Int32 → sS → Option (Int64 × sS)) (f_X2_truthOfBinder : Nat → Int32 → Int32 → Int32 → Int32 → sS → Option (Int64 × sS)) (vs : List Value) (σ : sS) : Option (sZ Int64) := (g_r vs).bind fun a0 => (g_i a0.2).bind fun a1 => (g_i a1.2).bind fun a2 => (g_i a2.2).bind fun a3 => (g_i a3.2).bind fun a4 => (g_i a4.2).bind fun a5 => (g_l a5.2).bind fun a6 => (g_e a6.2).bind fun _ => T_X2_truthOfBinder_28 f_X2_truthAt f_X2_truthOfBinder a0.1 a1.1 a2.1 a3.1 a4.1 a5.1 a6.1 σ
noncomputable def T_X2_truthOfBinder_33 (f_X2_truthAt : Nat → Int32 → Int32 → Int32 → Int32 → sS → Option (Int64 × sS)) (f_X2_truthOfBinder : Nat → Int32 → Int32 → Int32 → Int32 → sS → Option (Int64 × sS)) (v0 : Nat) (v1 : Int32) (v2 : Int32) (v3 : Int32) (v4 : Int32) (v5 : Int32) (v6 : Int64) (v8 : Int32) (σ : sS) : Option (sZ Int64) :=
  if v3 ≤ v8 then (some (.inr (v6, σ)))
  else ((F_X2_placedOf v0 v1 v8 σ).bind fun q1 =>
  (f_X2_truthAt v0 q1.1 v2 v3 (v4 + 1) q1.2).bind fun q2 =>
  if v5 = 0 then (some (.inl (76, [.ref v0, .int v1, .int v2, .int v3, .int v4, .int v5, .int v8, .long (v6 ||| q2.1)], q2.2)))
  else (some (.inl (76, [.ref v0, .int v1, .int v2, .int v3, .int v4, .int v5, .int v8, .long (v6 &&& q2.1)], q2.2))))
noncomputable def U_X2_truthOfBinder_33 (f_X2_truthAt : Nat → Int32 → Int32 → Int32 → Int32 → sS → Option (Int64 × sS)) (f_X2_truthOfBinder : Nat → Int32 → Int32 → Int32 → Int32 → sS → Option (Int64 × sS)) (vs : List Value) (σ : sS) : Option (sZ Int64) := (g_r vs).bind fun a0 => (g_i a0.2).bind fun a1 => (g_i a1.2).bind fun a2 => (g_i a2.2).bind fun a3 => (g_i a3.2).bind fun a4 => (g_i a4.2).bind fun a5 => (g_l a5.2).bind fun a6 => (g_i a6.2).bind fun a7 => (g_e a7.2).bind fun _ => T_X2_truthOfBinder_33 f_X2_truthAt f_X2_truthOfBinder a0.1 a1.1 a2.1 a3.1 a4.1 a5.1 a6.1 a7.1 σ
noncomputable def T_X2_truthOfBinder_76 (f_X2_truthAt : Nat → Int32 → Int32 → Int32 → Int32 → sS → Option (Int64 × sS)) (f_X2_truthOfBinder : Nat → Int32 → Int32 → Int32 → Int32 → sS → Option (Int64 × sS)) (v0 : Nat) (v1 : Int32) (v2 : Int32) (v3 : Int32) (v4 : Int32) (v5 : Int32) (v8 : Int32) (w0 : Int64) (σ : sS) : Option (sZ Int64) :=
  some (.inl (33, [.ref v0, .int v1, .int v2, .int v3, .int v4, .int v5, .long w0, .int (v8 + 1)], σ))
noncomputable def U_X2_truthOfBinder_76 (f_X2_truthAt : Nat → Int32 → Int32 → Int32 → Int32 → sS → Option (Int64 × sS)) (f_X2_truthOfBinder : Nat → Int32 → Int32 → Int32 → Int32 → sS → Option (Int64 × sS)) (vs : List Value) (σ : sS) : Option (sZ Int64) := (g_r vs).bind fun a0 => (g_i a0.2).bind fun a1 => (g_i a1.2).bind fun a2 => (g_i a2.2).bind fun a3 => (g_i a3.2).bind fun a4 => (g_i a4.2).bind fun a5 => (g_i a5.2).bind fun a6 => (g_l a6.2).bind fun a7 => (g_e a7.2).bind fun _ => T_X2_truthOfBinder_76 f_X2_truthAt f_X2_truthOfBinder a0.1 a1.1 a2.1 a3.1 a4.1 a5.1 a6.1 a7.1 σ
noncomputable def S_X2_truthOfBinder (f_X2_truthAt : Nat → Int32 → Int32 → Int32 → Int32 → sS → Option (Int64 × sS)) (f_X2_truthOfBinder : Nat → Int32 → Int32 → Int32 → Int32 → sS → Option (Int64 × sS)) (x : sL) : Option (sZ Int64) := if x.1 = 0 then U_X2_truthOfBinder_0 f_X2_truthAt f_X2_truthOfBinder x.2.1 x.2.2 else if x.1 = 14 then U_X2_truthOfBinder_14 f_X2_truthAt f_X2_truthOfBinder x.2.1 x.2.2 else if x.1 = 28 then U_X2_truthOfBinder_28 f_X2_truthAt f_X2_truthOfBinder x.2.1 x.2.2 else if x.1 = 33 then U_X2_truthOfBinder_33 f_X2_truthAt f_X2_truthOfBinder x.2.1 x.2.2 else if x.1 = 76 then U_X2_truthOfBinder_76 f_X2_truthAt f_X2_truthOfBinder x.2.1 x.2.2 else none
def Y_X2_truthOfBinder (pc : Nat) : List Nat := if pc = 0 then [0, 1, 2, 3, 4] else if pc = 14 then [0, 1, 2, 3, 4] else if pc = 28 then [0, 1, 2, 3, 4, 5] else if pc = 33 then [0, 1, 2, 3, 4, 5, 6, 8] else if pc = 76 then [0, 1, 2, 3, 4, 5, 8] else []
noncomputable def Q_X2_truthAt : Nat → (Nat → Int32 → Int32 → Int32 → Int32 → sS → Option (Int64 × sS)) × (Nat → Int32 → Int32 → Int32 → Int32 → sS → Option (Int64 × sS))
  | 0 => (fun _ _ _ _ _ _ => none, fun _ _ _ _ _ _ => none)
  | k + 1 => (fun v0 v1 v2 v3 v4 σ => (s_is σ v0 2).bind fun _ => s_run (S_X2_truthAt (Q_X2_truthAt k).1 (Q_X2_truthAt k).2) (0, [.ref v0, .int v1, .int v2, .int v3, .int v4], σ),
    fun v0 v1 v2 v3 v4 σ => (s_is σ v0 2).bind fun _ => s_run (S_X2_truthOfBinder (Q_X2_truthAt k).1 (Q_X2_truthAt k).2) (0, [.ref v0, .int v1, .int v2, .int v3, .int v4], σ))
noncomputable def F_X2_truthAt (k : Nat) : Nat → Int32 → Int32 → Int32 → Int32 → sS → Option (Int64 × sS) := (Q_X2_truthAt k).1
noncomputable def F_X2_truthOfBinder (k : Nat) : Nat → Int32 → Int32 → Int32 → Int32 → sS → Option (Int64 × sS) := (Q_X2_truthAt k).2
theorem l_X2_truthAt_0 (f_X2_truthAt : Nat → Int32 → Int32 → Int32 → Int32 → sS → Option (Int64 × sS)) (f_X2_truthOfBinder : Nat → Int32 → Int32 → Int32 → Int32 → sS → Option (Int64 × sS)) (lG_X2_truthAt : ∀ {y0 : Nat} {y1 : Int32} {y2 : Int32} {y3 : Int32} {y4 : Int32} {σ : sS} {q : Int64 × sS}, f_X2_truthAt y0 y1 y2 y3 y4 σ = some q → s_le σ q.2) (lG_X2_truthOfBinder : ∀ {y0 : Nat} {y1 : Int32} {y2 : Int32} {y3 : Int32} {y4 : Int32} {σ : sS} {q : Int64 × sS}, f_X2_truthOfBinder y0 y1 y2 y3 y4 σ = some q → s_le σ q.2) {v0 : Nat} {v1 : Int32} {v2 : Int32} {v3 : Int32} {v4 : Int32} {σ : sS} {z : sZ Int64} (hf : T_X2_truthAt_0 f_X2_truthAt f_X2_truthOfBinder v0 v1 v2 v3 v4 σ = some z) : s_lz σ z := by
  unfold T_X2_truthAt_0 at hf
  rcases s_ite hf with ⟨-, hf⟩ | ⟨-, hf⟩
  · cases hf
    exact s_le.rf
  · obtain ⟨x1, -, hf⟩ := s_bind hf
    rcases s_ite hf with ⟨-, hf⟩ | ⟨-, hf⟩
    · cases hf
      exact s_le.rf
    · rcases s_ite hf with ⟨-, hf⟩ | ⟨-, hf⟩
      · obtain ⟨x2, -, hf⟩ := s_bind hf
        obtain ⟨x3, -, hf⟩ := s_bind hf
        obtain ⟨x4, -, hf⟩ := s_bind hf
        obtain ⟨x5, -, hf⟩ := s_bind hf
        obtain ⟨x6, -, hf⟩ := s_bind hf
        obtain ⟨x7, -, hf⟩ := s_bind hf
        rcases s_ite hf with ⟨-, hf⟩ | ⟨-, hf⟩
        · rcases s_ite hf with ⟨-, hf⟩ | ⟨-, hf⟩
          · cases hf
            exact s_le.rf
          · cases hf
            exact s_le.rf
        rcases s_ite hf with ⟨-, hf⟩ | ⟨-, hf⟩
        · obtain ⟨q8, hh, hf⟩ := s_bind hf
          refine s_lz.tr (lG_X2_truthAt hh) ?_
          cases hf
          exact s_le.rf
        rcases s_ite hf with ⟨-, hf⟩ | ⟨-, hf⟩
        · obtain ⟨q9, hh, hf⟩ := s_bind hf
          refine s_lz.tr (lG_X2_truthAt hh) ?_
          obtain ⟨q10, hh, hf⟩ := s_bind hf
          refine s_lz.tr (lG_X2_truthAt hh) ?_
          cases hf
          exact s_le.rf
        rcases s_ite hf with ⟨-, hf⟩ | ⟨-, hf⟩
        · obtain ⟨q11, hh, hf⟩ := s_bind hf
          refine s_lz.tr (lG_X2_truthAt hh) ?_
          obtain ⟨q12, hh, hf⟩ := s_bind hf
          refine s_lz.tr (lG_X2_truthAt hh) ?_
          cases hf
          exact s_le.rf
        rcases s_ite hf with ⟨-, hf⟩ | ⟨-, hf⟩
        · obtain ⟨q13, hh, hf⟩ := s_bind hf
          refine s_lz.tr (lG_X2_truthAt hh) ?_
          obtain ⟨q14, hh, hf⟩ := s_bind hf
          refine s_lz.tr (lG_X2_truthAt hh) ?_
          cases hf
          exact s_le.rf
        obtain ⟨q15, hh, hf⟩ := s_bind hf
        refine s_lz.tr (lG_X2_truthOfBinder hh) ?_
        cases hf
        exact s_le.rf
      · cases hf
        exact s_le.rf
theorem l_X2_truthAt_98 (f_X2_truthAt : Nat → Int32 → Int32 → Int32 → Int32 → sS → Option (Int64 × sS)) (f_X2_truthOfBinder : Nat → Int32 → Int32 → Int32 → Int32 → sS → Option (Int64 × sS)) (lG_X2_truthAt : ∀ {y0 : Nat} {y1 : Int32} {y2 : Int32} {y3 : Int32} {y4 : Int32} {σ : sS} {q : Int64 × sS}, f_X2_truthAt y0 y1 y2 y3 y4 σ = some q → s_le σ q.2) (lG_X2_truthOfBinder : ∀ {y0 : Nat} {y1 : Int32} {y2 : Int32} {y3 : Int32} {y4 : Int32} {σ : sS} {q : Int64 × sS}, f_X2_truthOfBinder y0 y1 y2 y3 y4 σ = some q → s_le σ q.2) {v2 : Int32} {w0 : Int32} {σ : sS} {z : sZ Int64} (hf : T_X2_truthAt_98 f_X2_truthAt f_X2_truthOfBinder v2 w0 σ = some z) : s_lz σ z := by
  unfold T_X2_truthAt_98 at hf
  obtain ⟨q1, hh, hf⟩ := s_bind hf
  refine s_lz.tr (l_X2_column hh) ?_
  cases hf
  exact s_le.rf
theorem l_X2_truthAt_s (f_X2_truthAt : Nat → Int32 → Int32 → Int32 → Int32 → sS → Option (Int64 × sS)) (f_X2_truthOfBinder : Nat → Int32 → Int32 → Int32 → Int32 → sS → Option (Int64 × sS)) (lG_X2_truthAt : ∀ {y0 : Nat} {y1 : Int32} {y2 : Int32} {y3 : Int32} {y4 : Int32} {σ : sS} {q : Int64 × sS}, f_X2_truthAt y0 y1 y2 y3 y4 σ = some q → s_le σ q.2) (lG_X2_truthOfBinder : ∀ {y0 : Nat} {y1 : Int32} {y2 : Int32} {y3 : Int32} {y4 : Int32} {σ : sS} {q : Int64 × sS}, f_X2_truthOfBinder y0 y1 y2 y3 y4 σ = some q → s_le σ q.2) {x : sL} {z : sZ Int64} (hs : S_X2_truthAt f_X2_truthAt f_X2_truthOfBinder x = some z) : s_lz x.2.2 z := by
  obtain ⟨pc, vs, σ⟩ := x
  unfold S_X2_truthAt at hs
  dsimp only at hs ⊢
  rcases s_ite hs with ⟨c, hs⟩ | ⟨-, hs⟩
  · subst c
    unfold U_X2_truthAt_0 at hs
    obtain ⟨a0, g0, hs⟩ := s_bind hs
    obtain ⟨a1, g1, hs⟩ := s_bind hs
    obtain ⟨a2, g2, hs⟩ := s_bind hs
    obtain ⟨a3, g3, hs⟩ := s_bind hs
    obtain ⟨a4, g4, hs⟩ := s_bind hs
    obtain ⟨u9, ge, hs⟩ := s_bind hs
    exact l_X2_truthAt_0 f_X2_truthAt f_X2_truthOfBinder lG_X2_truthAt lG_X2_truthOfBinder hs
  rcases s_ite hs with ⟨c, hs⟩ | ⟨-, hs⟩
  · subst c
    unfold U_X2_truthAt_98 at hs
    obtain ⟨a0, g0, hs⟩ := s_bind hs
    obtain ⟨a1, g1, hs⟩ := s_bind hs
    obtain ⟨u9, ge, hs⟩ := s_bind hs
    exact l_X2_truthAt_98 f_X2_truthAt f_X2_truthOfBinder lG_X2_truthAt lG_X2_truthOfBinder hs
  cases hs
set_option maxRecDepth 100000 in
set_option maxHeartbeats 4000000 in
theorem v_X2_truthAt_0 (f_X2_truthAt : Nat → Int32 → Int32 → Int32 → Int32 → sS → Option (Int64 × sS)) (f_X2_truthOfBinder : Nat → Int32 → Int32 → Int32 → Int32 → sS → Option (Int64 × sS)) {G : sG} {d : Nat} (lG_X2_truthAt : ∀ {y0 : Nat} {y1 : Int32} {y2 : Int32} {y3 : Int32} {y4 : Int32} {σ : sS} {q : Int64 × sS}, f_X2_truthAt y0 y1 y2 y3 y4 σ = some q → s_le σ q.2) (lG_X2_truthOfBinder : ∀ {y0 : Nat} {y1 : Int32} {y2 : Int32} {y3 : Int32} {y4 : Int32} {σ : sS} {q : Int64 × sS}, f_X2_truthOfBinder y0 y1 y2 y3 y4 σ = some q → s_le σ q.2) (hG_X2_truthAt : ∀ {y0 : Nat} {y1 : Int32} {y2 : Int32} {y3 : Int32} {y4 : Int32} {σ : sS} {q : Int64 × sS}, f_X2_truthAt y0 y1 y2 y3 y4 σ = some q → s_T G (d + 2) M_X2_truthAt [.ref y0, .int y1, .int y2, .int y3, .int y4] σ (e_J q) ∧ ∃ fs, σ.1 y0 = some (.inr (2, fs))) (hG_X2_truthOfBinder : ∀ {y0 : Nat} {y1 : Int32} {y2 : Int32} {y3 : Int32} {y4 : Int32} {σ : sS} {q : Int64 × sS}, f_X2_truthOfBinder y0 y1 y2 y3 y4 σ = some q → s_T G (d + 2) M_X2_truthOfBinder [.ref y0, .int y1, .int y2, .int y3, .int y4] σ (e_J q) ∧ ∃ fs, σ.1 y0 = some (.inr (2, fs))) {vs0 : List Value} {σ0 : sS} {v0 : Nat} {v1 : Int32} {v2 : Int32} {v3 : Int32} {v4 : Int32} {σ : sS} {z : sZ Int64} {r : Int64 × sS} (hf : T_X2_truthAt_0 f_X2_truthAt f_X2_truthOfBinder v0 v1 v2 v3 v4 σ = some z) (k : s_K G (d + 3) M_X2_truthAt vs0 σ0 Y_X2_truthAt e_J z r) : s_V G (d + 3) M_X2_truthAt vs0 σ0 Y_X2_truthAt (0, [.ref v0, .int v1, .int v2, .int v3, .int v4], σ) (e_J r) := by
  have le0 : s_le σ (e_J r).2 := s_lek hem_J (l_X2_truthAt_0 f_X2_truthAt f_X2_truthOfBinder lG_X2_truthAt lG_X2_truthOfBinder hf) k
  refine ⟨le0, ?_⟩
  intro p e s m below meth c H locs cells slots ls X I hn1 hn2 hl
  have hn : cells + σ0.2.1 ≤ σ.2.1 ∧ slots + σ0.2.2.1 ≤ σ.2.2.1 := ⟨hn1, hn2⟩
  have hl : lv_has ls 7 [(0, .ref v0), (1, .int v1), (2, .int v2), (3, .int v3), (4, .int v4)] := hl
  have hx := X.1
  have hb : c.code = cX2_truthAt := X.2.1
  have hown : s.vm.findClass RX2 = some m.cls := X.2.2.2.2.2.1
  have hts := X.2.2.2.2.2.2.1
  refine W.eq (g2 := F0 m 0 ls []) rfl ?_
  unfold T_X2_truthAt_0 at hf
  refine lv_iload_n hx hb dX2_truthAt_0 rfl (lv_at hl 1 rfl) ?_
  rcases s_ite hf with ⟨c1, hf⟩ | ⟨c1, hf⟩
  · refine lv_if_lt (tgt := 19) hx hb dX2_truthAt_1 (by decide) (fun _ => ?_) (fun n => absurd c1 n)
    cases hf
    have k : _ = r := k
    subst k
    refine lv_lconst (v := 0) hx hb dX2_truthAt_19 (by decide) ?_
    exact r_lret X I rfl rfl hn dX2_truthAt_20
  · refine lv_if_lt (tgt := 19) hx hb dX2_truthAt_1 (by decide) (fun n => absurd n c1) (fun _ => ?_)
    obtain ⟨x1, h2, hf⟩ := s_bind hf
    refine lv_iload_n hx hb dX2_truthAt_4 rfl (lv_at hl 1 rfl) ?_
    refine lv_aload_n hx hb dX2_truthAt_5 rfl (lv_at hl 0 rfl) ?_
    refine r_gi X I fl_X2_39 h2 dX2_truthAt_6 ?_
    rcases s_ite hf with ⟨c3, hf⟩ | ⟨c3, hf⟩
    · refine lv_icmp_ge (tgt := 19) hx hb dX2_truthAt_9 (by decide) (fun _ => ?_) (fun n => absurd c3 n)
      cases hf
      have k : _ = r := k
      subst k
      refine lv_lconst (v := 0) hx hb dX2_truthAt_19 (by decide) ?_
      exact r_lret X I rfl rfl hn dX2_truthAt_20
    · refine lv_icmp_ge (tgt := 19) hx hb dX2_truthAt_9 (by decide) (fun n => absurd n c3) (fun _ => ?_)
      refine lv_iload hx hb dX2_truthAt_12 (lv_at hl 4 rfl) ?_
      refine lv_bipush (v := 48) hx hb dX2_truthAt_14 (by decide) ?_
      rcases s_ite hf with ⟨c4, hf⟩ | ⟨c4, hf⟩
      · refine lv_icmp_le (tgt := 21) hx hb dX2_truthAt_16 (by decide) (fun _ => ?_) (fun n => absurd c4 n)
        obtain ⟨x2, h5, hf⟩ := s_bind hf
        obtain ⟨x3, h6, hf⟩ := s_bind hf
        obtain ⟨x4, h7, hf⟩ := s_bind hf
        obtain ⟨x5, h8, hf⟩ := s_bind hf
        obtain ⟨x6, h9, hf⟩ := s_bind hf
        obtain ⟨x7, h10, hf⟩ := s_bind hf
        refine lv_aload_n hx hb dX2_truthAt_21 rfl (lv_at hl 0 rfl) ?_
        refine r_gr X I fl_X2_15 h5 dX2_truthAt_22 ?_
        refine lv_iload_n hx hb dX2_truthAt_25 rfl (lv_at hl 1 rfl) ?_
        refine r_iald X I h6 dX2_truthAt_26 ?_
        refine lv_istore (lv' := [(5, .int x3), (0, .ref v0), (1, .int v1), (2, .int v2), (3, .int v3), (4, .int v4)]) hx hb dX2_truthAt_27 hl (by decide) rfl (fun ls hl => ?_)
        refine lv_aload_n hx hb dX2_truthAt_29 rfl (lv_at hl 1 rfl) ?_
        refine r_gr X I fl_X2_18 h7 dX2_truthAt_30 ?_
        refine lv_iload_n hx hb dX2_truthAt_33 rfl (lv_at hl 2 rfl) ?_
        refine r_iald X I h8 dX2_truthAt_34 ?_
        refine lv_istore (lv' := [(6, .int x5), (5, .int x3), (0, .ref v0), (1, .int v1), (2, .int v2), (3, .int v3), (4, .int v4)]) hx hb dX2_truthAt_35 hl (by decide) rfl (fun ls hl => ?_)
        refine lv_aload_n hx hb dX2_truthAt_37 rfl (lv_at hl 2 rfl) ?_
        refine r_gr X I fl_X2_11 h9 dX2_truthAt_38 ?_
        refine lv_iload_n hx hb dX2_truthAt_41 rfl (lv_at hl 3 rfl) ?_
        refine r_iald X I h10 dX2_truthAt_42 ?_
        rcases s_ite hf with ⟨c11, hf⟩ | ⟨c11, hf⟩
        · refine lv_tableIn (tgt := 76) (off := 33) hx hb dX2_truthAt_43 (by rw [c11]; decide) (by rw [c11]; decide) (by rw [c11]; rfl) (by decide) ?_
          refine lv_iload hx hb dX2_truthAt_76 (lv_at hl 1 rfl) ?_
          refine lv_iconst (v := 4) hx hb dX2_truthAt_78 (by decide) ?_
          rcases s_ite hf with ⟨c12, hf⟩ | ⟨c12, hf⟩
          · refine lv_icmp_ge (tgt := 87) hx hb dX2_truthAt_79 (by decide) (fun _ => ?_) (fun n => absurd c12 n)
            cases hf
            have k : s_V G (d + 3) M_X2_truthAt vs0 σ0 Y_X2_truthAt (98, [.int v2, .int ((4 + ((x3 - 4) * v3)) + x5)], σ) (e_J r) := k
            refine lv_iconst (v := 4) hx hb dX2_truthAt_87 (by decide) ?_
            refine lv_iload hx hb dX2_truthAt_88 (lv_at hl 1 rfl) ?_
            refine lv_iconst (v := 4) hx hb dX2_truthAt_90 (by decide) ?_
            refine lv_isub hx hb dX2_truthAt_91 ?_
            refine lv_iload_n hx hb dX2_truthAt_92 rfl (lv_at hl 5 rfl) ?_
            refine lv_imul hx hb dX2_truthAt_93 ?_
            refine lv_iadd hx hb dX2_truthAt_94 ?_
            refine lv_iload hx hb dX2_truthAt_95 (lv_at hl 0 rfl) ?_
            refine lv_iadd hx hb dX2_truthAt_97 ?_
            exact k.2 p e s m below meth c _ _ _ _ _ X I hn.1 hn.2 (lv_sub hl [4] rfl)
          · refine lv_icmp_ge (tgt := 87) hx hb dX2_truthAt_79 (by decide) (fun n => absurd n c12) (fun _ => ?_)
            cases hf
            have k : s_V G (d + 3) M_X2_truthAt vs0 σ0 Y_X2_truthAt (98, [.int v2, .int x3], σ) (e_J r) := k
            refine lv_iload hx hb dX2_truthAt_82 (lv_at hl 1 rfl) ?_
            refine lv_goto (tgt := 98) hx hb dX2_truthAt_84 (by decide) ?_
            exact k.2 p e s m below meth c _ _ _ _ _ X I hn.1 hn.2 (lv_sub hl [4] rfl)
        rcases s_ite hf with ⟨c13, hf⟩ | ⟨c13, hf⟩
        · refine lv_tableIn (tgt := 103) (off := 60) hx hb dX2_truthAt_43 (by rw [c13]; decide) (by rw [c13]; decide) (by rw [c13]; rfl) (by decide) ?_
          obtain ⟨q8, h14, hf⟩ := s_bind hf
          cases hf
          have k : _ = r := k
          subst k
          have le15 : s_le q8.2 q8.2 := s_le.rf
          refine lv_aload_n hx hb dX2_truthAt_103 rfl (lv_at hl 2 rfl) ?_
          refine lv_iload hx hb dX2_truthAt_104 (lv_at hl 1 rfl) ?_
          refine lv_iload_n hx hb dX2_truthAt_106 rfl (lv_at hl 4 rfl) ?_
          refine lv_iload_n hx hb dX2_truthAt_107 rfl (lv_at hl 5 rfl) ?_
          refine lv_iload hx hb dX2_truthAt_108 (lv_at hl 6 rfl) ?_
          refine lv_iconst (v := 1) hx hb dX2_truthAt_110 (by decide) ?_
          refine lv_iadd hx hb dX2_truthAt_111 ?_
          refine r_callV (Y := M_X2_truthAt) (v := some (.long q8.1)) X I w_967 my_X2_truthAt (by omega) (hG_X2_truthAt h14).1 (hG_X2_truthAt h14).2 rfl rfl hl.1 rfl (Nat.le_of_ble_eq_true rfl) hn le15 dX2_truthAt_112 (fun H locs cells slots I hn1 hn2 => ?_)
          have I : s_I G q8.2 s H locs := I
          have hn : cells + σ0.2.1 ≤ q8.2.2.1 ∧ slots + σ0.2.2.1 ≤ q8.2.2.2.1 := ⟨hn1, hn2⟩
          refine lv_ldc2 (own := RX2) hx hb hown (hts _ w_976) dX2_truthAt_115 ?_
          refine lv_lxor hx hb dX2_truthAt_118 ?_
          exact r_lret X I rfl rfl hn dX2_truthAt_119
        rcases s_ite hf with ⟨c16, hf⟩ | ⟨c16, hf⟩
        · refine lv_tableIn (tgt := 120) (off := 77) hx hb dX2_truthAt_43 (by rw [c16]; decide) (by rw [c16]; decide) (by rw [c16]; rfl) (by decide) ?_
          obtain ⟨q9, h17, hf⟩ := s_bind hf
          obtain ⟨q10, h18, hf⟩ := s_bind hf
          cases hf
          have k : _ = r := k
          subst k
          have le19 : s_le q10.2 q10.2 := s_le.rf
          have le20 := s_le.tr (lG_X2_truthAt h18) le19
          refine lv_aload_n hx hb dX2_truthAt_120 rfl (lv_at hl 2 rfl) ?_
          refine lv_iload hx hb dX2_truthAt_121 (lv_at hl 1 rfl) ?_
          refine lv_iload_n hx hb dX2_truthAt_123 rfl (lv_at hl 4 rfl) ?_
          refine lv_iload_n hx hb dX2_truthAt_124 rfl (lv_at hl 5 rfl) ?_
          refine lv_iload hx hb dX2_truthAt_125 (lv_at hl 6 rfl) ?_
          refine lv_iconst (v := 1) hx hb dX2_truthAt_127 (by decide) ?_
          refine lv_iadd hx hb dX2_truthAt_128 ?_
          refine r_callV (Y := M_X2_truthAt) (v := some (.long q9.1)) X I w_967 my_X2_truthAt (by omega) (hG_X2_truthAt h17).1 (hG_X2_truthAt h17).2 rfl rfl hl.1 rfl (Nat.le_of_ble_eq_true rfl) hn le20 dX2_truthAt_129 (fun H locs cells slots I hn1 hn2 => ?_)
          have I : s_I G q9.2 s H locs := I
          have hn : cells + σ0.2.1 ≤ q9.2.2.1 ∧ slots + σ0.2.2.1 ≤ q9.2.2.2.1 := ⟨hn1, hn2⟩
          refine lv_aload_n hx hb dX2_truthAt_132 rfl (lv_at hl 2 rfl) ?_
          refine lv_iload hx hb dX2_truthAt_133 (lv_at hl 0 rfl) ?_
          refine lv_iload_n hx hb dX2_truthAt_135 rfl (lv_at hl 4 rfl) ?_
          refine lv_iload_n hx hb dX2_truthAt_136 rfl (lv_at hl 5 rfl) ?_
          refine lv_iload hx hb dX2_truthAt_137 (lv_at hl 6 rfl) ?_
          refine lv_iconst (v := 1) hx hb dX2_truthAt_139 (by decide) ?_
          refine lv_iadd hx hb dX2_truthAt_140 ?_
          refine r_callV (Y := M_X2_truthAt) (v := some (.long q10.1)) X I w_967 my_X2_truthAt (by omega) (hG_X2_truthAt h18).1 (hG_X2_truthAt h18).2 rfl rfl hl.1 rfl (Nat.le_of_ble_eq_true rfl) hn le19 dX2_truthAt_141 (fun H locs cells slots I hn1 hn2 => ?_)
          have I : s_I G q10.2 s H locs := I
          have hn : cells + σ0.2.1 ≤ q10.2.2.1 ∧ slots + σ0.2.2.1 ≤ q10.2.2.2.1 := ⟨hn1, hn2⟩
          refine lv_land hx hb dX2_truthAt_144 ?_
          exact r_lret X I rfl rfl hn dX2_truthAt_145
        rcases s_ite hf with ⟨c21, hf⟩ | ⟨c21, hf⟩
        · refine lv_tableIn (tgt := 146) (off := 103) hx hb dX2_truthAt_43 (by rw [c21]; decide) (by rw [c21]; decide) (by rw [c21]; rfl) (by decide) ?_
          obtain ⟨q11, h22, hf⟩ := s_bind hf
          obtain ⟨q12, h23, hf⟩ := s_bind hf
          cases hf
          have k : _ = r := k
          subst k
          have le24 : s_le q12.2 q12.2 := s_le.rf
          have le25 := s_le.tr (lG_X2_truthAt h23) le24
          refine lv_aload_n hx hb dX2_truthAt_146 rfl (lv_at hl 2 rfl) ?_
          refine lv_iload hx hb dX2_truthAt_147 (lv_at hl 1 rfl) ?_
          refine lv_iload_n hx hb dX2_truthAt_149 rfl (lv_at hl 4 rfl) ?_
          refine lv_iload_n hx hb dX2_truthAt_150 rfl (lv_at hl 5 rfl) ?_
          refine lv_iload hx hb dX2_truthAt_151 (lv_at hl 6 rfl) ?_
          refine lv_iconst (v := 1) hx hb dX2_truthAt_153 (by decide) ?_
          refine lv_iadd hx hb dX2_truthAt_154 ?_
          refine r_callV (Y := M_X2_truthAt) (v := some (.long q11.1)) X I w_967 my_X2_truthAt (by omega) (hG_X2_truthAt h22).1 (hG_X2_truthAt h22).2 rfl rfl hl.1 rfl (Nat.le_of_ble_eq_true rfl) hn le25 dX2_truthAt_155 (fun H locs cells slots I hn1 hn2 => ?_)
          have I : s_I G q11.2 s H locs := I
          have hn : cells + σ0.2.1 ≤ q11.2.2.1 ∧ slots + σ0.2.2.1 ≤ q11.2.2.2.1 := ⟨hn1, hn2⟩
          refine lv_aload_n hx hb dX2_truthAt_158 rfl (lv_at hl 2 rfl) ?_
          refine lv_iload hx hb dX2_truthAt_159 (lv_at hl 0 rfl) ?_
          refine lv_iload_n hx hb dX2_truthAt_161 rfl (lv_at hl 4 rfl) ?_
          refine lv_iload_n hx hb dX2_truthAt_162 rfl (lv_at hl 5 rfl) ?_
          refine lv_iload hx hb dX2_truthAt_163 (lv_at hl 6 rfl) ?_
          refine lv_iconst (v := 1) hx hb dX2_truthAt_165 (by decide) ?_
          refine lv_iadd hx hb dX2_truthAt_166 ?_
          refine r_callV (Y := M_X2_truthAt) (v := some (.long q12.1)) X I w_967 my_X2_truthAt (by omega) (hG_X2_truthAt h23).1 (hG_X2_truthAt h23).2 rfl rfl hl.1 rfl (Nat.le_of_ble_eq_true rfl) hn le24 dX2_truthAt_167 (fun H locs cells slots I hn1 hn2 => ?_)
          have I : s_I G q12.2 s H locs := I
          have hn : cells + σ0.2.1 ≤ q12.2.2.1 ∧ slots + σ0.2.2.1 ≤ q12.2.2.2.1 := ⟨hn1, hn2⟩
          refine lv_lor hx hb dX2_truthAt_170 ?_
          exact r_lret X I rfl rfl hn dX2_truthAt_171
        rcases s_ite hf with ⟨c26, hf⟩ | ⟨c26, hf⟩
        · refine lv_tableIn (tgt := 172) (off := 129) hx hb dX2_truthAt_43 (by rw [c26]; decide) (by rw [c26]; decide) (by rw [c26]; rfl) (by decide) ?_
          obtain ⟨q13, h27, hf⟩ := s_bind hf
          obtain ⟨q14, h28, hf⟩ := s_bind hf
          cases hf
          have k : _ = r := k
          subst k
          have le29 : s_le q14.2 q14.2 := s_le.rf
          have le30 := s_le.tr (lG_X2_truthAt h28) le29
          refine lv_aload_n hx hb dX2_truthAt_172 rfl (lv_at hl 2 rfl) ?_
          refine lv_iload hx hb dX2_truthAt_173 (lv_at hl 1 rfl) ?_
          refine lv_iload_n hx hb dX2_truthAt_175 rfl (lv_at hl 4 rfl) ?_
          refine lv_iload_n hx hb dX2_truthAt_176 rfl (lv_at hl 5 rfl) ?_
          refine lv_iload hx hb dX2_truthAt_177 (lv_at hl 6 rfl) ?_
          refine lv_iconst (v := 1) hx hb dX2_truthAt_179 (by decide) ?_
          refine lv_iadd hx hb dX2_truthAt_180 ?_
          refine r_callV (Y := M_X2_truthAt) (v := some (.long q13.1)) X I w_967 my_X2_truthAt (by omega) (hG_X2_truthAt h27).1 (hG_X2_truthAt h27).2 rfl rfl hl.1 rfl (Nat.le_of_ble_eq_true rfl) hn le30 dX2_truthAt_181 (fun H locs cells slots I hn1 hn2 => ?_)
          have I : s_I G q13.2 s H locs := I
          have hn : cells + σ0.2.1 ≤ q13.2.2.1 ∧ slots + σ0.2.2.1 ≤ q13.2.2.2.1 := ⟨hn1, hn2⟩
          refine lv_ldc2 (own := RX2) hx hb hown (hts _ w_976) dX2_truthAt_184 ?_
          refine lv_lxor hx hb dX2_truthAt_187 ?_
          refine lv_aload_n hx hb dX2_truthAt_188 rfl (lv_at hl 2 rfl) ?_
          refine lv_iload hx hb dX2_truthAt_189 (lv_at hl 0 rfl) ?_
          refine lv_iload_n hx hb dX2_truthAt_191 rfl (lv_at hl 4 rfl) ?_
          refine lv_iload_n hx hb dX2_truthAt_192 rfl (lv_at hl 5 rfl) ?_
          refine lv_iload hx hb dX2_truthAt_193 (lv_at hl 6 rfl) ?_
          refine lv_iconst (v := 1) hx hb dX2_truthAt_195 (by decide) ?_
          refine lv_iadd hx hb dX2_truthAt_196 ?_
          refine r_callV (Y := M_X2_truthAt) (v := some (.long q14.1)) X I w_967 my_X2_truthAt (by omega) (hG_X2_truthAt h28).1 (hG_X2_truthAt h28).2 rfl rfl hl.1 rfl (Nat.le_of_ble_eq_true rfl) hn le29 dX2_truthAt_197 (fun H locs cells slots I hn1 hn2 => ?_)
          have I : s_I G q14.2 s H locs := I
          have hn : cells + σ0.2.1 ≤ q14.2.2.1 ∧ slots + σ0.2.2.1 ≤ q14.2.2.2.1 := ⟨hn1, hn2⟩
          refine lv_lor hx hb dX2_truthAt_200 ?_
          exact r_lret X I rfl rfl hn dX2_truthAt_201
        refine lv_tableOut (tgt := 202) hx hb dX2_truthAt_43 (by
            have tc11 := lv_neT (a := 0) c11 (by decide)
            have tc13 := lv_neT (a := 1) c13 (by decide)
            have tc16 := lv_neT (a := 2) c16 (by decide)
            have tc21 := lv_neT (a := 3) c21 (by decide)
            have tc26 := lv_neT (a := 4) c26 (by decide)
            omega) (by decide) ?_
        obtain ⟨q15, h31, hf⟩ := s_bind hf
        cases hf
        have k : _ = r := k
        subst k
        have le32 : s_le q15.2 q15.2 := s_le.rf
        refine lv_aload_n hx hb dX2_truthAt_202 rfl (lv_at hl 2 rfl) ?_
        refine lv_iload_n hx hb dX2_truthAt_203 rfl (lv_at hl 3 rfl) ?_
        refine lv_iload_n hx hb dX2_truthAt_204 rfl (lv_at hl 4 rfl) ?_
        refine lv_iload_n hx hb dX2_truthAt_205 rfl (lv_at hl 5 rfl) ?_
        refine lv_iload hx hb dX2_truthAt_206 (lv_at hl 6 rfl) ?_
        refine r_callV (Y := M_X2_truthOfBinder) (v := some (.long q15.1)) X I w_977 my_X2_truthOfBinder (by omega) (hG_X2_truthOfBinder h31).1 (hG_X2_truthOfBinder h31).2 rfl rfl hl.1 rfl (Nat.le_of_ble_eq_true rfl) hn le32 dX2_truthAt_208 (fun H locs cells slots I hn1 hn2 => ?_)
        have I : s_I G q15.2 s H locs := I
        have hn : cells + σ0.2.1 ≤ q15.2.2.1 ∧ slots + σ0.2.2.1 ≤ q15.2.2.2.1 := ⟨hn1, hn2⟩
        exact r_lret X I rfl rfl hn dX2_truthAt_211
      · refine lv_icmp_le (tgt := 21) hx hb dX2_truthAt_16 (by decide) (fun n => absurd n c4) (fun _ => ?_)
        cases hf
        have k : _ = r := k
        subst k
        refine lv_lconst (v := 0) hx hb dX2_truthAt_19 (by decide) ?_
        exact r_lret X I rfl rfl hn dX2_truthAt_20
set_option maxRecDepth 100000 in
set_option maxHeartbeats 4000000 in
theorem v_X2_truthAt_98 (f_X2_truthAt : Nat → Int32 → Int32 → Int32 → Int32 → sS → Option (Int64 × sS)) (f_X2_truthOfBinder : Nat → Int32 → Int32 → Int32 → Int32 → sS → Option (Int64 × sS)) {G : sG} {d : Nat} (lG_X2_truthAt : ∀ {y0 : Nat} {y1 : Int32} {y2 : Int32} {y3 : Int32} {y4 : Int32} {σ : sS} {q : Int64 × sS}, f_X2_truthAt y0 y1 y2 y3 y4 σ = some q → s_le σ q.2) (lG_X2_truthOfBinder : ∀ {y0 : Nat} {y1 : Int32} {y2 : Int32} {y3 : Int32} {y4 : Int32} {σ : sS} {q : Int64 × sS}, f_X2_truthOfBinder y0 y1 y2 y3 y4 σ = some q → s_le σ q.2) (hG_X2_truthAt : ∀ {y0 : Nat} {y1 : Int32} {y2 : Int32} {y3 : Int32} {y4 : Int32} {σ : sS} {q : Int64 × sS}, f_X2_truthAt y0 y1 y2 y3 y4 σ = some q → s_T G (d + 2) M_X2_truthAt [.ref y0, .int y1, .int y2, .int y3, .int y4] σ (e_J q) ∧ ∃ fs, σ.1 y0 = some (.inr (2, fs))) (hG_X2_truthOfBinder : ∀ {y0 : Nat} {y1 : Int32} {y2 : Int32} {y3 : Int32} {y4 : Int32} {σ : sS} {q : Int64 × sS}, f_X2_truthOfBinder y0 y1 y2 y3 y4 σ = some q → s_T G (d + 2) M_X2_truthOfBinder [.ref y0, .int y1, .int y2, .int y3, .int y4] σ (e_J q) ∧ ∃ fs, σ.1 y0 = some (.inr (2, fs))) {vs0 : List Value} {σ0 : sS} {v2 : Int32} {w0 : Int32} {σ : sS} {z : sZ Int64} {r : Int64 × sS} (hf : T_X2_truthAt_98 f_X2_truthAt f_X2_truthOfBinder v2 w0 σ = some z) (k : s_K G (d + 3) M_X2_truthAt vs0 σ0 Y_X2_truthAt e_J z r) : s_V G (d + 3) M_X2_truthAt vs0 σ0 Y_X2_truthAt (98, [.int v2, .int w0], σ) (e_J r) := by
  have le0 : s_le σ (e_J r).2 := s_lek hem_J (l_X2_truthAt_98 f_X2_truthAt f_X2_truthOfBinder lG_X2_truthAt lG_X2_truthOfBinder hf) k
  refine ⟨le0, ?_⟩
  intro p e s m below meth c H locs cells slots ls X I hn1 hn2 hl
  have hn : cells + σ0.2.1 ≤ σ.2.1 ∧ slots + σ0.2.2.1 ≤ σ.2.2.1 := ⟨hn1, hn2⟩
  have hl : lv_has ls 7 [(2, .int v2)] := hl
  have hx := X.1
  have hb : c.code = cX2_truthAt := X.2.1
  have hown : s.vm.findClass RX2 = some m.cls := X.2.2.2.2.2.1
  have hts := X.2.2.2.2.2.2.1
  refine W.eq (g2 := F0 m 98 ls [.int w0]) rfl ?_
  unfold T_X2_truthAt_98 at hf
  obtain ⟨q1, h1, hf⟩ := s_bind hf
  cases hf
  have k : _ = r := k
  subst k
  have le2 : s_le q1.2 q1.2 := s_le.rf
  refine lv_iload_n hx hb dX2_truthAt_98 rfl (lv_at hl 0 rfl) ?_
  refine r_callS (Y := M_X2_column) (v := some (.long q1.1)) X I w_971 my_X2_column (by omega) (t_X2_column (G := G) (d := d + 1) h1) rfl rfl hl.1 rfl (Nat.le_of_ble_eq_true rfl) hn le2 dX2_truthAt_99 (fun H locs cells slots I hn1 hn2 => ?_)
  have I : s_I G q1.2 s H locs := I
  have hn : cells + σ0.2.1 ≤ q1.2.2.1 ∧ slots + σ0.2.2.1 ≤ q1.2.2.2.1 := ⟨hn1, hn2⟩
  exact r_lret X I rfl rfl hn dX2_truthAt_102
theorem v_X2_truthAt (f_X2_truthAt : Nat → Int32 → Int32 → Int32 → Int32 → sS → Option (Int64 × sS)) (f_X2_truthOfBinder : Nat → Int32 → Int32 → Int32 → Int32 → sS → Option (Int64 × sS)) {G : sG} {d : Nat} (lG_X2_truthAt : ∀ {y0 : Nat} {y1 : Int32} {y2 : Int32} {y3 : Int32} {y4 : Int32} {σ : sS} {q : Int64 × sS}, f_X2_truthAt y0 y1 y2 y3 y4 σ = some q → s_le σ q.2) (lG_X2_truthOfBinder : ∀ {y0 : Nat} {y1 : Int32} {y2 : Int32} {y3 : Int32} {y4 : Int32} {σ : sS} {q : Int64 × sS}, f_X2_truthOfBinder y0 y1 y2 y3 y4 σ = some q → s_le σ q.2) (hG_X2_truthAt : ∀ {y0 : Nat} {y1 : Int32} {y2 : Int32} {y3 : Int32} {y4 : Int32} {σ : sS} {q : Int64 × sS}, f_X2_truthAt y0 y1 y2 y3 y4 σ = some q → s_T G (d + 2) M_X2_truthAt [.ref y0, .int y1, .int y2, .int y3, .int y4] σ (e_J q) ∧ ∃ fs, σ.1 y0 = some (.inr (2, fs))) (hG_X2_truthOfBinder : ∀ {y0 : Nat} {y1 : Int32} {y2 : Int32} {y3 : Int32} {y4 : Int32} {σ : sS} {q : Int64 × sS}, f_X2_truthOfBinder y0 y1 y2 y3 y4 σ = some q → s_T G (d + 2) M_X2_truthOfBinder [.ref y0, .int y1, .int y2, .int y3, .int y4] σ (e_J q) ∧ ∃ fs, σ.1 y0 = some (.inr (2, fs))) {vs0 : List Value} {σ0 : sS} {x : sL} {z : sZ Int64} {r : Int64 × sS} (hs : S_X2_truthAt f_X2_truthAt f_X2_truthOfBinder x = some z) (k : s_K G (d + 3) M_X2_truthAt vs0 σ0 Y_X2_truthAt e_J z r) : s_V G (d + 3) M_X2_truthAt vs0 σ0 Y_X2_truthAt x (e_J r) := by
  obtain ⟨pc, vs, σ⟩ := x
  unfold S_X2_truthAt at hs
  dsimp only at hs
  rcases s_ite hs with ⟨c, hs⟩ | ⟨-, hs⟩
  · subst c
    unfold U_X2_truthAt_0 at hs
    obtain ⟨a0, g0, hs⟩ := s_bind hs
    obtain ⟨a1, g1, hs⟩ := s_bind hs
    obtain ⟨a2, g2, hs⟩ := s_bind hs
    obtain ⟨a3, g3, hs⟩ := s_bind hs
    obtain ⟨a4, g4, hs⟩ := s_bind hs
    obtain ⟨u9, ge, hs⟩ := s_bind hs
    rw [g_r_to g0, g_i_to g1, g_i_to g2, g_i_to g3, g_i_to g4, g_e_to ge]
    exact v_X2_truthAt_0 f_X2_truthAt f_X2_truthOfBinder lG_X2_truthAt lG_X2_truthOfBinder hG_X2_truthAt hG_X2_truthOfBinder hs k
  rcases s_ite hs with ⟨c, hs⟩ | ⟨-, hs⟩
  · subst c
    unfold U_X2_truthAt_98 at hs
    obtain ⟨a0, g0, hs⟩ := s_bind hs
    obtain ⟨a1, g1, hs⟩ := s_bind hs
    obtain ⟨u9, ge, hs⟩ := s_bind hs
    rw [g_i_to g0, g_i_to g1, g_e_to ge]
    exact v_X2_truthAt_98 f_X2_truthAt f_X2_truthOfBinder lG_X2_truthAt lG_X2_truthOfBinder hG_X2_truthAt hG_X2_truthOfBinder hs k
  cases hs
theorem l_X2_truthOfBinder_0 (f_X2_truthAt : Nat → Int32 → Int32 → Int32 → Int32 → sS → Option (Int64 × sS)) (f_X2_truthOfBinder : Nat → Int32 → Int32 → Int32 → Int32 → sS → Option (Int64 × sS)) (lG_X2_truthAt : ∀ {y0 : Nat} {y1 : Int32} {y2 : Int32} {y3 : Int32} {y4 : Int32} {σ : sS} {q : Int64 × sS}, f_X2_truthAt y0 y1 y2 y3 y4 σ = some q → s_le σ q.2) (lG_X2_truthOfBinder : ∀ {y0 : Nat} {y1 : Int32} {y2 : Int32} {y3 : Int32} {y4 : Int32} {σ : sS} {q : Int64 × sS}, f_X2_truthOfBinder y0 y1 y2 y3 y4 σ = some q → s_le σ q.2) {v0 : Nat} {v1 : Int32} {v2 : Int32} {v3 : Int32} {v4 : Int32} {σ : sS} {z : sZ Int64} (hf : T_X2_truthOfBinder_0 f_X2_truthAt f_X2_truthOfBinder v0 v1 v2 v3 v4 σ = some z) : s_lz σ z := by
  unfold T_X2_truthOfBinder_0 at hf
  obtain ⟨q1, hh, hf⟩ := s_bind hf
  refine s_lz.tr (l_X2_kindOf hh) ?_
  rcases s_ite hf with ⟨-, hf⟩ | ⟨-, hf⟩
  · cases hf
    exact s_le.rf
  · cases hf
    exact s_le.rf
theorem l_X2_truthOfBinder_14 (f_X2_truthAt : Nat → Int32 → Int32 → Int32 → Int32 → sS → Option (Int64 × sS)) (f_X2_truthOfBinder : Nat → Int32 → Int32 → Int32 → Int32 → sS → Option (Int64 × sS)) (lG_X2_truthAt : ∀ {y0 : Nat} {y1 : Int32} {y2 : Int32} {y3 : Int32} {y4 : Int32} {σ : sS} {q : Int64 × sS}, f_X2_truthAt y0 y1 y2 y3 y4 σ = some q → s_le σ q.2) (lG_X2_truthOfBinder : ∀ {y0 : Nat} {y1 : Int32} {y2 : Int32} {y3 : Int32} {y4 : Int32} {σ : sS} {q : Int64 × sS}, f_X2_truthOfBinder y0 y1 y2 y3 y4 σ = some q → s_le σ q.2) {v0 : Nat} {v1 : Int32} {v2 : Int32} {v3 : Int32} {v4 : Int32} {w0 : Int32} {σ : sS} {z : sZ Int64} (hf : T_X2_truthOfBinder_14 f_X2_truthAt f_X2_truthOfBinder v0 v1 v2 v3 v4 w0 σ = some z) : s_lz σ z := by
  unfold T_X2_truthOfBinder_14 at hf
  rcases s_ite hf with ⟨-, hf⟩ | ⟨-, hf⟩
  · cases hf
    exact s_le.rf
  · cases hf
    exact s_le.rf
theorem l_X2_truthOfBinder_28 (f_X2_truthAt : Nat → Int32 → Int32 → Int32 → Int32 → sS → Option (Int64 × sS)) (f_X2_truthOfBinder : Nat → Int32 → Int32 → Int32 → Int32 → sS → Option (Int64 × sS)) (lG_X2_truthAt : ∀ {y0 : Nat} {y1 : Int32} {y2 : Int32} {y3 : Int32} {y4 : Int32} {σ : sS} {q : Int64 × sS}, f_X2_truthAt y0 y1 y2 y3 y4 σ = some q → s_le σ q.2) (lG_X2_truthOfBinder : ∀ {y0 : Nat} {y1 : Int32} {y2 : Int32} {y3 : Int32} {y4 : Int32} {σ : sS} {q : Int64 × sS}, f_X2_truthOfBinder y0 y1 y2 y3 y4 σ = some q → s_le σ q.2) {v0 : Nat} {v1 : Int32} {v2 : Int32} {v3 : Int32} {v4 : Int32} {v5 : Int32} {w0 : Int64} {σ : sS} {z : sZ Int64} (hf : T_X2_truthOfBinder_28 f_X2_truthAt f_X2_truthOfBinder v0 v1 v2 v3 v4 v5 w0 σ = some z) : s_lz σ z := by
  unfold T_X2_truthOfBinder_28 at hf
  cases hf
  exact s_le.rf
theorem l_X2_truthOfBinder_33 (f_X2_truthAt : Nat → Int32 → Int32 → Int32 → Int32 → sS → Option (Int64 × sS)) (f_X2_truthOfBinder : Nat → Int32 → Int32 → Int32 → Int32 → sS → Option (Int64 × sS)) (lG_X2_truthAt : ∀ {y0 : Nat} {y1 : Int32} {y2 : Int32} {y3 : Int32} {y4 : Int32} {σ : sS} {q : Int64 × sS}, f_X2_truthAt y0 y1 y2 y3 y4 σ = some q → s_le σ q.2) (lG_X2_truthOfBinder : ∀ {y0 : Nat} {y1 : Int32} {y2 : Int32} {y3 : Int32} {y4 : Int32} {σ : sS} {q : Int64 × sS}, f_X2_truthOfBinder y0 y1 y2 y3 y4 σ = some q → s_le σ q.2) {v0 : Nat} {v1 : Int32} {v2 : Int32} {v3 : Int32} {v4 : Int32} {v5 : Int32} {v6 : Int64} {v8 : Int32} {σ : sS} {z : sZ Int64} (hf : T_X2_truthOfBinder_33 f_X2_truthAt f_X2_truthOfBinder v0 v1 v2 v3 v4 v5 v6 v8 σ = some z) : s_lz σ z := by
  unfold T_X2_truthOfBinder_33 at hf
  rcases s_ite hf with ⟨-, hf⟩ | ⟨-, hf⟩
  · cases hf
    exact s_le.rf
  · obtain ⟨q1, hh, hf⟩ := s_bind hf
    refine s_lz.tr (l_X2_placedOf hh) ?_
    obtain ⟨q2, hh, hf⟩ := s_bind hf
    refine s_lz.tr (lG_X2_truthAt hh) ?_
    rcases s_ite hf with ⟨-, hf⟩ | ⟨-, hf⟩
    · cases hf
      exact s_le.rf
    · cases hf
      exact s_le.rf
theorem l_X2_truthOfBinder_76 (f_X2_truthAt : Nat → Int32 → Int32 → Int32 → Int32 → sS → Option (Int64 × sS)) (f_X2_truthOfBinder : Nat → Int32 → Int32 → Int32 → Int32 → sS → Option (Int64 × sS)) (lG_X2_truthAt : ∀ {y0 : Nat} {y1 : Int32} {y2 : Int32} {y3 : Int32} {y4 : Int32} {σ : sS} {q : Int64 × sS}, f_X2_truthAt y0 y1 y2 y3 y4 σ = some q → s_le σ q.2) (lG_X2_truthOfBinder : ∀ {y0 : Nat} {y1 : Int32} {y2 : Int32} {y3 : Int32} {y4 : Int32} {σ : sS} {q : Int64 × sS}, f_X2_truthOfBinder y0 y1 y2 y3 y4 σ = some q → s_le σ q.2) {v0 : Nat} {v1 : Int32} {v2 : Int32} {v3 : Int32} {v4 : Int32} {v5 : Int32} {v8 : Int32} {w0 : Int64} {σ : sS} {z : sZ Int64} (hf : T_X2_truthOfBinder_76 f_X2_truthAt f_X2_truthOfBinder v0 v1 v2 v3 v4 v5 v8 w0 σ = some z) : s_lz σ z := by
  unfold T_X2_truthOfBinder_76 at hf
  cases hf
  exact s_le.rf
theorem l_X2_truthOfBinder_s (f_X2_truthAt : Nat → Int32 → Int32 → Int32 → Int32 → sS → Option (Int64 × sS)) (f_X2_truthOfBinder : Nat → Int32 → Int32 → Int32 → Int32 → sS → Option (Int64 × sS)) (lG_X2_truthAt : ∀ {y0 : Nat} {y1 : Int32} {y2 : Int32} {y3 : Int32} {y4 : Int32} {σ : sS} {q : Int64 × sS}, f_X2_truthAt y0 y1 y2 y3 y4 σ = some q → s_le σ q.2) (lG_X2_truthOfBinder : ∀ {y0 : Nat} {y1 : Int32} {y2 : Int32} {y3 : Int32} {y4 : Int32} {σ : sS} {q : Int64 × sS}, f_X2_truthOfBinder y0 y1 y2 y3 y4 σ = some q → s_le σ q.2) {x : sL} {z : sZ Int64} (hs : S_X2_truthOfBinder f_X2_truthAt f_X2_truthOfBinder x = some z) : s_lz x.2.2 z := by
  obtain ⟨pc, vs, σ⟩ := x
  unfold S_X2_truthOfBinder at hs
  dsimp only at hs ⊢
  rcases s_ite hs with ⟨c, hs⟩ | ⟨-, hs⟩
  · subst c
    unfold U_X2_truthOfBinder_0 at hs
    obtain ⟨a0, g0, hs⟩ := s_bind hs
    obtain ⟨a1, g1, hs⟩ := s_bind hs
    obtain ⟨a2, g2, hs⟩ := s_bind hs
    obtain ⟨a3, g3, hs⟩ := s_bind hs
    obtain ⟨a4, g4, hs⟩ := s_bind hs
    obtain ⟨u9, ge, hs⟩ := s_bind hs
    exact l_X2_truthOfBinder_0 f_X2_truthAt f_X2_truthOfBinder lG_X2_truthAt lG_X2_truthOfBinder hs
  rcases s_ite hs with ⟨c, hs⟩ | ⟨-, hs⟩
  · subst c
    unfold U_X2_truthOfBinder_14 at hs
    obtain ⟨a0, g0, hs⟩ := s_bind hs
    obtain ⟨a1, g1, hs⟩ := s_bind hs
    obtain ⟨a2, g2, hs⟩ := s_bind hs
    obtain ⟨a3, g3, hs⟩ := s_bind hs
    obtain ⟨a4, g4, hs⟩ := s_bind hs
    obtain ⟨a5, g5, hs⟩ := s_bind hs
    obtain ⟨u9, ge, hs⟩ := s_bind hs
    exact l_X2_truthOfBinder_14 f_X2_truthAt f_X2_truthOfBinder lG_X2_truthAt lG_X2_truthOfBinder hs
  rcases s_ite hs with ⟨c, hs⟩ | ⟨-, hs⟩
  · subst c
    unfold U_X2_truthOfBinder_28 at hs
    obtain ⟨a0, g0, hs⟩ := s_bind hs
    obtain ⟨a1, g1, hs⟩ := s_bind hs
    obtain ⟨a2, g2, hs⟩ := s_bind hs
    obtain ⟨a3, g3, hs⟩ := s_bind hs
    obtain ⟨a4, g4, hs⟩ := s_bind hs
    obtain ⟨a5, g5, hs⟩ := s_bind hs
    obtain ⟨a6, g6, hs⟩ := s_bind hs
    obtain ⟨u9, ge, hs⟩ := s_bind hs
    exact l_X2_truthOfBinder_28 f_X2_truthAt f_X2_truthOfBinder lG_X2_truthAt lG_X2_truthOfBinder hs
  rcases s_ite hs with ⟨c, hs⟩ | ⟨-, hs⟩
  · subst c
    unfold U_X2_truthOfBinder_33 at hs
    obtain ⟨a0, g0, hs⟩ := s_bind hs
    obtain ⟨a1, g1, hs⟩ := s_bind hs
    obtain ⟨a2, g2, hs⟩ := s_bind hs
    obtain ⟨a3, g3, hs⟩ := s_bind hs
    obtain ⟨a4, g4, hs⟩ := s_bind hs
    obtain ⟨a5, g5, hs⟩ := s_bind hs
    obtain ⟨a6, g6, hs⟩ := s_bind hs
    obtain ⟨a7, g7, hs⟩ := s_bind hs
    obtain ⟨u9, ge, hs⟩ := s_bind hs
    exact l_X2_truthOfBinder_33 f_X2_truthAt f_X2_truthOfBinder lG_X2_truthAt lG_X2_truthOfBinder hs
  rcases s_ite hs with ⟨c, hs⟩ | ⟨-, hs⟩
  · subst c
    unfold U_X2_truthOfBinder_76 at hs
    obtain ⟨a0, g0, hs⟩ := s_bind hs
    obtain ⟨a1, g1, hs⟩ := s_bind hs
    obtain ⟨a2, g2, hs⟩ := s_bind hs
    obtain ⟨a3, g3, hs⟩ := s_bind hs
    obtain ⟨a4, g4, hs⟩ := s_bind hs
    obtain ⟨a5, g5, hs⟩ := s_bind hs
    obtain ⟨a6, g6, hs⟩ := s_bind hs
    obtain ⟨a7, g7, hs⟩ := s_bind hs
    obtain ⟨u9, ge, hs⟩ := s_bind hs
    exact l_X2_truthOfBinder_76 f_X2_truthAt f_X2_truthOfBinder lG_X2_truthAt lG_X2_truthOfBinder hs
  cases hs
set_option maxRecDepth 100000 in
set_option maxHeartbeats 4000000 in
theorem v_X2_truthOfBinder_0 (f_X2_truthAt : Nat → Int32 → Int32 → Int32 → Int32 → sS → Option (Int64 × sS)) (f_X2_truthOfBinder : Nat → Int32 → Int32 → Int32 → Int32 → sS → Option (Int64 × sS)) {G : sG} {d : Nat} (lG_X2_truthAt : ∀ {y0 : Nat} {y1 : Int32} {y2 : Int32} {y3 : Int32} {y4 : Int32} {σ : sS} {q : Int64 × sS}, f_X2_truthAt y0 y1 y2 y3 y4 σ = some q → s_le σ q.2) (lG_X2_truthOfBinder : ∀ {y0 : Nat} {y1 : Int32} {y2 : Int32} {y3 : Int32} {y4 : Int32} {σ : sS} {q : Int64 × sS}, f_X2_truthOfBinder y0 y1 y2 y3 y4 σ = some q → s_le σ q.2) (hG_X2_truthAt : ∀ {y0 : Nat} {y1 : Int32} {y2 : Int32} {y3 : Int32} {y4 : Int32} {σ : sS} {q : Int64 × sS}, f_X2_truthAt y0 y1 y2 y3 y4 σ = some q → s_T G (d + 2) M_X2_truthAt [.ref y0, .int y1, .int y2, .int y3, .int y4] σ (e_J q) ∧ ∃ fs, σ.1 y0 = some (.inr (2, fs))) (hG_X2_truthOfBinder : ∀ {y0 : Nat} {y1 : Int32} {y2 : Int32} {y3 : Int32} {y4 : Int32} {σ : sS} {q : Int64 × sS}, f_X2_truthOfBinder y0 y1 y2 y3 y4 σ = some q → s_T G (d + 2) M_X2_truthOfBinder [.ref y0, .int y1, .int y2, .int y3, .int y4] σ (e_J q) ∧ ∃ fs, σ.1 y0 = some (.inr (2, fs))) {vs0 : List Value} {σ0 : sS} {v0 : Nat} {v1 : Int32} {v2 : Int32} {v3 : Int32} {v4 : Int32} {σ : sS} {z : sZ Int64} {r : Int64 × sS} (hf : T_X2_truthOfBinder_0 f_X2_truthAt f_X2_truthOfBinder v0 v1 v2 v3 v4 σ = some z) (k : s_K G (d + 3) M_X2_truthOfBinder vs0 σ0 Y_X2_truthOfBinder e_J z r) : s_V G (d + 3) M_X2_truthOfBinder vs0 σ0 Y_X2_truthOfBinder (0, [.ref v0, .int v1, .int v2, .int v3, .int v4], σ) (e_J r) := by
  have le0 : s_le σ (e_J r).2 := s_lek hem_J (l_X2_truthOfBinder_0 f_X2_truthAt f_X2_truthOfBinder lG_X2_truthAt lG_X2_truthOfBinder hf) k
  refine ⟨le0, ?_⟩
  intro p e s m below meth c H locs cells slots ls X I hn1 hn2 hl
  have hn : cells + σ0.2.1 ≤ σ.2.1 ∧ slots + σ0.2.2.1 ≤ σ.2.2.1 := ⟨hn1, hn2⟩
  have hl : lv_has ls 11 [(0, .ref v0), (1, .int v1), (2, .int v2), (3, .int v3), (4, .int v4)] := hl
  have hx := X.1
  have hb : c.code = cX2_truthOfBinder := X.2.1
  have hown : s.vm.findClass RX2 = some m.cls := X.2.2.2.2.2.1
  have hts := X.2.2.2.2.2.2.1
  refine W.eq (g2 := F0 m 0 ls []) rfl ?_
  unfold T_X2_truthOfBinder_0 at hf
  obtain ⟨q1, h1, hf⟩ := s_bind hf
  have le2 : s_le q1.2 (e_J r).2 := by
    refine s_lek hem_J ?_ k
    rcases s_ite hf with ⟨-, hf⟩ | ⟨-, hf⟩
    · cases hf
      exact s_le.rf
    · cases hf
      exact s_le.rf
  refine lv_aload_n hx hb dX2_truthOfBinder_0 rfl (lv_at hl 0 rfl) ?_
  refine lv_iload_n hx hb dX2_truthOfBinder_1 rfl (lv_at hl 1 rfl) ?_
  refine r_callV (Y := M_X2_kindOf) (v := some (.int q1.1)) X I w_981 my_X2_kindOf (by omega) (t_X2_kindOf (G := G) (d := d + 1) h1) (b_X2_kindOf h1) rfl rfl hl.1 rfl (Nat.le_of_ble_eq_true rfl) hn le2 dX2_truthOfBinder_2 (fun H locs cells slots I hn1 hn2 => ?_)
  have I : s_I G q1.2 s H locs := I
  have hn : cells + σ0.2.1 ≤ q1.2.2.1 ∧ slots + σ0.2.2.1 ≤ q1.2.2.2.1 := ⟨hn1, hn2⟩
  refine lv_iconst (v := 5) hx hb dX2_truthOfBinder_5 (by decide) ?_
  rcases s_ite hf with ⟨c3, hf⟩ | ⟨c3, hf⟩
  · refine lv_icmp_ne (tgt := 13) hx hb dX2_truthOfBinder_6 (by decide) (fun n => absurd c3 n) (fun _ => ?_)
    cases hf
    have k : s_V G (d + 3) M_X2_truthOfBinder vs0 σ0 Y_X2_truthOfBinder (14, [.ref v0, .int v1, .int v2, .int v3, .int v4, .int 1], q1.2) (e_J r) := k
    refine lv_iconst (v := 1) hx hb dX2_truthOfBinder_9 (by decide) ?_
    refine lv_goto (tgt := 14) hx hb dX2_truthOfBinder_10 (by decide) ?_
    exact k.2 p e s m below meth c _ _ _ _ _ X I hn.1 hn.2 (lv_sub hl [0, 1, 2, 3, 4] rfl)
  · refine lv_icmp_ne (tgt := 13) hx hb dX2_truthOfBinder_6 (by decide) (fun _ => ?_) (fun n => absurd n c3)
    cases hf
    have k : s_V G (d + 3) M_X2_truthOfBinder vs0 σ0 Y_X2_truthOfBinder (14, [.ref v0, .int v1, .int v2, .int v3, .int v4, .int 0], q1.2) (e_J r) := k
    refine lv_iconst (v := 0) hx hb dX2_truthOfBinder_13 (by decide) ?_
    exact k.2 p e s m below meth c _ _ _ _ _ X I hn.1 hn.2 (lv_sub hl [0, 1, 2, 3, 4] rfl)
set_option maxRecDepth 100000 in
set_option maxHeartbeats 4000000 in
theorem v_X2_truthOfBinder_14 (f_X2_truthAt : Nat → Int32 → Int32 → Int32 → Int32 → sS → Option (Int64 × sS)) (f_X2_truthOfBinder : Nat → Int32 → Int32 → Int32 → Int32 → sS → Option (Int64 × sS)) {G : sG} {d : Nat} (lG_X2_truthAt : ∀ {y0 : Nat} {y1 : Int32} {y2 : Int32} {y3 : Int32} {y4 : Int32} {σ : sS} {q : Int64 × sS}, f_X2_truthAt y0 y1 y2 y3 y4 σ = some q → s_le σ q.2) (lG_X2_truthOfBinder : ∀ {y0 : Nat} {y1 : Int32} {y2 : Int32} {y3 : Int32} {y4 : Int32} {σ : sS} {q : Int64 × sS}, f_X2_truthOfBinder y0 y1 y2 y3 y4 σ = some q → s_le σ q.2) (hG_X2_truthAt : ∀ {y0 : Nat} {y1 : Int32} {y2 : Int32} {y3 : Int32} {y4 : Int32} {σ : sS} {q : Int64 × sS}, f_X2_truthAt y0 y1 y2 y3 y4 σ = some q → s_T G (d + 2) M_X2_truthAt [.ref y0, .int y1, .int y2, .int y3, .int y4] σ (e_J q) ∧ ∃ fs, σ.1 y0 = some (.inr (2, fs))) (hG_X2_truthOfBinder : ∀ {y0 : Nat} {y1 : Int32} {y2 : Int32} {y3 : Int32} {y4 : Int32} {σ : sS} {q : Int64 × sS}, f_X2_truthOfBinder y0 y1 y2 y3 y4 σ = some q → s_T G (d + 2) M_X2_truthOfBinder [.ref y0, .int y1, .int y2, .int y3, .int y4] σ (e_J q) ∧ ∃ fs, σ.1 y0 = some (.inr (2, fs))) {vs0 : List Value} {σ0 : sS} {v0 : Nat} {v1 : Int32} {v2 : Int32} {v3 : Int32} {v4 : Int32} {w0 : Int32} {σ : sS} {z : sZ Int64} {r : Int64 × sS} (hf : T_X2_truthOfBinder_14 f_X2_truthAt f_X2_truthOfBinder v0 v1 v2 v3 v4 w0 σ = some z) (k : s_K G (d + 3) M_X2_truthOfBinder vs0 σ0 Y_X2_truthOfBinder e_J z r) : s_V G (d + 3) M_X2_truthOfBinder vs0 σ0 Y_X2_truthOfBinder (14, [.ref v0, .int v1, .int v2, .int v3, .int v4, .int w0], σ) (e_J r) := by
  have le0 : s_le σ (e_J r).2 := s_lek hem_J (l_X2_truthOfBinder_14 f_X2_truthAt f_X2_truthOfBinder lG_X2_truthAt lG_X2_truthOfBinder hf) k
  refine ⟨le0, ?_⟩
  intro p e s m below meth c H locs cells slots ls X I hn1 hn2 hl
  have hn : cells + σ0.2.1 ≤ σ.2.1 ∧ slots + σ0.2.2.1 ≤ σ.2.2.1 := ⟨hn1, hn2⟩
  have hl : lv_has ls 11 [(0, .ref v0), (1, .int v1), (2, .int v2), (3, .int v3), (4, .int v4)] := hl
  have hx := X.1
  have hb : c.code = cX2_truthOfBinder := X.2.1
  have hown : s.vm.findClass RX2 = some m.cls := X.2.2.2.2.2.1
  have hts := X.2.2.2.2.2.2.1
  refine W.eq (g2 := F0 m 14 ls [.int w0]) rfl ?_
  unfold T_X2_truthOfBinder_14 at hf
  refine lv_istore (lv' := [(5, .int w0), (0, .ref v0), (1, .int v1), (2, .int v2), (3, .int v3), (4, .int v4)]) hx hb dX2_truthOfBinder_14 hl (by decide) rfl (fun ls hl => ?_)
  refine lv_iload hx hb dX2_truthOfBinder_16 (lv_at hl 0 rfl) ?_
  rcases s_ite hf with ⟨c1, hf⟩ | ⟨c1, hf⟩
  · refine lv_if_eq (tgt := 27) hx hb dX2_truthOfBinder_18 (by decide) (fun _ => ?_) (fun n => absurd c1 n)
    cases hf
    have k : s_V G (d + 3) M_X2_truthOfBinder vs0 σ0 Y_X2_truthOfBinder (28, [.ref v0, .int v1, .int v2, .int v3, .int v4, .int w0, .long 0], σ) (e_J r) := k
    refine lv_lconst (v := 0) hx hb dX2_truthOfBinder_27 (by decide) ?_
    exact k.2 p e s m below meth c _ _ _ _ _ X I hn.1 hn.2 (lv_sub hl [1, 2, 3, 4, 5, 0] rfl)
  · refine lv_if_eq (tgt := 27) hx hb dX2_truthOfBinder_18 (by decide) (fun n => absurd n c1) (fun _ => ?_)
    cases hf
    have k : s_V G (d + 3) M_X2_truthOfBinder vs0 σ0 Y_X2_truthOfBinder (28, [.ref v0, .int v1, .int v2, .int v3, .int v4, .int w0, .long (-1)], σ) (e_J r) := k
    refine lv_ldc2 (own := RX2) hx hb hown (hts _ w_976) dX2_truthOfBinder_21 ?_
    refine lv_goto (tgt := 28) hx hb dX2_truthOfBinder_24 (by decide) ?_
    exact k.2 p e s m below meth c _ _ _ _ _ X I hn.1 hn.2 (lv_sub hl [1, 2, 3, 4, 5, 0] rfl)
set_option maxRecDepth 100000 in
set_option maxHeartbeats 4000000 in
theorem v_X2_truthOfBinder_28 (f_X2_truthAt : Nat → Int32 → Int32 → Int32 → Int32 → sS → Option (Int64 × sS)) (f_X2_truthOfBinder : Nat → Int32 → Int32 → Int32 → Int32 → sS → Option (Int64 × sS)) {G : sG} {d : Nat} (lG_X2_truthAt : ∀ {y0 : Nat} {y1 : Int32} {y2 : Int32} {y3 : Int32} {y4 : Int32} {σ : sS} {q : Int64 × sS}, f_X2_truthAt y0 y1 y2 y3 y4 σ = some q → s_le σ q.2) (lG_X2_truthOfBinder : ∀ {y0 : Nat} {y1 : Int32} {y2 : Int32} {y3 : Int32} {y4 : Int32} {σ : sS} {q : Int64 × sS}, f_X2_truthOfBinder y0 y1 y2 y3 y4 σ = some q → s_le σ q.2) (hG_X2_truthAt : ∀ {y0 : Nat} {y1 : Int32} {y2 : Int32} {y3 : Int32} {y4 : Int32} {σ : sS} {q : Int64 × sS}, f_X2_truthAt y0 y1 y2 y3 y4 σ = some q → s_T G (d + 2) M_X2_truthAt [.ref y0, .int y1, .int y2, .int y3, .int y4] σ (e_J q) ∧ ∃ fs, σ.1 y0 = some (.inr (2, fs))) (hG_X2_truthOfBinder : ∀ {y0 : Nat} {y1 : Int32} {y2 : Int32} {y3 : Int32} {y4 : Int32} {σ : sS} {q : Int64 × sS}, f_X2_truthOfBinder y0 y1 y2 y3 y4 σ = some q → s_T G (d + 2) M_X2_truthOfBinder [.ref y0, .int y1, .int y2, .int y3, .int y4] σ (e_J q) ∧ ∃ fs, σ.1 y0 = some (.inr (2, fs))) {vs0 : List Value} {σ0 : sS} {v0 : Nat} {v1 : Int32} {v2 : Int32} {v3 : Int32} {v4 : Int32} {v5 : Int32} {w0 : Int64} {σ : sS} {z : sZ Int64} {r : Int64 × sS} (hf : T_X2_truthOfBinder_28 f_X2_truthAt f_X2_truthOfBinder v0 v1 v2 v3 v4 v5 w0 σ = some z) (k : s_K G (d + 3) M_X2_truthOfBinder vs0 σ0 Y_X2_truthOfBinder e_J z r) : s_V G (d + 3) M_X2_truthOfBinder vs0 σ0 Y_X2_truthOfBinder (28, [.ref v0, .int v1, .int v2, .int v3, .int v4, .int v5, .long w0], σ) (e_J r) := by
  have le0 : s_le σ (e_J r).2 := s_lek hem_J (l_X2_truthOfBinder_28 f_X2_truthAt f_X2_truthOfBinder lG_X2_truthAt lG_X2_truthOfBinder hf) k
  refine ⟨le0, ?_⟩
  intro p e s m below meth c H locs cells slots ls X I hn1 hn2 hl
  have hn : cells + σ0.2.1 ≤ σ.2.1 ∧ slots + σ0.2.2.1 ≤ σ.2.2.1 := ⟨hn1, hn2⟩
  have hl : lv_has ls 11 [(0, .ref v0), (1, .int v1), (2, .int v2), (3, .int v3), (4, .int v4), (5, .int v5)] := hl
  have hx := X.1
  have hb : c.code = cX2_truthOfBinder := X.2.1
  have hown : s.vm.findClass RX2 = some m.cls := X.2.2.2.2.2.1
  have hts := X.2.2.2.2.2.2.1
  refine W.eq (g2 := F0 m 28 ls [.long w0]) rfl ?_
  unfold T_X2_truthOfBinder_28 at hf
  cases hf
  have k : s_V G (d + 3) M_X2_truthOfBinder vs0 σ0 Y_X2_truthOfBinder (33, [.ref v0, .int v1, .int v2, .int v3, .int v4, .int v5, .long w0, .int 0], σ) (e_J r) := k
  refine lv_lstore (lv' := [(6, .long w0), (0, .ref v0), (1, .int v1), (2, .int v2), (3, .int v3), (4, .int v4), (5, .int v5)]) hx hb dX2_truthOfBinder_28 hl (by decide) rfl (fun ls hl => ?_)
  refine lv_iconst (v := 0) hx hb dX2_truthOfBinder_30 (by decide) ?_
  refine lv_istore (lv' := [(8, .int 0), (6, .long w0), (0, .ref v0), (1, .int v1), (2, .int v2), (3, .int v3), (4, .int v4), (5, .int v5)]) hx hb dX2_truthOfBinder_31 hl (by decide) rfl (fun ls hl => ?_)
  exact k.2 p e s m below meth c _ _ _ _ _ X I hn.1 hn.2 (lv_sub hl [2, 3, 4, 5, 6, 7, 1, 0] rfl)
set_option maxRecDepth 100000 in
set_option maxHeartbeats 4000000 in
theorem v_X2_truthOfBinder_33 (f_X2_truthAt : Nat → Int32 → Int32 → Int32 → Int32 → sS → Option (Int64 × sS)) (f_X2_truthOfBinder : Nat → Int32 → Int32 → Int32 → Int32 → sS → Option (Int64 × sS)) {G : sG} {d : Nat} (lG_X2_truthAt : ∀ {y0 : Nat} {y1 : Int32} {y2 : Int32} {y3 : Int32} {y4 : Int32} {σ : sS} {q : Int64 × sS}, f_X2_truthAt y0 y1 y2 y3 y4 σ = some q → s_le σ q.2) (lG_X2_truthOfBinder : ∀ {y0 : Nat} {y1 : Int32} {y2 : Int32} {y3 : Int32} {y4 : Int32} {σ : sS} {q : Int64 × sS}, f_X2_truthOfBinder y0 y1 y2 y3 y4 σ = some q → s_le σ q.2) (hG_X2_truthAt : ∀ {y0 : Nat} {y1 : Int32} {y2 : Int32} {y3 : Int32} {y4 : Int32} {σ : sS} {q : Int64 × sS}, f_X2_truthAt y0 y1 y2 y3 y4 σ = some q → s_T G (d + 2) M_X2_truthAt [.ref y0, .int y1, .int y2, .int y3, .int y4] σ (e_J q) ∧ ∃ fs, σ.1 y0 = some (.inr (2, fs))) (hG_X2_truthOfBinder : ∀ {y0 : Nat} {y1 : Int32} {y2 : Int32} {y3 : Int32} {y4 : Int32} {σ : sS} {q : Int64 × sS}, f_X2_truthOfBinder y0 y1 y2 y3 y4 σ = some q → s_T G (d + 2) M_X2_truthOfBinder [.ref y0, .int y1, .int y2, .int y3, .int y4] σ (e_J q) ∧ ∃ fs, σ.1 y0 = some (.inr (2, fs))) {vs0 : List Value} {σ0 : sS} {v0 : Nat} {v1 : Int32} {v2 : Int32} {v3 : Int32} {v4 : Int32} {v5 : Int32} {v6 : Int64} {v8 : Int32} {σ : sS} {z : sZ Int64} {r : Int64 × sS} (hf : T_X2_truthOfBinder_33 f_X2_truthAt f_X2_truthOfBinder v0 v1 v2 v3 v4 v5 v6 v8 σ = some z) (k : s_K G (d + 3) M_X2_truthOfBinder vs0 σ0 Y_X2_truthOfBinder e_J z r) : s_V G (d + 3) M_X2_truthOfBinder vs0 σ0 Y_X2_truthOfBinder (33, [.ref v0, .int v1, .int v2, .int v3, .int v4, .int v5, .long v6, .int v8], σ) (e_J r) := by
  have le0 : s_le σ (e_J r).2 := s_lek hem_J (l_X2_truthOfBinder_33 f_X2_truthAt f_X2_truthOfBinder lG_X2_truthAt lG_X2_truthOfBinder hf) k
  refine ⟨le0, ?_⟩
  intro p e s m below meth c H locs cells slots ls X I hn1 hn2 hl
  have hn : cells + σ0.2.1 ≤ σ.2.1 ∧ slots + σ0.2.2.1 ≤ σ.2.2.1 := ⟨hn1, hn2⟩
  have hl : lv_has ls 11 [(0, .ref v0), (1, .int v1), (2, .int v2), (3, .int v3), (4, .int v4), (5, .int v5), (6, .long v6), (8, .int v8)] := hl
  have hx := X.1
  have hb : c.code = cX2_truthOfBinder := X.2.1
  have hown : s.vm.findClass RX2 = some m.cls := X.2.2.2.2.2.1
  have hts := X.2.2.2.2.2.2.1
  refine W.eq (g2 := F0 m 33 ls []) rfl ?_
  unfold T_X2_truthOfBinder_33 at hf
  refine lv_iload hx hb dX2_truthOfBinder_33 (lv_at hl 7 rfl) ?_
  refine lv_iload_n hx hb dX2_truthOfBinder_35 rfl (lv_at hl 3 rfl) ?_
  rcases s_ite hf with ⟨c1, hf⟩ | ⟨c1, hf⟩
  · refine lv_icmp_ge (tgt := 84) hx hb dX2_truthOfBinder_36 (by decide) (fun _ => ?_) (fun n => absurd c1 n)
    cases hf
    have k : _ = r := k
    subst k
    refine lv_lload hx hb dX2_truthOfBinder_84 (lv_at hl 6 rfl) ?_
    exact r_lret X I rfl rfl hn dX2_truthOfBinder_86
  · refine lv_icmp_ge (tgt := 84) hx hb dX2_truthOfBinder_36 (by decide) (fun n => absurd n c1) (fun _ => ?_)
    obtain ⟨q1, h2, hf⟩ := s_bind hf
    obtain ⟨q2, h3, hf⟩ := s_bind hf
    have le4 : s_le q2.2 (e_J r).2 := by
      refine s_lek hem_J ?_ k
      rcases s_ite hf with ⟨-, hf⟩ | ⟨-, hf⟩
      · cases hf
        exact s_le.rf
      · cases hf
        exact s_le.rf
    have le5 := s_le.tr (lG_X2_truthAt h3) le4
    refine lv_aload_n hx hb dX2_truthOfBinder_39 rfl (lv_at hl 0 rfl) ?_
    refine lv_aload_n hx hb dX2_truthOfBinder_40 rfl (lv_at hl 0 rfl) ?_
    refine lv_iload_n hx hb dX2_truthOfBinder_41 rfl (lv_at hl 1 rfl) ?_
    refine lv_iload hx hb dX2_truthOfBinder_42 (lv_at hl 7 rfl) ?_
    refine r_callV (Y := M_X2_placedOf) (v := some (.int q1.1)) X I w_982 my_X2_placedOf (by omega) (t_X2_placedOf (G := G) (d := d + 1) h2) (b_X2_placedOf h2) rfl rfl hl.1 rfl (Nat.le_of_ble_eq_true rfl) hn le5 dX2_truthOfBinder_44 (fun H locs cells slots I hn1 hn2 => ?_)
    have I : s_I G q1.2 s H locs := I
    have hn : cells + σ0.2.1 ≤ q1.2.2.1 ∧ slots + σ0.2.2.1 ≤ q1.2.2.2.1 := ⟨hn1, hn2⟩
    refine lv_iload_n hx hb dX2_truthOfBinder_47 rfl (lv_at hl 2 rfl) ?_
    refine lv_iload_n hx hb dX2_truthOfBinder_48 rfl (lv_at hl 3 rfl) ?_
    refine lv_iload hx hb dX2_truthOfBinder_49 (lv_at hl 4 rfl) ?_
    refine lv_iconst (v := 1) hx hb dX2_truthOfBinder_51 (by decide) ?_
    refine lv_iadd hx hb dX2_truthOfBinder_52 ?_
    refine r_callV (Y := M_X2_truthAt) (v := some (.long q2.1)) X I w_967 my_X2_truthAt (by omega) (hG_X2_truthAt h3).1 (hG_X2_truthAt h3).2 rfl rfl hl.1 rfl (Nat.le_of_ble_eq_true rfl) hn le4 dX2_truthOfBinder_53 (fun H locs cells slots I hn1 hn2 => ?_)
    have I : s_I G q2.2 s H locs := I
    have hn : cells + σ0.2.1 ≤ q2.2.2.1 ∧ slots + σ0.2.2.1 ≤ q2.2.2.2.1 := ⟨hn1, hn2⟩
    refine lv_lstore (lv' := [(9, .long q2.1), (0, .ref v0), (1, .int v1), (2, .int v2), (3, .int v3), (4, .int v4), (5, .int v5), (6, .long v6), (8, .int v8)]) hx hb dX2_truthOfBinder_56 hl (by decide) rfl (fun ls hl => ?_)
    refine lv_iload hx hb dX2_truthOfBinder_58 (lv_at hl 6 rfl) ?_
    rcases s_ite hf with ⟨c6, hf⟩ | ⟨c6, hf⟩
    · refine lv_if_eq (tgt := 71) hx hb dX2_truthOfBinder_60 (by decide) (fun _ => ?_) (fun n => absurd c6 n)
      cases hf
      have k : s_V G (d + 3) M_X2_truthOfBinder vs0 σ0 Y_X2_truthOfBinder (76, [.ref v0, .int v1, .int v2, .int v3, .int v4, .int v5, .int v8, .long (v6 ||| q2.1)], q2.2) (e_J r) := k
      refine lv_lload hx hb dX2_truthOfBinder_71 (lv_at hl 7 rfl) ?_
      refine lv_lload hx hb dX2_truthOfBinder_73 (lv_at hl 0 rfl) ?_
      refine lv_lor hx hb dX2_truthOfBinder_75 ?_
      exact k.2 p e s m below meth c _ _ _ _ _ X I hn.1 hn.2 (lv_sub hl [1, 2, 3, 4, 5, 6, 8] rfl)
    · refine lv_if_eq (tgt := 71) hx hb dX2_truthOfBinder_60 (by decide) (fun n => absurd n c6) (fun _ => ?_)
      cases hf
      have k : s_V G (d + 3) M_X2_truthOfBinder vs0 σ0 Y_X2_truthOfBinder (76, [.ref v0, .int v1, .int v2, .int v3, .int v4, .int v5, .int v8, .long (v6 &&& q2.1)], q2.2) (e_J r) := k
      refine lv_lload hx hb dX2_truthOfBinder_63 (lv_at hl 7 rfl) ?_
      refine lv_lload hx hb dX2_truthOfBinder_65 (lv_at hl 0 rfl) ?_
      refine lv_land hx hb dX2_truthOfBinder_67 ?_
      refine lv_goto (tgt := 76) hx hb dX2_truthOfBinder_68 (by decide) ?_
      exact k.2 p e s m below meth c _ _ _ _ _ X I hn.1 hn.2 (lv_sub hl [1, 2, 3, 4, 5, 6, 8] rfl)
set_option maxRecDepth 100000 in
set_option maxHeartbeats 4000000 in
theorem v_X2_truthOfBinder_76 (f_X2_truthAt : Nat → Int32 → Int32 → Int32 → Int32 → sS → Option (Int64 × sS)) (f_X2_truthOfBinder : Nat → Int32 → Int32 → Int32 → Int32 → sS → Option (Int64 × sS)) {G : sG} {d : Nat} (lG_X2_truthAt : ∀ {y0 : Nat} {y1 : Int32} {y2 : Int32} {y3 : Int32} {y4 : Int32} {σ : sS} {q : Int64 × sS}, f_X2_truthAt y0 y1 y2 y3 y4 σ = some q → s_le σ q.2) (lG_X2_truthOfBinder : ∀ {y0 : Nat} {y1 : Int32} {y2 : Int32} {y3 : Int32} {y4 : Int32} {σ : sS} {q : Int64 × sS}, f_X2_truthOfBinder y0 y1 y2 y3 y4 σ = some q → s_le σ q.2) (hG_X2_truthAt : ∀ {y0 : Nat} {y1 : Int32} {y2 : Int32} {y3 : Int32} {y4 : Int32} {σ : sS} {q : Int64 × sS}, f_X2_truthAt y0 y1 y2 y3 y4 σ = some q → s_T G (d + 2) M_X2_truthAt [.ref y0, .int y1, .int y2, .int y3, .int y4] σ (e_J q) ∧ ∃ fs, σ.1 y0 = some (.inr (2, fs))) (hG_X2_truthOfBinder : ∀ {y0 : Nat} {y1 : Int32} {y2 : Int32} {y3 : Int32} {y4 : Int32} {σ : sS} {q : Int64 × sS}, f_X2_truthOfBinder y0 y1 y2 y3 y4 σ = some q → s_T G (d + 2) M_X2_truthOfBinder [.ref y0, .int y1, .int y2, .int y3, .int y4] σ (e_J q) ∧ ∃ fs, σ.1 y0 = some (.inr (2, fs))) {vs0 : List Value} {σ0 : sS} {v0 : Nat} {v1 : Int32} {v2 : Int32} {v3 : Int32} {v4 : Int32} {v5 : Int32} {v8 : Int32} {w0 : Int64} {σ : sS} {z : sZ Int64} {r : Int64 × sS} (hf : T_X2_truthOfBinder_76 f_X2_truthAt f_X2_truthOfBinder v0 v1 v2 v3 v4 v5 v8 w0 σ = some z) (k : s_K G (d + 3) M_X2_truthOfBinder vs0 σ0 Y_X2_truthOfBinder e_J z r) : s_V G (d + 3) M_X2_truthOfBinder vs0 σ0 Y_X2_truthOfBinder (76, [.ref v0, .int v1, .int v2, .int v3, .int v4, .int v5, .int v8, .long w0], σ) (e_J r) := by
  have le0 : s_le σ (e_J r).2 := s_lek hem_J (l_X2_truthOfBinder_76 f_X2_truthAt f_X2_truthOfBinder lG_X2_truthAt lG_X2_truthOfBinder hf) k
  refine ⟨le0, ?_⟩
  intro p e s m below meth c H locs cells slots ls X I hn1 hn2 hl
  have hn : cells + σ0.2.1 ≤ σ.2.1 ∧ slots + σ0.2.2.1 ≤ σ.2.2.1 := ⟨hn1, hn2⟩
  have hl : lv_has ls 11 [(0, .ref v0), (1, .int v1), (2, .int v2), (3, .int v3), (4, .int v4), (5, .int v5), (8, .int v8)] := hl
  have hx := X.1
  have hb : c.code = cX2_truthOfBinder := X.2.1
  have hown : s.vm.findClass RX2 = some m.cls := X.2.2.2.2.2.1
  have hts := X.2.2.2.2.2.2.1
  refine W.eq (g2 := F0 m 76 ls [.long w0]) rfl ?_
  unfold T_X2_truthOfBinder_76 at hf
  cases hf
  have k : s_V G (d + 3) M_X2_truthOfBinder vs0 σ0 Y_X2_truthOfBinder (33, [.ref v0, .int v1, .int v2, .int v3, .int v4, .int v5, .long w0, .int (v8 + 1)], σ) (e_J r) := k
  refine lv_lstore (lv' := [(6, .long w0), (0, .ref v0), (1, .int v1), (2, .int v2), (3, .int v3), (4, .int v4), (5, .int v5), (8, .int v8)]) hx hb dX2_truthOfBinder_76 hl (by decide) rfl (fun ls hl => ?_)
  refine lv_iinc (v := (v8 + 1)) (lv' := [(8, .int (v8 + 1)), (6, .long w0), (0, .ref v0), (1, .int v1), (2, .int v2), (3, .int v3), (4, .int v4), (5, .int v5)]) hx hb dX2_truthOfBinder_78 hl (k := 7) rfl rfl (by decide) rfl (fun ls hl => ?_)
  refine lv_goto (tgt := 33) hx hb dX2_truthOfBinder_81 (by decide) ?_
  exact k.2 p e s m below meth c _ _ _ _ _ X I hn.1 hn.2 (lv_sub hl [2, 3, 4, 5, 6, 7, 1, 0] rfl)
theorem v_X2_truthOfBinder (f_X2_truthAt : Nat → Int32 → Int32 → Int32 → Int32 → sS → Option (Int64 × sS)) (f_X2_truthOfBinder : Nat → Int32 → Int32 → Int32 → Int32 → sS → Option (Int64 × sS)) {G : sG} {d : Nat} (lG_X2_truthAt : ∀ {y0 : Nat} {y1 : Int32} {y2 : Int32} {y3 : Int32} {y4 : Int32} {σ : sS} {q : Int64 × sS}, f_X2_truthAt y0 y1 y2 y3 y4 σ = some q → s_le σ q.2) (lG_X2_truthOfBinder : ∀ {y0 : Nat} {y1 : Int32} {y2 : Int32} {y3 : Int32} {y4 : Int32} {σ : sS} {q : Int64 × sS}, f_X2_truthOfBinder y0 y1 y2 y3 y4 σ = some q → s_le σ q.2) (hG_X2_truthAt : ∀ {y0 : Nat} {y1 : Int32} {y2 : Int32} {y3 : Int32} {y4 : Int32} {σ : sS} {q : Int64 × sS}, f_X2_truthAt y0 y1 y2 y3 y4 σ = some q → s_T G (d + 2) M_X2_truthAt [.ref y0, .int y1, .int y2, .int y3, .int y4] σ (e_J q) ∧ ∃ fs, σ.1 y0 = some (.inr (2, fs))) (hG_X2_truthOfBinder : ∀ {y0 : Nat} {y1 : Int32} {y2 : Int32} {y3 : Int32} {y4 : Int32} {σ : sS} {q : Int64 × sS}, f_X2_truthOfBinder y0 y1 y2 y3 y4 σ = some q → s_T G (d + 2) M_X2_truthOfBinder [.ref y0, .int y1, .int y2, .int y3, .int y4] σ (e_J q) ∧ ∃ fs, σ.1 y0 = some (.inr (2, fs))) {vs0 : List Value} {σ0 : sS} {x : sL} {z : sZ Int64} {r : Int64 × sS} (hs : S_X2_truthOfBinder f_X2_truthAt f_X2_truthOfBinder x = some z) (k : s_K G (d + 3) M_X2_truthOfBinder vs0 σ0 Y_X2_truthOfBinder e_J z r) : s_V G (d + 3) M_X2_truthOfBinder vs0 σ0 Y_X2_truthOfBinder x (e_J r) := by
  obtain ⟨pc, vs, σ⟩ := x
  unfold S_X2_truthOfBinder at hs
  dsimp only at hs
  rcases s_ite hs with ⟨c, hs⟩ | ⟨-, hs⟩
  · subst c
    unfold U_X2_truthOfBinder_0 at hs
    obtain ⟨a0, g0, hs⟩ := s_bind hs
    obtain ⟨a1, g1, hs⟩ := s_bind hs
    obtain ⟨a2, g2, hs⟩ := s_bind hs
    obtain ⟨a3, g3, hs⟩ := s_bind hs
    obtain ⟨a4, g4, hs⟩ := s_bind hs
    obtain ⟨u9, ge, hs⟩ := s_bind hs
    rw [g_r_to g0, g_i_to g1, g_i_to g2, g_i_to g3, g_i_to g4, g_e_to ge]
    exact v_X2_truthOfBinder_0 f_X2_truthAt f_X2_truthOfBinder lG_X2_truthAt lG_X2_truthOfBinder hG_X2_truthAt hG_X2_truthOfBinder hs k
  rcases s_ite hs with ⟨c, hs⟩ | ⟨-, hs⟩
  · subst c
    unfold U_X2_truthOfBinder_14 at hs
    obtain ⟨a0, g0, hs⟩ := s_bind hs
    obtain ⟨a1, g1, hs⟩ := s_bind hs
    obtain ⟨a2, g2, hs⟩ := s_bind hs
    obtain ⟨a3, g3, hs⟩ := s_bind hs
    obtain ⟨a4, g4, hs⟩ := s_bind hs
    obtain ⟨a5, g5, hs⟩ := s_bind hs
    obtain ⟨u9, ge, hs⟩ := s_bind hs
    rw [g_r_to g0, g_i_to g1, g_i_to g2, g_i_to g3, g_i_to g4, g_i_to g5, g_e_to ge]
    exact v_X2_truthOfBinder_14 f_X2_truthAt f_X2_truthOfBinder lG_X2_truthAt lG_X2_truthOfBinder hG_X2_truthAt hG_X2_truthOfBinder hs k
  rcases s_ite hs with ⟨c, hs⟩ | ⟨-, hs⟩
  · subst c
    unfold U_X2_truthOfBinder_28 at hs
    obtain ⟨a0, g0, hs⟩ := s_bind hs
    obtain ⟨a1, g1, hs⟩ := s_bind hs
    obtain ⟨a2, g2, hs⟩ := s_bind hs
    obtain ⟨a3, g3, hs⟩ := s_bind hs
    obtain ⟨a4, g4, hs⟩ := s_bind hs
    obtain ⟨a5, g5, hs⟩ := s_bind hs
    obtain ⟨a6, g6, hs⟩ := s_bind hs
    obtain ⟨u9, ge, hs⟩ := s_bind hs
    rw [g_r_to g0, g_i_to g1, g_i_to g2, g_i_to g3, g_i_to g4, g_i_to g5, g_l_to g6, g_e_to ge]
    exact v_X2_truthOfBinder_28 f_X2_truthAt f_X2_truthOfBinder lG_X2_truthAt lG_X2_truthOfBinder hG_X2_truthAt hG_X2_truthOfBinder hs k
  rcases s_ite hs with ⟨c, hs⟩ | ⟨-, hs⟩
  · subst c
    unfold U_X2_truthOfBinder_33 at hs
    obtain ⟨a0, g0, hs⟩ := s_bind hs
    obtain ⟨a1, g1, hs⟩ := s_bind hs
    obtain ⟨a2, g2, hs⟩ := s_bind hs
    obtain ⟨a3, g3, hs⟩ := s_bind hs
    obtain ⟨a4, g4, hs⟩ := s_bind hs
    obtain ⟨a5, g5, hs⟩ := s_bind hs
    obtain ⟨a6, g6, hs⟩ := s_bind hs
    obtain ⟨a7, g7, hs⟩ := s_bind hs
    obtain ⟨u9, ge, hs⟩ := s_bind hs
    rw [g_r_to g0, g_i_to g1, g_i_to g2, g_i_to g3, g_i_to g4, g_i_to g5, g_l_to g6, g_i_to g7, g_e_to ge]
    exact v_X2_truthOfBinder_33 f_X2_truthAt f_X2_truthOfBinder lG_X2_truthAt lG_X2_truthOfBinder hG_X2_truthAt hG_X2_truthOfBinder hs k
  rcases s_ite hs with ⟨c, hs⟩ | ⟨-, hs⟩
  · subst c
    unfold U_X2_truthOfBinder_76 at hs
    obtain ⟨a0, g0, hs⟩ := s_bind hs
    obtain ⟨a1, g1, hs⟩ := s_bind hs
    obtain ⟨a2, g2, hs⟩ := s_bind hs
    obtain ⟨a3, g3, hs⟩ := s_bind hs
    obtain ⟨a4, g4, hs⟩ := s_bind hs
    obtain ⟨a5, g5, hs⟩ := s_bind hs
    obtain ⟨a6, g6, hs⟩ := s_bind hs
    obtain ⟨a7, g7, hs⟩ := s_bind hs
    obtain ⟨u9, ge, hs⟩ := s_bind hs
    rw [g_r_to g0, g_i_to g1, g_i_to g2, g_i_to g3, g_i_to g4, g_i_to g5, g_i_to g6, g_l_to g7, g_e_to ge]
    exact v_X2_truthOfBinder_76 f_X2_truthAt f_X2_truthOfBinder lG_X2_truthAt lG_X2_truthOfBinder hG_X2_truthAt hG_X2_truthOfBinder hs k
  cases hs
theorem lq_X2_truthAt : ∀ k : Nat, (∀ {y0 : Nat} {y1 : Int32} {y2 : Int32} {y3 : Int32} {y4 : Int32} {σ : sS} {q : Int64 × sS}, F_X2_truthAt k y0 y1 y2 y3 y4 σ = some q → s_le σ q.2) ∧ (∀ {y0 : Nat} {y1 : Int32} {y2 : Int32} {y3 : Int32} {y4 : Int32} {σ : sS} {q : Int64 × sS}, F_X2_truthOfBinder k y0 y1 y2 y3 y4 σ = some q → s_le σ q.2) := by
  intro k
  induction k with
  | zero => exact ⟨(fun h => by cases h), (fun h => by cases h)⟩
  | succ k ih =>
    refine ⟨?_, ?_⟩
    · intro y0 y1 y2 y3 y4 σ q h
      have h : ((s_is σ y0 2).bind fun _ => s_run (S_X2_truthAt (F_X2_truthAt k) (F_X2_truthOfBinder k)) (0, [.ref y0, .int y1, .int y2, .int y3, .int y4], σ)) = some q := h
      obtain ⟨-, -, h⟩ := s_bind h
      exact s_run_ind (V := fun x r => s_le x.2.2 r.2) (fun x z r hs hk => by
        have h9 := l_X2_truthAt_s (F_X2_truthAt k) (F_X2_truthOfBinder k) ih.1 ih.2 hs
        cases z with
        | inl y => exact s_le.tr h9 hk
        | inr q => cases hk; exact h9) h
    · intro y0 y1 y2 y3 y4 σ q h
      have h : ((s_is σ y0 2).bind fun _ => s_run (S_X2_truthOfBinder (F_X2_truthAt k) (F_X2_truthOfBinder k)) (0, [.ref y0, .int y1, .int y2, .int y3, .int y4], σ)) = some q := h
      obtain ⟨-, -, h⟩ := s_bind h
      exact s_run_ind (V := fun x r => s_le x.2.2 r.2) (fun x z r hs hk => by
        have h9 := l_X2_truthOfBinder_s (F_X2_truthAt k) (F_X2_truthOfBinder k) ih.1 ih.2 hs
        cases z with
        | inl y => exact s_le.tr h9 hk
        | inr q => cases hk; exact h9) h
theorem tq_X2_truthAt {G : sG} {d : Nat} : ∀ k : Nat, (∀ {y0 : Nat} {y1 : Int32} {y2 : Int32} {y3 : Int32} {y4 : Int32} {σ : sS} {q : Int64 × sS}, F_X2_truthAt k y0 y1 y2 y3 y4 σ = some q → s_T G (d + k + 2) M_X2_truthAt [.ref y0, .int y1, .int y2, .int y3, .int y4] σ (e_J q) ∧ ∃ fs, σ.1 y0 = some (.inr (2, fs))) ∧ (∀ {y0 : Nat} {y1 : Int32} {y2 : Int32} {y3 : Int32} {y4 : Int32} {σ : sS} {q : Int64 × sS}, F_X2_truthOfBinder k y0 y1 y2 y3 y4 σ = some q → s_T G (d + k + 2) M_X2_truthOfBinder [.ref y0, .int y1, .int y2, .int y3, .int y4] σ (e_J q) ∧ ∃ fs, σ.1 y0 = some (.inr (2, fs))) := by
  intro k
  induction k with
  | zero => exact ⟨(fun h => by cases h), (fun h => by cases h)⟩
  | succ k ih =>
    refine ⟨?_, ?_⟩
    · intro y0 y1 y2 y3 y4 σ q h
      have h : ((s_is σ y0 2).bind fun _ => s_run (S_X2_truthAt (F_X2_truthAt k) (F_X2_truthOfBinder k)) (0, [.ref y0, .int y1, .int y2, .int y3, .int y4], σ)) = some q := h
      obtain ⟨u, hu, h⟩ := s_bind h
      refine ⟨?_, s_is_to hu⟩
      exact s_ofV (d := (d + k) + 3) rfl (by decide) (Nat.le_of_ble_eq_true rfl) rfl rfl (s_run_ind (V := fun x r => s_V G ((d + k) + 3) M_X2_truthAt [.ref y0, .int y1, .int y2, .int y3, .int y4] σ Y_X2_truthAt x (e_J r)) (fun x z r hs hk => v_X2_truthAt (F_X2_truthAt k) (F_X2_truthOfBinder k) (lq_X2_truthAt k).1 (lq_X2_truthAt k).2 ih.1 ih.2 hs (by cases z <;> exact hk)) h)
    · intro y0 y1 y2 y3 y4 σ q h
      have h : ((s_is σ y0 2).bind fun _ => s_run (S_X2_truthOfBinder (F_X2_truthAt k) (F_X2_truthOfBinder k)) (0, [.ref y0, .int y1, .int y2, .int y3, .int y4], σ)) = some q := h
      obtain ⟨u, hu, h⟩ := s_bind h
      refine ⟨?_, s_is_to hu⟩
      exact s_ofV (d := (d + k) + 3) rfl (by decide) (Nat.le_of_ble_eq_true rfl) rfl rfl (s_run_ind (V := fun x r => s_V G ((d + k) + 3) M_X2_truthOfBinder [.ref y0, .int y1, .int y2, .int y3, .int y4] σ Y_X2_truthOfBinder x (e_J r)) (fun x z r hs hk => v_X2_truthOfBinder (F_X2_truthAt k) (F_X2_truthOfBinder k) (lq_X2_truthAt k).1 (lq_X2_truthAt k).2 ih.1 ih.2 hs (by cases z <;> exact hk)) h)
theorem l_X2_truthAt {k : Nat} {v0 : Nat} {v1 : Int32} {v2 : Int32} {v3 : Int32} {v4 : Int32} {σ : sS} {q : Int64 × sS} (h : F_X2_truthAt k v0 v1 v2 v3 v4 σ = some q) : s_le σ q.2 := (lq_X2_truthAt k).1 h
theorem t_X2_truthAt {G : sG} {d : Nat} {v0 : Nat} {v1 : Int32} {v2 : Int32} {v3 : Int32} {v4 : Int32} {σ : sS} {q : Int64 × sS} (h : F_X2_truthAt 64 v0 v1 v2 v3 v4 σ = some q) : s_T G (d + 66) M_X2_truthAt [.ref v0, .int v1, .int v2, .int v3, .int v4] σ (e_J q) := ((tq_X2_truthAt (G := G) (d := d) 64).1 h).1
theorem b_X2_truthAt {v0 : Nat} {v1 : Int32} {v2 : Int32} {v3 : Int32} {v4 : Int32} {σ : sS} {q : Int64 × sS} (h : F_X2_truthAt 64 v0 v1 v2 v3 v4 σ = some q) : ∃ fs, σ.1 v0 = some (.inr (2, fs)) := by
  have h : ((s_is σ v0 2).bind fun _ => s_run (S_X2_truthAt (F_X2_truthAt 63) (F_X2_truthOfBinder 63)) (0, [.ref v0, .int v1, .int v2, .int v3, .int v4], σ)) = some q := h
  obtain ⟨u, hu, -⟩ := s_bind h
  exact s_is_to hu
theorem l_X2_truthOfBinder {k : Nat} {v0 : Nat} {v1 : Int32} {v2 : Int32} {v3 : Int32} {v4 : Int32} {σ : sS} {q : Int64 × sS} (h : F_X2_truthOfBinder k v0 v1 v2 v3 v4 σ = some q) : s_le σ q.2 := (lq_X2_truthAt k).2 h
theorem t_X2_truthOfBinder {G : sG} {d : Nat} {v0 : Nat} {v1 : Int32} {v2 : Int32} {v3 : Int32} {v4 : Int32} {σ : sS} {q : Int64 × sS} (h : F_X2_truthOfBinder 64 v0 v1 v2 v3 v4 σ = some q) : s_T G (d + 66) M_X2_truthOfBinder [.ref v0, .int v1, .int v2, .int v3, .int v4] σ (e_J q) := ((tq_X2_truthAt (G := G) (d := d) 64).2 h).1
theorem b_X2_truthOfBinder {v0 : Nat} {v1 : Int32} {v2 : Int32} {v3 : Int32} {v4 : Int32} {σ : sS} {q : Int64 × sS} (h : F_X2_truthOfBinder 64 v0 v1 v2 v3 v4 σ = some q) : ∃ fs, σ.1 v0 = some (.inr (2, fs)) := by
  have h : ((s_is σ v0 2).bind fun _ => s_run (S_X2_truthOfBinder (F_X2_truthAt 63) (F_X2_truthOfBinder 63)) (0, [.ref v0, .int v1, .int v2, .int v3, .int v4], σ)) = some q := h
  obtain ⟨u, hu, -⟩ := s_bind h
  exact s_is_to hu
/-! X2_truth -/
noncomputable def T_X2_truth_0 (v0 : Nat) (v1 : Int32) (v2 : Int32) (v3 : Int32) (σ : sS) : Option (sZ Int64) :=
  (F_X2_truthAt 64 v0 v1 v2 v3 0 σ).bind fun q1 =>
  some (.inr (q1.1, q1.2))
noncomputable def U_X2_truth_0 (vs : List Value) (σ : sS) : Option (sZ Int64) := (g_r vs).bind fun a0 => (g_i a0.2).bind fun a1 => (g_i a1.2).bind fun a2 => (g_i a2.2).bind fun a3 => (g_e a3.2).bind fun _ => T_X2_truth_0 a0.1 a1.1 a2.1 a3.1 σ
noncomputable def S_X2_truth (x : sL) : Option (sZ Int64) := if x.1 = 0 then U_X2_truth_0 x.2.1 x.2.2 else none
def Y_X2_truth (pc : Nat) : List Nat := if pc = 0 then [0, 1, 2, 3] else []
noncomputable def F_X2_truth (v0 : Nat) (v1 : Int32) (v2 : Int32) (v3 : Int32) (σ : sS) : Option (Int64 × sS) := (s_is σ v0 2).bind fun _ => s_run S_X2_truth (0, [.ref v0, .int v1, .int v2, .int v3], σ)
theorem l_X2_truth_0 {v0 : Nat} {v1 : Int32} {v2 : Int32} {v3 : Int32} {σ : sS} {z : sZ Int64} (hf : T_X2_truth_0 v0 v1 v2 v3 σ = some z) : s_lz σ z := by
  unfold T_X2_truth_0 at hf
  obtain ⟨q1, hh, hf⟩ := s_bind hf
  refine s_lz.tr (l_X2_truthAt hh) ?_
  cases hf
  exact s_le.rf
theorem l_X2_truth_s {x : sL} {z : sZ Int64} (hs : S_X2_truth x = some z) : s_lz x.2.2 z := by
  obtain ⟨pc, vs, σ⟩ := x
  unfold S_X2_truth at hs
  dsimp only at hs ⊢
  rcases s_ite hs with ⟨c, hs⟩ | ⟨-, hs⟩
  · subst c
    unfold U_X2_truth_0 at hs
    obtain ⟨a0, g0, hs⟩ := s_bind hs
    obtain ⟨a1, g1, hs⟩ := s_bind hs
    obtain ⟨a2, g2, hs⟩ := s_bind hs
    obtain ⟨a3, g3, hs⟩ := s_bind hs
    obtain ⟨u9, ge, hs⟩ := s_bind hs
    exact l_X2_truth_0 hs
  cases hs
theorem l_X2_truth {v0 : Nat} {v1 : Int32} {v2 : Int32} {v3 : Int32} {σ : sS} {q : Int64 × sS} (h : F_X2_truth v0 v1 v2 v3 σ = some q) : s_le σ q.2 := by
  unfold F_X2_truth at h
  obtain ⟨-, -, h⟩ := s_bind h
  exact s_run_ind (V := fun x r => s_le x.2.2 r.2) (fun x z r hs hk => by
    have h9 := l_X2_truth_s hs
    cases z with
    | inl y => exact s_le.tr h9 hk
    | inr q => cases hk; exact h9) h
theorem b_X2_truth {v0 : Nat} {v1 : Int32} {v2 : Int32} {v3 : Int32} {σ : sS} {q : Int64 × sS} (h : F_X2_truth v0 v1 v2 v3 σ = some q) : ∃ fs, σ.1 v0 = some (.inr (2, fs)) := by
  unfold F_X2_truth at h
  obtain ⟨u, hu, -⟩ := s_bind h
  exact s_is_to hu
set_option maxRecDepth 100000 in
set_option maxHeartbeats 4000000 in
theorem v_X2_truth_0 {G : sG} {d : Nat} {vs0 : List Value} {σ0 : sS} {v0 : Nat} {v1 : Int32} {v2 : Int32} {v3 : Int32} {σ : sS} {z : sZ Int64} {r : Int64 × sS} (hf : T_X2_truth_0 v0 v1 v2 v3 σ = some z) (k : s_K G (d + 67) M_X2_truth vs0 σ0 Y_X2_truth e_J z r) : s_V G (d + 67) M_X2_truth vs0 σ0 Y_X2_truth (0, [.ref v0, .int v1, .int v2, .int v3], σ) (e_J r) := by
  have le0 : s_le σ (e_J r).2 := s_lek hem_J (l_X2_truth_0 hf) k
  refine ⟨le0, ?_⟩
  intro p e s m below meth c H locs cells slots ls X I hn1 hn2 hl
  have hn : cells + σ0.2.1 ≤ σ.2.1 ∧ slots + σ0.2.2.1 ≤ σ.2.2.1 := ⟨hn1, hn2⟩
  have hl : lv_has ls 4 [(0, .ref v0), (1, .int v1), (2, .int v2), (3, .int v3)] := hl
  have hx := X.1
  have hb : c.code = cX2_truth := X.2.1
  have hown : s.vm.findClass RX2 = some m.cls := X.2.2.2.2.2.1
  have hts := X.2.2.2.2.2.2.1
  refine W.eq (g2 := F0 m 0 ls []) rfl ?_
  unfold T_X2_truth_0 at hf
  obtain ⟨q1, h1, hf⟩ := s_bind hf
  cases hf
  have k : _ = r := k
  subst k
  have le2 : s_le q1.2 q1.2 := s_le.rf
  refine lv_aload_n hx hb dX2_truth_0 rfl (lv_at hl 0 rfl) ?_
  refine lv_iload_n hx hb dX2_truth_1 rfl (lv_at hl 1 rfl) ?_
  refine lv_iload_n hx hb dX2_truth_2 rfl (lv_at hl 2 rfl) ?_
  refine lv_iload_n hx hb dX2_truth_3 rfl (lv_at hl 3 rfl) ?_
  refine lv_iconst (v := 0) hx hb dX2_truth_4 (by decide) ?_
  refine r_callV (Y := M_X2_truthAt) (v := some (.long q1.1)) X I w_967 my_X2_truthAt (by omega) (t_X2_truthAt (G := G) (d := d + 0) h1) (b_X2_truthAt h1) rfl rfl hl.1 rfl (Nat.le_of_ble_eq_true rfl) hn le2 dX2_truth_5 (fun H locs cells slots I hn1 hn2 => ?_)
  have I : s_I G q1.2 s H locs := I
  have hn : cells + σ0.2.1 ≤ q1.2.2.1 ∧ slots + σ0.2.2.1 ≤ q1.2.2.2.1 := ⟨hn1, hn2⟩
  exact r_lret X I rfl rfl hn dX2_truth_8
theorem v_X2_truth {G : sG} {d : Nat} {vs0 : List Value} {σ0 : sS} {x : sL} {z : sZ Int64} {r : Int64 × sS} (hs : S_X2_truth x = some z) (k : s_K G (d + 67) M_X2_truth vs0 σ0 Y_X2_truth e_J z r) : s_V G (d + 67) M_X2_truth vs0 σ0 Y_X2_truth x (e_J r) := by
  obtain ⟨pc, vs, σ⟩ := x
  unfold S_X2_truth at hs
  dsimp only at hs
  rcases s_ite hs with ⟨c, hs⟩ | ⟨-, hs⟩
  · subst c
    unfold U_X2_truth_0 at hs
    obtain ⟨a0, g0, hs⟩ := s_bind hs
    obtain ⟨a1, g1, hs⟩ := s_bind hs
    obtain ⟨a2, g2, hs⟩ := s_bind hs
    obtain ⟨a3, g3, hs⟩ := s_bind hs
    obtain ⟨u9, ge, hs⟩ := s_bind hs
    rw [g_r_to g0, g_i_to g1, g_i_to g2, g_i_to g3, g_e_to ge]
    exact v_X2_truth_0 hs k
  cases hs
theorem t_X2_truth {G : sG} {d : Nat} {v0 : Nat} {v1 : Int32} {v2 : Int32} {v3 : Int32} {σ : sS} {q : Int64 × sS} (h : F_X2_truth v0 v1 v2 v3 σ = some q) : s_T G (d + 67) M_X2_truth [.ref v0, .int v1, .int v2, .int v3] σ (e_J q) := by
  unfold F_X2_truth at h
  obtain ⟨-, -, h⟩ := s_bind h
  exact s_ofV rfl (by decide) (Nat.le_of_ble_eq_true rfl) rfl rfl (s_run_ind (V := fun x r => s_V G (d + 67) M_X2_truth [.ref v0, .int v1, .int v2, .int v3] σ Y_X2_truth x (e_J r)) (fun x z r hs hk => v_X2_truth hs (by cases z <;> exact hk)) h)
