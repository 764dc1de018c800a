/-! L_refunds -/
noncomputable def T_L_refunds_0 (v0 : Nat) (v1 : Int32) (v2 : Nat) (σ : sS) : Option (sZ Int32) :=
  (F_X7_refunds v0 v1 σ).bind fun q1 => s_sum q1.1 (fun x2 => (s_sl q1.2 v2 0 ((x2 : Int32).toInt64)).bind fun σ4 =>
  some (.inr (0, σ4))) (fun E3 => if E3 = "java/lang/IllegalArgumentException" then (some (.inr (1, q1.2))) else none)
noncomputable def U_L_refunds_0 (vs : List Value) (σ : sS) : Option (sZ Int32) := (g_r vs).bind fun a0 => (g_i a0.2).bind fun a1 => (g_r a1.2).bind fun a2 => (g_e a2.2).bind fun _ => T_L_refunds_0 a0.1 a1.1 a2.1 σ
noncomputable def S_L_refunds (x : sL) : Option (sZ Int32) := if x.1 = 0 then U_L_refunds_0 x.2.1 x.2.2 else none
def Y_L_refunds (pc : Nat) : List Nat := if pc = 0 then [0, 1, 2] else []
noncomputable def F_L_refunds (v0 : Nat) (v1 : Int32) (v2 : Nat) (σ : sS) : Option (Int32 × sS) := s_run S_L_refunds (0, [.ref v0, .int v1, .ref v2], σ)
theorem l_L_refunds_0 {v0 : Nat} {v1 : Int32} {v2 : Nat} {σ : sS} {z : sZ Int32} (hf : T_L_refunds_0 v0 v1 v2 σ = some z) : s_lz σ z := by
  unfold T_L_refunds_0 at hf
  obtain ⟨q1, hh, hf⟩ := s_bind hf
  refine s_lz.tr (l_X7_refunds hh) ?_
  rcases s_sum_some hf with ⟨x2, -, hf⟩ | ⟨E3, -, hf⟩
  · obtain ⟨σ4, hh, hf⟩ := s_bind hf
    refine s_lz.tr (s_le2 (s_sl_2 hh)) ?_
    cases hf
    exact s_le.rf
  · rcases s_ite hf with ⟨-, hf⟩ | ⟨-, hf⟩
    · cases hf
      exact s_le.rf
    cases hf
theorem l_L_refunds_s {x : sL} {z : sZ Int32} (hs : S_L_refunds x = some z) : s_lz x.2.2 z := by
  obtain ⟨pc, vs, σ⟩ := x
  unfold S_L_refunds at hs
  dsimp only at hs ⊢
  rcases s_ite hs with ⟨c, hs⟩ | ⟨-, hs⟩
  · subst c
    unfold U_L_refunds_0 at hs
    obtain ⟨a0, g0, hs⟩ := s_bind hs
    obtain ⟨a1, g1, hs⟩ := s_bind hs
    obtain ⟨a2, g2, hs⟩ := s_bind hs
    obtain ⟨u9, ge, hs⟩ := s_bind hs
    exact l_L_refunds_0 hs
  cases hs
theorem l_L_refunds {v0 : Nat} {v1 : Int32} {v2 : Nat} {σ : sS} {q : Int32 × sS} (h : F_L_refunds v0 v1 v2 σ = some q) : s_le σ q.2 := by
  unfold F_L_refunds at h
  exact s_run_ind (V := fun x r => s_le x.2.2 r.2) (fun x z r hs hk => by
    have h9 := l_L_refunds_s hs
    cases z with
    | inl y => exact s_le.tr h9 hk
    | inr q => cases hk; exact h9) h
set_option maxRecDepth 100000 in
set_option maxHeartbeats 4000000 in
theorem v_L_refunds_0 {G : sG} {d : Nat} {vs0 : List Value} {σ0 : sS} {v0 : Nat} {v1 : Int32} {v2 : Nat} {σ : sS} {z : sZ Int32} {r : Int32 × sS} (hf : T_L_refunds_0 v0 v1 v2 σ = some z) (k : s_K G (d + 8) M_L_refunds vs0 σ0 Y_L_refunds e_I z r) : s_V G (d + 8) M_L_refunds vs0 σ0 Y_L_refunds (0, [.ref v0, .int v1, .ref v2], σ) (e_I r) := by
  have le0 : s_le σ (e_I r).2 := s_lek hem_I (l_L_refunds_0 hf) k
  refine ⟨le0, ?_⟩
  intro p e s m below meth c H locs cells slots ls X I hn1 hn2 hl
  have hn : cells + σ0.2.1 ≤ σ.2.1 ∧ slots + σ0.2.2.1 ≤ σ.2.2.1 := ⟨hn1, hn2⟩
  have hl : lv_has ls 4 [(0, .ref v0), (1, .int v1), (2, .ref v2)] := hl
  have hx := X.1
  have hb : c.code = cL_refunds := X.2.1
  have hown : s.vm.findClass RL = some m.cls := X.2.2.2.2.2.1
  have hts := X.2.2.2.2.2.2.1
  refine W.eq (g2 := F0 m 0 ls []) rfl ?_
  unfold T_L_refunds_0 at hf
  obtain ⟨q1, h1, hf⟩ := s_bind hf
  refine lv_aload_n hx hb dL_refunds_0 rfl (lv_at hl 2 rfl) ?_
  refine lv_iconst (v := 0) hx hb dL_refunds_1 (by decide) ?_
  refine lv_aload_n hx hb dL_refunds_2 rfl (lv_at hl 0 rfl) ?_
  refine lv_iload_n hx hb dL_refunds_3 rfl (lv_at hl 1 rfl) ?_
  rcases s_sum_some hf with ⟨x2, hq2, hf⟩ | ⟨E3, hq2, hf⟩
  · have le3 : s_le q1.2 (e_I r).2 := by
      refine s_lek hem_I ?_ k
      obtain ⟨σ4, hh, hf⟩ := s_bind hf
      refine s_lz.tr (s_le2 (s_sl_2 hh)) ?_
      cases hf
      exact s_le.rf
    refine r_callV (Y := M_X7_refunds) (v := some (.int x2)) X I w_1655 my_X7_refunds (by omega) (t_X7_refunds (G := G) (d := d + 0) h1) (b_X7_refunds h1) (e_IX_l hq2) rfl hl.1 rfl (Nat.le_of_ble_eq_true rfl) hn le3 dL_refunds_4 (fun H locs cells slots I hn1 hn2 => ?_)
    have I : s_I G q1.2 s H locs := I
    have hn : cells + σ0.2.1 ≤ q1.2.2.1 ∧ slots + σ0.2.2.1 ≤ q1.2.2.2.1 := ⟨hn1, hn2⟩
    obtain ⟨σ4, h4, hf⟩ := s_bind hf
    cases hf
    have k : _ = r := k
    subst k
    have le5 : s_le σ4 σ4 := s_le.rf
    refine lv_i2l hx hb dL_refunds_7 rfl ?_
    refine r_last X I h4 dL_refunds_8 (fun H locs I => ?_)
    have hn := s_k2 (s_sl_2 h4) hn
    refine lv_goto (tgt := 15) hx hb dL_refunds_9 (by decide) ?_
    refine lv_iconst (v := 0) hx hb dL_refunds_15 (by decide) ?_
    exact r_iret X I rfl rfl rfl hn dL_refunds_16
  · rcases s_ite hf with ⟨c6, hf⟩ | ⟨c6, hf⟩
    · subst c6
      have le7 : s_le q1.2 (e_I r).2 := by
        refine s_lek hem_I ?_ k
        cases hf
        exact s_le.rf
      refine r_callVh (x := (0, 9, 12, 13)) (Y := M_X7_refunds) (E := "java/lang/IllegalArgumentException") (name := "java/lang/IllegalArgumentException") X I [] [] rfl (fun z hz => by cases hz) rfl (by decide) w_691 (by decide +kernel) w_1655 my_X7_refunds (by omega) (t_X7_refunds (G := G) (d := d + 0) h1) (b_X7_refunds h1) (e_IX_r hq2) rfl hl.1 rfl (Nat.le_of_ble_eq_true rfl) hn le7 dL_refunds_4 (fun a5 H locs cells slots I hn1 hn2 => ?_)
      have I : s_I G q1.2 s H locs := I
      have hn : cells + σ0.2.1 ≤ q1.2.2.1 ∧ slots + σ0.2.2.1 ≤ q1.2.2.2.1 := ⟨hn1, hn2⟩
      cases hf
      have k : _ = r := k
      subst k
      refine lv_astore_n (lv' := [(3, .ref a5), (0, .ref v0), (1, .int v1), (2, .ref v2)]) hx hb dL_refunds_12 rfl hl (by decide) rfl (fun ls hl => ?_)
      refine lv_iconst (v := 1) hx hb dL_refunds_13 (by decide) ?_
      exact r_iret X I rfl rfl rfl hn dL_refunds_14
    cases hf
theorem v_L_refunds {G : sG} {d : Nat} {vs0 : List Value} {σ0 : sS} {x : sL} {z : sZ Int32} {r : Int32 × sS} (hs : S_L_refunds x = some z) (k : s_K G (d + 8) M_L_refunds vs0 σ0 Y_L_refunds e_I z r) : s_V G (d + 8) M_L_refunds vs0 σ0 Y_L_refunds x (e_I r) := by
  obtain ⟨pc, vs, σ⟩ := x
  unfold S_L_refunds at hs
  dsimp only at hs
  rcases s_ite hs with ⟨c, hs⟩ | ⟨-, hs⟩
  · subst c
    unfold U_L_refunds_0 at hs
    obtain ⟨a0, g0, hs⟩ := s_bind hs
    obtain ⟨a1, g1, hs⟩ := s_bind hs
    obtain ⟨a2, g2, hs⟩ := s_bind hs
    obtain ⟨u9, ge, hs⟩ := s_bind hs
    rw [g_r_to g0, g_i_to g1, g_r_to g2, g_e_to ge]
    exact v_L_refunds_0 hs k
  cases hs
theorem t_L_refunds {G : sG} {d : Nat} {v0 : Nat} {v1 : Int32} {v2 : Nat} {σ : sS} {q : Int32 × sS} (h : F_L_refunds v0 v1 v2 σ = some q) : s_T G (d + 8) M_L_refunds [.ref v0, .int v1, .ref v2] σ (e_I q) := by
  unfold F_L_refunds at h
  exact s_ofVH rfl (by decide) (Nat.le_of_ble_eq_true rfl) rfl rfl (s_run_ind (V := fun x r => s_V G (d + 8) M_L_refunds [.ref v0, .int v1, .ref v2] σ Y_L_refunds x (e_I r)) (fun x z r hs hk => v_L_refunds hs (by cases z <;> exact hk)) h)
/-! X8_refunds -/
noncomputable def T_X8_refunds_0 (v0 : Nat) (v1 : Int32) (σ : sS) : Option (sZ Int32) :=
  (s_pf σ v0 8 0 (.int 0)).bind fun σ1 =>
  (F_X8_in v1 0 31 σ1).bind fun q2 =>
  if q2.1 = 0 then (some (.inl (21, [.ref v0, .int v1, .int 1, .ref v0], q2.2)))
  else (some (.inl (21, [.ref v0, .int v1, .int 0, .ref v0], q2.2)))
noncomputable def U_X8_refunds_0 (vs : List Value) (σ : sS) : Option (sZ Int32) := (g_r vs).bind fun a0 => (g_i a0.2).bind fun a1 => (g_e a1.2).bind fun _ => T_X8_refunds_0 a0.1 a1.1 σ
noncomputable def T_X8_refunds_21 (v0 : Nat) (v1 : Int32) (w0 : Int32) (w1 : Nat) (σ : sS) : Option (sZ Int32) :=
  (F_X8_throwsIf w1 w0 1 σ).bind fun q1 =>
  if q1.1 = 0 then ((F_X8_goesThrough v0 q1.2).bind fun q2 =>
  some (.inl (38, [.ref v0, .int v1, .int 0, .int 0], q2.2)))
  else (some (.inr (0, q1.2)))
noncomputable def U_X8_refunds_21 (vs : List Value) (σ : sS) : Option (sZ Int32) := (g_r vs).bind fun a0 => (g_i a0.2).bind fun a1 => (g_i a1.2).bind fun a2 => (g_r a2.2).bind fun a3 => (g_e a3.2).bind fun _ => T_X8_refunds_21 a0.1 a1.1 a2.1 a3.1 σ
noncomputable def T_X8_refunds_38 (v0 : Nat) (v1 : Int32) (v2 : Int32) (v3 : Int32) (σ : sS) : Option (sZ Int32) :=
  (F_X8_receipts v0 σ).bind fun q1 =>
  if q1.1 ≤ v3 then (some (.inr (v2, q1.2)))
  else ((F_X8_isBack v0 v3 v1 q1.2).bind fun q2 =>
  if q2.1 = 0 then (some (.inl (63, [.ref v0, .int v1, .int v3, .int 0, .int v2], q2.2)))
  else (some (.inl (63, [.ref v0, .int v1, .int v3, .int (1 <<< (v3 &&& 31)), .int v2], q2.2))))
noncomputable def U_X8_refunds_38 (vs : List Value) (σ : sS) : Option (sZ Int32) := (g_r vs).bind fun a0 => (g_i a0.2).bind fun a1 => (g_i a1.2).bind fun a2 => (g_i a2.2).bind fun a3 => (g_e a3.2).bind fun _ => T_X8_refunds_38 a0.1 a1.1 a2.1 a3.1 σ
noncomputable def T_X8_refunds_63 (v0 : Nat) (v1 : Int32) (v3 : Int32) (w0 : Int32) (w1 : Int32) (σ : sS) : Option (sZ Int32) :=
  some (.inl (38, [.ref v0, .int v1, .int (w1 ||| w0), .int (v3 + 1)], σ))
noncomputable def U_X8_refunds_63 (vs : List Value) (σ : sS) : Option (sZ Int32) := (g_r vs).bind fun a0 => (g_i a0.2).bind fun a1 => (g_i a1.2).bind fun a2 => (g_i a2.2).bind fun a3 => (g_i a3.2).bind fun a4 => (g_e a4.2).bind fun _ => T_X8_refunds_63 a0.1 a1.1 a2.1 a3.1 a4.1 σ
noncomputable def S_X8_refunds (x : sL) : Option (sZ Int32) := if x.1 = 0 then U_X8_refunds_0 x.2.1 x.2.2 else if x.1 = 21 then U_X8_refunds_21 x.2.1 x.2.2 else if x.1 = 38 then U_X8_refunds_38 x.2.1 x.2.2 else if x.1 = 63 then U_X8_refunds_63 x.2.1 x.2.2 else none
def Y_X8_refunds (pc : Nat) : List Nat := if pc = 0 then [0, 1] else if pc = 21 then [0, 1] else if pc = 38 then [0, 1, 2, 3] else if pc = 63 then [0, 1, 3] else []
noncomputable def F_X8_refunds (v0 : Nat) (v1 : Int32) (σ : sS) : Option (Int32 × sS) := (s_is σ v0 8).bind fun _ => s_run S_X8_refunds (0, [.ref v0, .int v1], σ)
theorem l_X8_refunds_0 {v0 : Nat} {v1 : Int32} {σ : sS} {z : sZ Int32} (hf : T_X8_refunds_0 v0 v1 σ = some z) : s_lz σ z := by
  unfold T_X8_refunds_0 at hf
  obtain ⟨σ1, hh, hf⟩ := s_bind hf
  refine s_lz.tr (s_le2 (s_pf_2 hh)) ?_
  obtain ⟨q2, hh, hf⟩ := s_bind hf
  refine s_lz.tr (l_X8_in hh) ?_
  rcases s_ite hf with ⟨-, hf⟩ | ⟨-, hf⟩
  · cases hf
    exact s_le.rf
  · cases hf
    exact s_le.rf
theorem l_X8_refunds_21 {v0 : Nat} {v1 : Int32} {w0 : Int32} {w1 : Nat} {σ : sS} {z : sZ Int32} (hf : T_X8_refunds_21 v0 v1 w0 w1 σ = some z) : s_lz σ z := by
  unfold T_X8_refunds_21 at hf
  obtain ⟨q1, hh, hf⟩ := s_bind hf
  refine s_lz.tr (l_X8_throwsIf hh) ?_
  rcases s_ite hf with ⟨-, hf⟩ | ⟨-, hf⟩
  · obtain ⟨q2, hh, hf⟩ := s_bind hf
    refine s_lz.tr (l_X8_goesThrough hh) ?_
    cases hf
    exact s_le.rf
  · cases hf
    exact s_le.rf
theorem l_X8_refunds_38 {v0 : Nat} {v1 : Int32} {v2 : Int32} {v3 : Int32} {σ : sS} {z : sZ Int32} (hf : T_X8_refunds_38 v0 v1 v2 v3 σ = some z) : s_lz σ z := by
  unfold T_X8_refunds_38 at hf
  obtain ⟨q1, hh, hf⟩ := s_bind hf
  refine s_lz.tr (l_X8_receipts hh) ?_
  rcases s_ite hf with ⟨-, hf⟩ | ⟨-, hf⟩
  · cases hf
    exact s_le.rf
  · obtain ⟨q2, hh, hf⟩ := s_bind hf
    refine s_lz.tr (l_X8_isBack hh) ?_
    rcases s_ite hf with ⟨-, hf⟩ | ⟨-, hf⟩
    · cases hf
      exact s_le.rf
    · cases hf
      exact s_le.rf
theorem l_X8_refunds_63 {v0 : Nat} {v1 : Int32} {v3 : Int32} {w0 : Int32} {w1 : Int32} {σ : sS} {z : sZ Int32} (hf : T_X8_refunds_63 v0 v1 v3 w0 w1 σ = some z) : s_lz σ z := by
  unfold T_X8_refunds_63 at hf
  cases hf
  exact s_le.rf
theorem l_X8_refunds_s {x : sL} {z : sZ Int32} (hs : S_X8_refunds x = some z) : s_lz x.2.2 z := by
  obtain ⟨pc, vs, σ⟩ := x
  unfold S_X8_refunds at hs
  dsimp only at hs ⊢
  rcases s_ite hs with ⟨c, hs⟩ | ⟨-, hs⟩
  · subst c
    unfold U_X8_refunds_0 at hs
    obtain ⟨a0, g0, hs⟩ := s_bind hs
    obtain ⟨a1, g1, hs⟩ := s_bind hs
    obtain ⟨u9, ge, hs⟩ := s_bind hs
    exact l_X8_refunds_0 hs
  rcases s_ite hs with ⟨c, hs⟩ | ⟨-, hs⟩
  · subst c
    unfold U_X8_refunds_21 at hs
    obtain ⟨a0, g0, hs⟩ := s_bind hs
    obtain ⟨a1, g1, hs⟩ := s_bind hs
    obtain ⟨a2, g2, hs⟩ := s_bind hs
    obtain ⟨a3, g3, hs⟩ := s_bind hs
    obtain ⟨u9, ge, hs⟩ := s_bind hs
    exact l_X8_refunds_21 hs
  rcases s_ite hs with ⟨c, hs⟩ | ⟨-, hs⟩
  · subst c
    unfold U_X8_refunds_38 at hs
    obtain ⟨a0, g0, hs⟩ := s_bind hs
    obtain ⟨a1, g1, hs⟩ := s_bind hs
    obtain ⟨a2, g2, hs⟩ := s_bind hs
    obtain ⟨a3, g3, hs⟩ := s_bind hs
    obtain ⟨u9, ge, hs⟩ := s_bind hs
    exact l_X8_refunds_38 hs
  rcases s_ite hs with ⟨c, hs⟩ | ⟨-, hs⟩
  · subst c
    unfold U_X8_refunds_63 at hs
    obtain ⟨a0, g0, hs⟩ := s_bind hs
    obtain ⟨a1, g1, hs⟩ := s_bind hs
    obtain ⟨a2, g2, hs⟩ := s_bind hs
    obtain ⟨a3, g3, hs⟩ := s_bind hs
    obtain ⟨a4, g4, hs⟩ := s_bind hs
    obtain ⟨u9, ge, hs⟩ := s_bind hs
    exact l_X8_refunds_63 hs
  cases hs
theorem l_X8_refunds {v0 : Nat} {v1 : Int32} {σ : sS} {q : Int32 × sS} (h : F_X8_refunds v0 v1 σ = some q) : s_le σ q.2 := by
  unfold F_X8_refunds at h
  obtain ⟨-, -, h⟩ := s_bind h
  exact s_run_ind (V := fun x r => s_le x.2.2 r.2) (fun x z r hs hk => by
    have h9 := l_X8_refunds_s hs
    cases z with
    | inl y => exact s_le.tr h9 hk
    | inr q => cases hk; exact h9) h
theorem b_X8_refunds {v0 : Nat} {v1 : Int32} {σ : sS} {q : Int32 × sS} (h : F_X8_refunds v0 v1 σ = some q) : ∃ fs, σ.1 v0 = some (.inr (8, fs)) := by
  unfold F_X8_refunds at h
  obtain ⟨u, hu, -⟩ := s_bind h
  exact s_is_to hu
set_option maxRecDepth 100000 in
set_option maxHeartbeats 4000000 in
theorem v_X8_refunds_0 {G : sG} {d : Nat} {vs0 : List Value} {σ0 : sS} {v0 : Nat} {v1 : Int32} {σ : sS} {z : sZ Int32} {r : Int32 × sS} (hf : T_X8_refunds_0 v0 v1 σ = some z) (k : s_K G (d + 8) M_X8_refunds vs0 σ0 Y_X8_refunds e_I z r) : s_V G (d + 8) M_X8_refunds vs0 σ0 Y_X8_refunds (0, [.ref v0, .int v1], σ) (e_I r) := by
  have le0 : s_le σ (e_I r).2 := s_lek hem_I (l_X8_refunds_0 hf) k
  refine ⟨le0, ?_⟩
  intro p e s m below meth c H locs cells slots ls X I hn1 hn2 hl
  have hn : cells + σ0.2.1 ≤ σ.2.1 ∧ slots + σ0.2.2.1 ≤ σ.2.2.1 := ⟨hn1, hn2⟩
  have hl : lv_has ls 4 [(0, .ref v0), (1, .int v1)] := hl
  have hx := X.1
  have hb : c.code = cX8_refunds := X.2.1
  have hown : s.vm.findClass RX8 = some m.cls := X.2.2.2.2.2.1
  have hts := X.2.2.2.2.2.2.1
  refine W.eq (g2 := F0 m 0 ls []) rfl ?_
  unfold T_X8_refunds_0 at hf
  obtain ⟨σ1, h1, hf⟩ := s_bind hf
  obtain ⟨q2, h2, hf⟩ := s_bind hf
  have le3 : s_le q2.2 (e_I r).2 := by
    refine s_lek hem_I ?_ k
    rcases s_ite hf with ⟨-, hf⟩ | ⟨-, hf⟩
    · cases hf
      exact s_le.rf
    · cases hf
      exact s_le.rf
  have le4 := s_le.tr (l_X8_in h2) le3
  refine lv_aload_n hx hb dX8_refunds_0 rfl (lv_at hl 0 rfl) ?_
  refine lv_iconst (v := 0) hx hb dX8_refunds_1 (by decide) ?_
  refine r_put X I fp_X8_3 (fun h => by cases h) h1 rfl rfl dX8_refunds_2 (fun H locs I => ?_)
  have hn := s_k2 (s_pf_2 h1) hn
  refine lv_aload_n hx hb dX8_refunds_5 rfl (lv_at hl 0 rfl) ?_
  refine lv_iload_n hx hb dX8_refunds_6 rfl (lv_at hl 1 rfl) ?_
  refine lv_iconst (v := 0) hx hb dX8_refunds_7 (by decide) ?_
  refine lv_bipush (v := 31) hx hb dX8_refunds_8 (by decide) ?_
  refine r_callS (Y := M_X8_in) (v := some (.int q2.1)) X I w_1909 my_X8_in (by omega) (t_X8_in (G := G) (d := d + 6) h2) rfl rfl hl.1 rfl (Nat.le_of_ble_eq_true rfl) hn le3 dX8_refunds_10 (fun H locs cells slots I hn1 hn2 => ?_)
  have I : s_I G q2.2 s H locs := I
  have hn : cells + σ0.2.1 ≤ q2.2.2.1 ∧ slots + σ0.2.2.1 ≤ q2.2.2.2.1 := ⟨hn1, hn2⟩
  rcases s_ite hf with ⟨c5, hf⟩ | ⟨c5, hf⟩
  · refine lv_if_ne (tgt := 20) hx hb dX8_refunds_13 (by decide) (fun n => absurd c5 n) (fun _ => ?_)
    cases hf
    have k : s_V G (d + 8) M_X8_refunds vs0 σ0 Y_X8_refunds (21, [.ref v0, .int v1, .int 1, .ref v0], q2.2) (e_I r) := k
    refine lv_iconst (v := 1) hx hb dX8_refunds_16 (by decide) ?_
    refine lv_goto (tgt := 21) hx hb dX8_refunds_17 (by decide) ?_
    exact k.2 p e s m below meth c _ _ _ _ _ X I hn.1 hn.2 (lv_sub hl [0, 1] rfl)
  · refine lv_if_ne (tgt := 20) hx hb dX8_refunds_13 (by decide) (fun _ => ?_) (fun n => absurd n c5)
    cases hf
    have k : s_V G (d + 8) M_X8_refunds vs0 σ0 Y_X8_refunds (21, [.ref v0, .int v1, .int 0, .ref v0], q2.2) (e_I r) := k
    refine lv_iconst (v := 0) hx hb dX8_refunds_20 (by decide) ?_
    exact k.2 p e s m below meth c _ _ _ _ _ X I hn.1 hn.2 (lv_sub hl [0, 1] rfl)
set_option maxRecDepth 100000 in
set_option maxHeartbeats 4000000 in
theorem v_X8_refunds_21 {G : sG} {d : Nat} {vs0 : List Value} {σ0 : sS} {v0 : Nat} {v1 : Int32} {w0 : Int32} {w1 : Nat} {σ : sS} {z : sZ Int32} {r : Int32 × sS} (hf : T_X8_refunds_21 v0 v1 w0 w1 σ = some z) (k : s_K G (d + 8) M_X8_refunds vs0 σ0 Y_X8_refunds e_I z r) : s_V G (d + 8) M_X8_refunds vs0 σ0 Y_X8_refunds (21, [.ref v0, .int v1, .int w0, .ref w1], σ) (e_I r) := by
  have le0 : s_le σ (e_I r).2 := s_lek hem_I (l_X8_refunds_21 hf) k
  refine ⟨le0, ?_⟩
  intro p e s m below meth c H locs cells slots ls X I hn1 hn2 hl
  have hn : cells + σ0.2.1 ≤ σ.2.1 ∧ slots + σ0.2.2.1 ≤ σ.2.2.1 := ⟨hn1, hn2⟩
  have hl : lv_has ls 4 [(0, .ref v0), (1, .int v1)] := hl
  have hx := X.1
  have hb : c.code = cX8_refunds := X.2.1
  have hown : s.vm.findClass RX8 = some m.cls := X.2.2.2.2.2.1
  have hts := X.2.2.2.2.2.2.1
  refine W.eq (g2 := F0 m 21 ls [.int w0, .ref w1]) rfl ?_
  unfold T_X8_refunds_21 at hf
  obtain ⟨q1, h1, hf⟩ := s_bind hf
  have le2 : s_le q1.2 (e_I r).2 := by
    refine s_lek hem_I ?_ k
    rcases s_ite hf with ⟨-, hf⟩ | ⟨-, hf⟩
    · obtain ⟨q2, hh, hf⟩ := s_bind hf
      refine s_lz.tr (l_X8_goesThrough hh) ?_
      cases hf
      exact s_le.rf
    · cases hf
      exact s_le.rf
  refine lv_iconst (v := 1) hx hb dX8_refunds_21 (by decide) ?_
  refine r_callV (Y := M_X8_throwsIf) (v := some (.int q1.1)) X I w_1897 my_X8_throwsIf (by omega) (t_X8_throwsIf (G := G) (d := d + 6) h1) (b_X8_throwsIf h1) rfl rfl hl.1 rfl (Nat.le_of_ble_eq_true rfl) hn le2 dX8_refunds_22 (fun H locs cells slots I hn1 hn2 => ?_)
  have I : s_I G q1.2 s H locs := I
  have hn : cells + σ0.2.1 ≤ q1.2.2.1 ∧ slots + σ0.2.2.1 ≤ q1.2.2.2.1 := ⟨hn1, hn2⟩
  rcases s_ite hf with ⟨c3, hf⟩ | ⟨c3, hf⟩
  · refine lv_if_eq (tgt := 30) hx hb dX8_refunds_25 (by decide) (fun _ => ?_) (fun n => absurd c3 n)
    obtain ⟨q2, h4, hf⟩ := s_bind hf
    cases hf
    have k : s_V G (d + 8) M_X8_refunds vs0 σ0 Y_X8_refunds (38, [.ref v0, .int v1, .int 0, .int 0], q2.2) (e_I r) := k
    have le5 : s_le q2.2 (e_I r).2 := k.1
    refine lv_aload_n hx hb dX8_refunds_30 rfl (lv_at hl 0 rfl) ?_
    refine r_callV (Y := M_X8_goesThrough) (v := none) X I w_2027 my_X8_goesThrough (by omega) (t_X8_goesThrough (G := G) (d := d + 0) h4) (b_X8_goesThrough h4) rfl rfl hl.1 rfl (Nat.le_of_ble_eq_true rfl) hn le5 dX8_refunds_31 (fun H locs cells slots I hn1 hn2 => ?_)
    have I : s_I G q2.2 s H locs := I
    have hn : cells + σ0.2.1 ≤ q2.2.2.1 ∧ slots + σ0.2.2.1 ≤ q2.2.2.2.1 := ⟨hn1, hn2⟩
    refine lv_iconst (v := 0) hx hb dX8_refunds_34 (by decide) ?_
    refine lv_istore_n (lv' := [(2, .int 0), (0, .ref v0), (1, .int v1)]) hx hb dX8_refunds_35 rfl hl (by decide) rfl (fun ls hl => ?_)
    refine lv_iconst (v := 0) hx hb dX8_refunds_36 (by decide) ?_
    refine lv_istore_n (lv' := [(3, .int 0), (2, .int 0), (0, .ref v0), (1, .int v1)]) hx hb dX8_refunds_37 rfl hl (by decide) rfl (fun ls hl => ?_)
    exact k.2 p e s m below meth c _ _ _ _ _ X I hn.1 hn.2 (lv_sub hl [2, 3, 1, 0] rfl)
  · refine lv_if_eq (tgt := 30) hx hb dX8_refunds_25 (by decide) (fun n => absurd n c3) (fun _ => ?_)
    cases hf
    have k : _ = r := k
    subst k
    refine lv_iconst (v := 0) hx hb dX8_refunds_28 (by decide) ?_
    exact r_iret X I rfl rfl rfl hn dX8_refunds_29
set_option maxRecDepth 100000 in
set_option maxHeartbeats 4000000 in
theorem v_X8_refunds_38 {G : sG} {d : Nat} {vs0 : List Value} {σ0 : sS} {v0 : Nat} {v1 : Int32} {v2 : Int32} {v3 : Int32} {σ : sS} {z : sZ Int32} {r : Int32 × sS} (hf : T_X8_refunds_38 v0 v1 v2 v3 σ = some z) (k : s_K G (d + 8) M_X8_refunds vs0 σ0 Y_X8_refunds e_I z r) : s_V G (d + 8) M_X8_refunds vs0 σ0 Y_X8_refunds (38, [.ref v0, .int v1, .int v2, .int v3], σ) (e_I r) := by
  have le0 : s_le σ (e_I r).2 := s_lek hem_I (l_X8_refunds_38 hf) k
  refine ⟨le0, ?_⟩
  intro p e s m below meth c H locs cells slots ls X I hn1 hn2 hl
  have hn : cells + σ0.2.1 ≤ σ.2.1 ∧ slots + σ0.2.2.1 ≤ σ.2.2.1 := ⟨hn1, hn2⟩
  have hl : lv_has ls 4 [(0, .ref v0), (1, .int v1), (2, .int v2), (3, .int v3)] := hl
  have hx := X.1
  have hb : c.code = cX8_refunds := X.2.1
  have hown : s.vm.findClass RX8 = some m.cls := X.2.2.2.2.2.1
  have hts := X.2.2.2.2.2.2.1
  refine W.eq (g2 := F0 m 38 ls []) rfl ?_
  unfold T_X8_refunds_38 at hf
  obtain ⟨q1, h1, hf⟩ := s_bind hf
  have le2 : s_le q1.2 (e_I r).2 := by
    refine s_lek hem_I ?_ k
    rcases s_ite hf with ⟨-, hf⟩ | ⟨-, hf⟩
    · cases hf
      exact s_le.rf
    · obtain ⟨q2, hh, hf⟩ := s_bind hf
      refine s_lz.tr (l_X8_isBack hh) ?_
      rcases s_ite hf with ⟨-, hf⟩ | ⟨-, hf⟩
      · cases hf
        exact s_le.rf
      · cases hf
        exact s_le.rf
  refine lv_iload_n hx hb dX8_refunds_38 rfl (lv_at hl 3 rfl) ?_
  refine lv_aload_n hx hb dX8_refunds_39 rfl (lv_at hl 0 rfl) ?_
  refine r_callV (Y := M_X8_receipts) (v := some (.int q1.1)) X I w_2295 my_X8_receipts (by omega) (t_X8_receipts (G := G) (d := d + 6) h1) (b_X8_receipts h1) rfl rfl hl.1 rfl (Nat.le_of_ble_eq_true rfl) hn le2 dX8_refunds_40 (fun H locs cells slots I hn1 hn2 => ?_)
  have I : s_I G q1.2 s H locs := I
  have hn : cells + σ0.2.1 ≤ q1.2.2.1 ∧ slots + σ0.2.2.1 ≤ q1.2.2.2.1 := ⟨hn1, hn2⟩
  rcases s_ite hf with ⟨c3, hf⟩ | ⟨c3, hf⟩
  · refine lv_icmp_ge (tgt := 71) hx hb dX8_refunds_43 (by decide) (fun _ => ?_) (fun n => absurd c3 n)
    cases hf
    have k : _ = r := k
    subst k
    refine lv_iload_n hx hb dX8_refunds_71 rfl (lv_at hl 2 rfl) ?_
    exact r_iret X I rfl rfl rfl hn dX8_refunds_72
  · refine lv_icmp_ge (tgt := 71) hx hb dX8_refunds_43 (by decide) (fun n => absurd n c3) (fun _ => ?_)
    obtain ⟨q2, h4, hf⟩ := s_bind hf
    have le5 : s_le q2.2 (e_I r).2 := by
      refine s_lek hem_I ?_ k
      rcases s_ite hf with ⟨-, hf⟩ | ⟨-, hf⟩
      · cases hf
        exact s_le.rf
      · cases hf
        exact s_le.rf
    refine lv_iload_n hx hb dX8_refunds_46 rfl (lv_at hl 2 rfl) ?_
    refine lv_aload_n hx hb dX8_refunds_47 rfl (lv_at hl 0 rfl) ?_
    refine lv_iload_n hx hb dX8_refunds_48 rfl (lv_at hl 3 rfl) ?_
    refine lv_iload_n hx hb dX8_refunds_49 rfl (lv_at hl 1 rfl) ?_
    refine r_callV (Y := M_X8_isBack) (v := some (.int q2.1)) X I w_2319 my_X8_isBack (by omega) (t_X8_isBack (G := G) (d := d + 0) h4) (b_X8_isBack h4) rfl rfl hl.1 rfl (Nat.le_of_ble_eq_true rfl) hn le5 dX8_refunds_50 (fun H locs cells slots I hn1 hn2 => ?_)
    have I : s_I G q2.2 s H locs := I
    have hn : cells + σ0.2.1 ≤ q2.2.2.1 ∧ slots + σ0.2.2.1 ≤ q2.2.2.2.1 := ⟨hn1, hn2⟩
    rcases s_ite hf with ⟨c6, hf⟩ | ⟨c6, hf⟩
    · refine lv_if_eq (tgt := 62) hx hb dX8_refunds_53 (by decide) (fun _ => ?_) (fun n => absurd c6 n)
      cases hf
      have k : s_V G (d + 8) M_X8_refunds vs0 σ0 Y_X8_refunds (63, [.ref v0, .int v1, .int v3, .int 0, .int v2], q2.2) (e_I r) := k
      refine lv_iconst (v := 0) hx hb dX8_refunds_62 (by decide) ?_
      exact k.2 p e s m below meth c _ _ _ _ _ X I hn.1 hn.2 (lv_sub hl [0, 1, 3] rfl)
    · refine lv_if_eq (tgt := 62) hx hb dX8_refunds_53 (by decide) (fun n => absurd n c6) (fun _ => ?_)
      cases hf
      have k : s_V G (d + 8) M_X8_refunds vs0 σ0 Y_X8_refunds (63, [.ref v0, .int v1, .int v3, .int (1 <<< (v3 &&& 31)), .int v2], q2.2) (e_I r) := k
      refine lv_iconst (v := 1) hx hb dX8_refunds_56 (by decide) ?_
      refine lv_iload_n hx hb dX8_refunds_57 rfl (lv_at hl 3 rfl) ?_
      refine lv_ishl hx hb dX8_refunds_58 ?_
      refine lv_goto (tgt := 63) hx hb dX8_refunds_59 (by decide) ?_
      exact k.2 p e s m below meth c _ _ _ _ _ X I hn.1 hn.2 (lv_sub hl [0, 1, 3] rfl)
set_option maxRecDepth 100000 in
set_option maxHeartbeats 4000000 in
theorem v_X8_refunds_63 {G : sG} {d : Nat} {vs0 : List Value} {σ0 : sS} {v0 : Nat} {v1 : Int32} {v3 : Int32} {w0 : Int32} {w1 : Int32} {σ : sS} {z : sZ Int32} {r : Int32 × sS} (hf : T_X8_refunds_63 v0 v1 v3 w0 w1 σ = some z) (k : s_K G (d + 8) M_X8_refunds vs0 σ0 Y_X8_refunds e_I z r) : s_V G (d + 8) M_X8_refunds vs0 σ0 Y_X8_refunds (63, [.ref v0, .int v1, .int v3, .int w0, .int w1], σ) (e_I r) := by
  have le0 : s_le σ (e_I r).2 := s_lek hem_I (l_X8_refunds_63 hf) k
  refine ⟨le0, ?_⟩
  intro p e s m below meth c H locs cells slots ls X I hn1 hn2 hl
  have hn : cells + σ0.2.1 ≤ σ.2.1 ∧ slots + σ0.2.2.1 ≤ σ.2.2.1 := ⟨hn1, hn2⟩
  have hl : lv_has ls 4 [(0, .ref v0), (1, .int v1), (3, .int v3)] := hl
  have hx := X.1
  have hb : c.code = cX8_refunds := X.2.1
  have hown : s.vm.findClass RX8 = some m.cls := X.2.2.2.2.2.1
  have hts := X.2.2.2.2.2.2.1
  refine W.eq (g2 := F0 m 63 ls [.int w0, .int w1]) rfl ?_
  unfold T_X8_refunds_63 at hf
  cases hf
  have k : s_V G (d + 8) M_X8_refunds vs0 σ0 Y_X8_refunds (38, [.ref v0, .int v1, .int (w1 ||| w0), .int (v3 + 1)], σ) (e_I r) := k
  refine lv_ior hx hb dX8_refunds_63 ?_
  refine lv_istore_n (lv' := [(2, .int (w1 ||| w0)), (0, .ref v0), (1, .int v1), (3, .int v3)]) hx hb dX8_refunds_64 rfl hl (by decide) rfl (fun ls hl => ?_)
  refine lv_iinc (v := (v3 + 1)) (lv' := [(3, .int (v3 + 1)), (2, .int (w1 ||| w0)), (0, .ref v0), (1, .int v1)]) hx hb dX8_refunds_65 hl (k := 3) rfl rfl (by decide) rfl (fun ls hl => ?_)
  refine lv_goto (tgt := 38) hx hb dX8_refunds_68 (by decide) ?_
  exact k.2 p e s m below meth c _ _ _ _ _ X I hn.1 hn.2 (lv_sub hl [2, 3, 1, 0] rfl)
theorem v_X8_refunds {G : sG} {d : Nat} {vs0 : List Value} {σ0 : sS} {x : sL} {z : sZ Int32} {r : Int32 × sS} (hs : S_X8_refunds x = some z) (k : s_K G (d + 8) M_X8_refunds vs0 σ0 Y_X8_refunds e_I z r) : s_V G (d + 8) M_X8_refunds vs0 σ0 Y_X8_refunds x (e_I r) := by
  obtain ⟨pc, vs, σ⟩ := x
  unfold S_X8_refunds at hs
  dsimp only at hs
  rcases s_ite hs with ⟨c, hs⟩ | ⟨-, hs⟩
  · subst c
    unfold U_X8_refunds_0 at hs
    obtain ⟨a0, g0, hs⟩ := s_bind hs
    obtain ⟨a1, g1, hs⟩ := s_bind hs
    obtain ⟨u9, ge, hs⟩ := s_bind hs
    rw [g_r_to g0, g_i_to g1, g_e_to ge]
    exact v_X8_refunds_0 hs k
  rcases s_ite hs with ⟨c, hs⟩ | ⟨-, hs⟩
  · subst c
    unfold U_X8_refunds_21 at hs
    obtain ⟨a0, g0, hs⟩ := s_bind hs
    obtain ⟨a1, g1, hs⟩ := s_bind hs
    obtain ⟨a2, g2, hs⟩ := s_bind hs
    obtain ⟨a3, g3, hs⟩ := s_bind hs
    obtain ⟨u9, ge, hs⟩ := s_bind hs
    rw [g_r_to g0, g_i_to g1, g_i_to g2, g_r_to g3, g_e_to ge]
    exact v_X8_refunds_21 hs k
  rcases s_ite hs with ⟨c, hs⟩ | ⟨-, hs⟩
  · subst c
    unfold U_X8_refunds_38 at hs
    obtain ⟨a0, g0, hs⟩ := s_bind hs
    obtain ⟨a1, g1, hs⟩ := s_bind hs
    obtain ⟨a2, g2, hs⟩ := s_bind hs
    obtain ⟨a3, g3, hs⟩ := s_bind hs
    obtain ⟨u9, ge, hs⟩ := s_bind hs
    rw [g_r_to g0, g_i_to g1, g_i_to g2, g_i_to g3, g_e_to ge]
    exact v_X8_refunds_38 hs k
  rcases s_ite hs with ⟨c, hs⟩ | ⟨-, hs⟩
  · subst c
    unfold U_X8_refunds_63 at hs
    obtain ⟨a0, g0, hs⟩ := s_bind hs
    obtain ⟨a1, g1, hs⟩ := s_bind hs
    obtain ⟨a2, g2, hs⟩ := s_bind hs
    obtain ⟨a3, g3, hs⟩ := s_bind hs
    obtain ⟨a4, g4, hs⟩ := s_bind hs
    obtain ⟨u9, ge, hs⟩ := s_bind hs
    rw [g_r_to g0, g_i_to g1, g_i_to g2, g_i_to g3, g_i_to g4, g_e_to ge]
    exact v_X8_refunds_63 hs k
  cases hs
theorem t_X8_refunds {G : sG} {d : Nat} {v0 : Nat} {v1 : Int32} {σ : sS} {q : Int32 × sS} (h : F_X8_refunds v0 v1 σ = some q) : s_T G (d + 8) M_X8_refunds [.ref v0, .int v1] σ (e_I q) := by
  unfold F_X8_refunds at h
  obtain ⟨-, -, h⟩ := s_bind h
  exact s_ofV rfl (by decide) (Nat.le_of_ble_eq_true rfl) rfl rfl (s_run_ind (V := fun x r => s_V G (d + 8) M_X8_refunds [.ref v0, .int v1] σ Y_X8_refunds x (e_I r)) (fun x z r hs hk => v_X8_refunds hs (by cases z <;> exact hk)) h)
/-! X6_dearerOnes -/
noncomputable def T_X6_dearerOnes_0 (v0 : Nat) (σ : sS) : Option (sZ Int32) :=
  some (.inl (4, [.ref v0, .int 0, .int 0], σ))
noncomputable def U_X6_dearerOnes_0 (vs : List Value) (σ : sS) : Option (sZ Int32) := (g_r vs).bind fun a0 => (g_e a0.2).bind fun _ => T_X6_dearerOnes_0 a0.1 σ
noncomputable def T_X6_dearerOnes_4 (v0 : Nat) (v1 : Int32) (v2 : Int32) (σ : sS) : Option (sZ Int32) :=
  (s_fr σ v0 6 0).bind fun x1 =>
  (s_fi σ x1 1 9).bind fun x2 =>
  if x2 ≤ v2 then (some (.inr (v1, σ)))
  else ((s_fr σ v0 6 0).bind fun x3 =>
  (F_X1_ofReceipt x3 v2 0 σ).bind fun q4 =>
  (s_fr q4.2 v0 6 0).bind fun x5 =>
  (F_X1_ofLine x5 q4.1 2 q4.2).bind fun q6 =>
  if q6.1 = 15 then (some (.inl (44, [.ref v0, .int v1, .int v2, .int q4.1, .int 1], q6.2)))
  else (some (.inl (44, [.ref v0, .int v1, .int v2, .int q4.1, .int 0], q6.2))))
noncomputable def U_X6_dearerOnes_4 (vs : List Value) (σ : sS) : Option (sZ Int32) := (g_r vs).bind fun a0 => (g_i a0.2).bind fun a1 => (g_i a1.2).bind fun a2 => (g_e a2.2).bind fun _ => T_X6_dearerOnes_4 a0.1 a1.1 a2.1 σ
noncomputable def T_X6_dearerOnes_44 (v0 : Nat) (v1 : Int32) (v2 : Int32) (v3 : Int32) (w0 : Int32) (σ : sS) : Option (sZ Int32) :=
  if w0 = 0 then (some (.inl (77, [.ref v0, .int v1, .int v2], σ)))
  else ((s_fr σ v0 6 0).bind fun x1 =>
  (F_X1_ofReceipt x1 v2 2 σ).bind fun q2 =>
  (s_fr q2.2 v0 6 1).bind fun x3 =>
  (F_X0_costOfAll x3 v3 q2.2).bind fun q4 =>
  if q2.1 ≤ q4.1 then (some (.inl (77, [.ref v0, .int v1, .int v2], q4.2)))
  else (some (.inl (77, [.ref v0, .int (v1 ||| (1 <<< (v2 &&& 31))), .int v2], q4.2))))
noncomputable def U_X6_dearerOnes_44 (vs : List Value) (σ : sS) : Option (sZ Int32) := (g_r vs).bind fun a0 => (g_i a0.2).bind fun a1 => (g_i a1.2).bind fun a2 => (g_i a2.2).bind fun a3 => (g_i a3.2).bind fun a4 => (g_e a4.2).bind fun _ => T_X6_dearerOnes_44 a0.1 a1.1 a2.1 a3.1 a4.1 σ
noncomputable def T_X6_dearerOnes_77 (v0 : Nat) (v1 : Int32) (v2 : Int32) (σ : sS) : Option (sZ Int32) :=
  some (.inl (4, [.ref v0, .int v1, .int (v2 + 1)], σ))
noncomputable def U_X6_dearerOnes_77 (vs : List Value) (σ : sS) : Option (sZ Int32) := (g_r vs).bind fun a0 => (g_i a0.2).bind fun a1 => (g_i a1.2).bind fun a2 => (g_e a2.2).bind fun _ => T_X6_dearerOnes_77 a0.1 a1.1 a2.1 σ
noncomputable def S_X6_dearerOnes (x : sL) : Option (sZ Int32) := if x.1 = 0 then U_X6_dearerOnes_0 x.2.1 x.2.2 else if x.1 = 4 then U_X6_dearerOnes_4 x.2.1 x.2.2 else if x.1 = 44 then U_X6_dearerOnes_44 x.2.1 x.2.2 else if x.1 = 77 then U_X6_dearerOnes_77 x.2.1 x.2.2 else none
def Y_X6_dearerOnes (pc : Nat) : List Nat := if pc = 0 then [0] else if pc = 4 then [0, 1, 2] else if pc = 44 then [0, 1, 2, 3] else if pc = 77 then [0, 1, 2] else []
noncomputable def F_X6_dearerOnes (v0 : Nat) (σ : sS) : Option (Int32 × sS) := (s_is σ v0 6).bind fun _ => s_run S_X6_dearerOnes (0, [.ref v0], σ)
theorem l_X6_dearerOnes_0 {v0 : Nat} {σ : sS} {z : sZ Int32} (hf : T_X6_dearerOnes_0 v0 σ = some z) : s_lz σ z := by
  unfold T_X6_dearerOnes_0 at hf
  cases hf
  exact s_le.rf
theorem l_X6_dearerOnes_4 {v0 : Nat} {v1 : Int32} {v2 : Int32} {σ : sS} {z : sZ Int32} (hf : T_X6_dearerOnes_4 v0 v1 v2 σ = some z) : s_lz σ z := by
  unfold T_X6_dearerOnes_4 at hf
  obtain ⟨x1, -, hf⟩ := s_bind hf
  obtain ⟨x2, -, hf⟩ := s_bind hf
  rcases s_ite hf with ⟨-, hf⟩ | ⟨-, hf⟩
  · cases hf
    exact s_le.rf
  · obtain ⟨x3, -, hf⟩ := s_bind hf
    obtain ⟨q4, hh, hf⟩ := s_bind hf
    refine s_lz.tr (l_X1_ofReceipt hh) ?_
    obtain ⟨x5, -, hf⟩ := s_bind hf
    obtain ⟨q6, hh, hf⟩ := s_bind hf
    refine s_lz.tr (l_X1_ofLine hh) ?_
    rcases s_ite hf with ⟨-, hf⟩ | ⟨-, hf⟩
    · cases hf
      exact s_le.rf
    · cases hf
      exact s_le.rf
theorem l_X6_dearerOnes_44 {v0 : Nat} {v1 : Int32} {v2 : Int32} {v3 : Int32} {w0 : Int32} {σ : sS} {z : sZ Int32} (hf : T_X6_dearerOnes_44 v0 v1 v2 v3 w0 σ = some z) : s_lz σ z := by
  unfold T_X6_dearerOnes_44 at hf
  rcases s_ite hf with ⟨-, hf⟩ | ⟨-, hf⟩
  · cases hf
    exact s_le.rf
  · obtain ⟨x1, -, hf⟩ := s_bind hf
    obtain ⟨q2, hh, hf⟩ := s_bind hf
    refine s_lz.tr (l_X1_ofReceipt hh) ?_
    obtain ⟨x3, -, hf⟩ := s_bind hf
    obtain ⟨q4, hh, hf⟩ := s_bind hf
    refine s_lz.tr (l_X0_costOfAll hh) ?_
    rcases s_ite hf with ⟨-, hf⟩ | ⟨-, hf⟩
    · cases hf
      exact s_le.rf
    · cases hf
      exact s_le.rf
theorem l_X6_dearerOnes_77 {v0 : Nat} {v1 : Int32} {v2 : Int32} {σ : sS} {z : sZ Int32} (hf : T_X6_dearerOnes_77 v0 v1 v2 σ = some z) : s_lz σ z := by
  unfold T_X6_dearerOnes_77 at hf
  cases hf
  exact s_le.rf
theorem l_X6_dearerOnes_s {x : sL} {z : sZ Int32} (hs : S_X6_dearerOnes x = some z) : s_lz x.2.2 z := by
  obtain ⟨pc, vs, σ⟩ := x
  unfold S_X6_dearerOnes at hs
  dsimp only at hs ⊢
  rcases s_ite hs with ⟨c, hs⟩ | ⟨-, hs⟩
  · subst c
    unfold U_X6_dearerOnes_0 at hs
    obtain ⟨a0, g0, hs⟩ := s_bind hs
    obtain ⟨u9, ge, hs⟩ := s_bind hs
    exact l_X6_dearerOnes_0 hs
  rcases s_ite hs with ⟨c, hs⟩ | ⟨-, hs⟩
  · subst c
    unfold U_X6_dearerOnes_4 at hs
    obtain ⟨a0, g0, hs⟩ := s_bind hs
    obtain ⟨a1, g1, hs⟩ := s_bind hs
    obtain ⟨a2, g2, hs⟩ := s_bind hs
    obtain ⟨u9, ge, hs⟩ := s_bind hs
    exact l_X6_dearerOnes_4 hs
  rcases s_ite hs with ⟨c, hs⟩ | ⟨-, hs⟩
  · subst c
    unfold U_X6_dearerOnes_44 at hs
    obtain ⟨a0, g0, hs⟩ := s_bind hs
    obtain ⟨a1, g1, hs⟩ := s_bind hs
    obtain ⟨a2, g2, hs⟩ := s_bind hs
    obtain ⟨a3, g3, hs⟩ := s_bind hs
    obtain ⟨a4, g4, hs⟩ := s_bind hs
    obtain ⟨u9, ge, hs⟩ := s_bind hs
    exact l_X6_dearerOnes_44 hs
  rcases s_ite hs with ⟨c, hs⟩ | ⟨-, hs⟩
  · subst c
    unfold U_X6_dearerOnes_77 at hs
    obtain ⟨a0, g0, hs⟩ := s_bind hs
    obtain ⟨a1, g1, hs⟩ := s_bind hs
    obtain ⟨a2, g2, hs⟩ := s_bind hs
    obtain ⟨u9, ge, hs⟩ := s_bind hs
    exact l_X6_dearerOnes_77 hs
  cases hs
theorem l_X6_dearerOnes {v0 : Nat} {σ : sS} {q : Int32 × sS} (h : F_X6_dearerOnes v0 σ = some q) : s_le σ q.2 := by
  unfold F_X6_dearerOnes at h
  obtain ⟨-, -, h⟩ := s_bind h
  exact s_run_ind (V := fun x r => s_le x.2.2 r.2) (fun x z r hs hk => by
    have h9 := l_X6_dearerOnes_s hs
    cases z with
    | inl y => exact s_le.tr h9 hk
    | inr q => cases hk; exact h9) h
theorem b_X6_dearerOnes {v0 : Nat} {σ : sS} {q : Int32 × sS} (h : F_X6_dearerOnes v0 σ = some q) : ∃ fs, σ.1 v0 = some (.inr (6, fs)) := by
  unfold F_X6_dearerOnes at h
  obtain ⟨u, hu, -⟩ := s_bind h
  exact s_is_to hu
set_option maxRecDepth 100000 in
set_option maxHeartbeats 4000000 in
theorem v_X6_dearerOnes_0 {G : sG} {d : Nat} {vs0 : List Value} {σ0 : sS} {v0 : Nat} {σ : sS} {z : sZ Int32} {r : Int32 × sS} (hf : T_X6_dearerOnes_0 v0 σ = some z) (k : s_K G (d + 5) M_X6_dearerOnes vs0 σ0 Y_X6_dearerOnes e_I z r) : s_V G (d + 5) M_X6_dearerOnes vs0 σ0 Y_X6_dearerOnes (0, [.ref v0], σ) (e_I r) := by
  have le0 : s_le σ (e_I r).2 := s_lek hem_I (l_X6_dearerOnes_0 hf) k
  refine ⟨le0, ?_⟩
  intro p e s m below meth c H locs cells slots ls X I hn1 hn2 hl
  have hn : cells + σ0.2.1 ≤ σ.2.1 ∧ slots + σ0.2.2.1 ≤ σ.2.2.1 := ⟨hn1, hn2⟩
  have hl : lv_has ls 5 [(0, .ref v0)] := hl
  have hx := X.1
  have hb : c.code = cX6_dearerOnes := X.2.1
  have hown : s.vm.findClass RX6 = some m.cls := X.2.2.2.2.2.1
  have hts := X.2.2.2.2.2.2.1
  refine W.eq (g2 := F0 m 0 ls []) rfl ?_
  unfold T_X6_dearerOnes_0 at hf
  cases hf
  have k : s_V G (d + 5) M_X6_dearerOnes vs0 σ0 Y_X6_dearerOnes (4, [.ref v0, .int 0, .int 0], σ) (e_I r) := k
  refine lv_iconst (v := 0) hx hb dX6_dearerOnes_0 (by decide) ?_
  refine lv_istore_n (lv' := [(1, .int 0), (0, .ref v0)]) hx hb dX6_dearerOnes_1 rfl hl (by decide) rfl (fun ls hl => ?_)
  refine lv_iconst (v := 0) hx hb dX6_dearerOnes_2 (by decide) ?_
  refine lv_istore_n (lv' := [(2, .int 0), (1, .int 0), (0, .ref v0)]) hx hb dX6_dearerOnes_3 rfl hl (by decide) rfl (fun ls hl => ?_)
  exact k.2 p e s m below meth c _ _ _ _ _ X I hn.1 hn.2 (lv_sub hl [2, 1, 0] rfl)
set_option maxRecDepth 100000 in
set_option maxHeartbeats 4000000 in
theorem v_X6_dearerOnes_4 {G : sG} {d : Nat} {vs0 : List Value} {σ0 : sS} {v0 : Nat} {v1 : Int32} {v2 : Int32} {σ : sS} {z : sZ Int32} {r : Int32 × sS} (hf : T_X6_dearerOnes_4 v0 v1 v2 σ = some z) (k : s_K G (d + 5) M_X6_dearerOnes vs0 σ0 Y_X6_dearerOnes e_I z r) : s_V G (d + 5) M_X6_dearerOnes vs0 σ0 Y_X6_dearerOnes (4, [.ref v0, .int v1, .int v2], σ) (e_I r) := by
  have le0 : s_le σ (e_I r).2 := s_lek hem_I (l_X6_dearerOnes_4 hf) k
  refine ⟨le0, ?_⟩
  intro p e s m below meth c H locs cells slots ls X I hn1 hn2 hl
  have hn : cells + σ0.2.1 ≤ σ.2.1 ∧ slots + σ0.2.2.1 ≤ σ.2.2.1 := ⟨hn1, hn2⟩
  have hl : lv_has ls 5 [(0, .ref v0), (1, .int v1), (2, .int v2)] := hl
  have hx := X.1
  have hb : c.code = cX6_dearerOnes := X.2.1
  have hown : s.vm.findClass RX6 = some m.cls := X.2.2.2.2.2.1
  have hts := X.2.2.2.2.2.2.1
  refine W.eq (g2 := F0 m 4 ls []) rfl ?_
  unfold T_X6_dearerOnes_4 at hf
  obtain ⟨x1, h1, hf⟩ := s_bind hf
  obtain ⟨x2, h2, hf⟩ := s_bind hf
  refine lv_iload_n hx hb dX6_dearerOnes_4 rfl (lv_at hl 2 rfl) ?_
  refine lv_aload_n hx hb dX6_dearerOnes_5 rfl (lv_at hl 0 rfl) ?_
  refine r_gr X I fl_X6_9 h1 dX6_dearerOnes_6 ?_
  refine r_gi X I fl_X6_19 h2 dX6_dearerOnes_9 ?_
  rcases s_ite hf with ⟨c3, hf⟩ | ⟨c3, hf⟩
  · refine lv_icmp_ge (tgt := 83) hx hb dX6_dearerOnes_12 (by decide) (fun _ => ?_) (fun n => absurd c3 n)
    cases hf
    have k : _ = r := k
    subst k
    refine lv_iload_n hx hb dX6_dearerOnes_83 rfl (lv_at hl 1 rfl) ?_
    exact r_iret X I rfl rfl rfl hn dX6_dearerOnes_84
  · refine lv_icmp_ge (tgt := 83) hx hb dX6_dearerOnes_12 (by decide) (fun n => absurd n c3) (fun _ => ?_)
    obtain ⟨x3, h4, hf⟩ := s_bind hf
    obtain ⟨q4, h5, hf⟩ := s_bind hf
    obtain ⟨x5, h6, hf⟩ := s_bind hf
    obtain ⟨q6, h7, hf⟩ := s_bind hf
    have le8 : s_le q6.2 (e_I r).2 := by
      refine s_lek hem_I ?_ k
      rcases s_ite hf with ⟨-, hf⟩ | ⟨-, hf⟩
      · cases hf
        exact s_le.rf
      · cases hf
        exact s_le.rf
    have le9 := s_le.tr (l_X1_ofLine h7) le8
    refine lv_aload_n hx hb dX6_dearerOnes_15 rfl (lv_at hl 0 rfl) ?_
    refine r_gr X I fl_X6_9 h4 dX6_dearerOnes_16 ?_
    refine lv_iload_n hx hb dX6_dearerOnes_19 rfl (lv_at hl 2 rfl) ?_
    refine lv_iconst (v := 0) hx hb dX6_dearerOnes_20 (by decide) ?_
    refine r_callV (Y := M_X1_ofReceipt) (v := some (.int q4.1)) X I w_620 my_X1_ofReceipt (by omega) (t_X1_ofReceipt (G := G) (d := d + 3) h5) (b_X1_ofReceipt h5) rfl rfl hl.1 rfl (Nat.le_of_ble_eq_true rfl) hn le9 dX6_dearerOnes_21 (fun H locs cells slots I hn1 hn2 => ?_)
    have I : s_I G q4.2 s H locs := I
    have hn : cells + σ0.2.1 ≤ q4.2.2.1 ∧ slots + σ0.2.2.1 ≤ q4.2.2.2.1 := ⟨hn1, hn2⟩
    refine lv_istore_n (lv' := [(3, .int q4.1), (0, .ref v0), (1, .int v1), (2, .int v2)]) hx hb dX6_dearerOnes_24 rfl hl (by decide) rfl (fun ls hl => ?_)
    refine lv_aload_n hx hb dX6_dearerOnes_25 rfl (lv_at hl 1 rfl) ?_
    refine r_gr X I fl_X6_9 h6 dX6_dearerOnes_26 ?_
    refine lv_iload_n hx hb dX6_dearerOnes_29 rfl (lv_at hl 0 rfl) ?_
    refine lv_iconst (v := 2) hx hb dX6_dearerOnes_30 (by decide) ?_
    refine r_callV (Y := M_X1_ofLine) (v := some (.int q6.1)) X I w_624 my_X1_ofLine (by omega) (t_X1_ofLine (G := G) (d := d + 3) h7) (b_X1_ofLine h7) rfl rfl hl.1 rfl (Nat.le_of_ble_eq_true rfl) hn le8 dX6_dearerOnes_31 (fun H locs cells slots I hn1 hn2 => ?_)
    have I : s_I G q6.2 s H locs := I
    have hn : cells + σ0.2.1 ≤ q6.2.2.1 ∧ slots + σ0.2.2.1 ≤ q6.2.2.2.1 := ⟨hn1, hn2⟩
    refine lv_bipush (v := 15) hx hb dX6_dearerOnes_34 (by decide) ?_
    rcases s_ite hf with ⟨c10, hf⟩ | ⟨c10, hf⟩
    · refine lv_icmp_ne (tgt := 43) hx hb dX6_dearerOnes_36 (by decide) (fun n => absurd c10 n) (fun _ => ?_)
      cases hf
      have k : s_V G (d + 5) M_X6_dearerOnes vs0 σ0 Y_X6_dearerOnes (44, [.ref v0, .int v1, .int v2, .int q4.1, .int 1], q6.2) (e_I r) := k
      refine lv_iconst (v := 1) hx hb dX6_dearerOnes_39 (by decide) ?_
      refine lv_goto (tgt := 44) hx hb dX6_dearerOnes_40 (by decide) ?_
      exact k.2 p e s m below meth c _ _ _ _ _ X I hn.1 hn.2 (lv_sub hl [1, 2, 3, 0] rfl)
    · refine lv_icmp_ne (tgt := 43) hx hb dX6_dearerOnes_36 (by decide) (fun _ => ?_) (fun n => absurd n c10)
      cases hf
      have k : s_V G (d + 5) M_X6_dearerOnes vs0 σ0 Y_X6_dearerOnes (44, [.ref v0, .int v1, .int v2, .int q4.1, .int 0], q6.2) (e_I r) := k
      refine lv_iconst (v := 0) hx hb dX6_dearerOnes_43 (by decide) ?_
      exact k.2 p e s m below meth c _ _ _ _ _ X I hn.1 hn.2 (lv_sub hl [1, 2, 3, 0] rfl)
set_option maxRecDepth 100000 in
set_option maxHeartbeats 4000000 in
theorem v_X6_dearerOnes_44 {G : sG} {d : Nat} {vs0 : List Value} {σ0 : sS} {v0 : Nat} {v1 : Int32} {v2 : Int32} {v3 : Int32} {w0 : Int32} {σ : sS} {z : sZ Int32} {r : Int32 × sS} (hf : T_X6_dearerOnes_44 v0 v1 v2 v3 w0 σ = some z) (k : s_K G (d + 5) M_X6_dearerOnes vs0 σ0 Y_X6_dearerOnes e_I z r) : s_V G (d + 5) M_X6_dearerOnes vs0 σ0 Y_X6_dearerOnes (44, [.ref v0, .int v1, .int v2, .int v3, .int w0], σ) (e_I r) := by
  have le0 : s_le σ (e_I r).2 := s_lek hem_I (l_X6_dearerOnes_44 hf) k
  refine ⟨le0, ?_⟩
  intro p e s m below meth c H locs cells slots ls X I hn1 hn2 hl
  have hn : cells + σ0.2.1 ≤ σ.2.1 ∧ slots + σ0.2.2.1 ≤ σ.2.2.1 := ⟨hn1, hn2⟩
  have hl : lv_has ls 5 [(0, .ref v0), (1, .int v1), (2, .int v2), (3, .int v3)] := hl
  have hx := X.1
  have hb : c.code = cX6_dearerOnes := X.2.1
  have hown : s.vm.findClass RX6 = some m.cls := X.2.2.2.2.2.1
  have hts := X.2.2.2.2.2.2.1
  refine W.eq (g2 := F0 m 44 ls [.int w0]) rfl ?_
  unfold T_X6_dearerOnes_44 at hf
  refine lv_istore (lv' := [(4, .int w0), (0, .ref v0), (1, .int v1), (2, .int v2), (3, .int v3)]) hx hb dX6_dearerOnes_44 hl (by decide) rfl (fun ls hl => ?_)
  refine lv_iload hx hb dX6_dearerOnes_46 (lv_at hl 0 rfl) ?_
  rcases s_ite hf with ⟨c1, hf⟩ | ⟨c1, hf⟩
  · refine lv_if_eq (tgt := 77) hx hb dX6_dearerOnes_48 (by decide) (fun _ => ?_) (fun n => absurd c1 n)
    cases hf
    have k : s_V G (d + 5) M_X6_dearerOnes vs0 σ0 Y_X6_dearerOnes (77, [.ref v0, .int v1, .int v2], σ) (e_I r) := k
    exact k.2 p e s m below meth c _ _ _ _ _ X I hn.1 hn.2 (lv_sub hl [1, 2, 3] rfl)
  · refine lv_if_eq (tgt := 77) hx hb dX6_dearerOnes_48 (by decide) (fun n => absurd n c1) (fun _ => ?_)
    obtain ⟨x1, h2, hf⟩ := s_bind hf
    obtain ⟨q2, h3, hf⟩ := s_bind hf
    obtain ⟨x3, h4, hf⟩ := s_bind hf
    obtain ⟨q4, h5, hf⟩ := s_bind hf
    have le6 : s_le q4.2 (e_I r).2 := by
      refine s_lek hem_I ?_ k
      rcases s_ite hf with ⟨-, hf⟩ | ⟨-, hf⟩
      · cases hf
        exact s_le.rf
      · cases hf
        exact s_le.rf
    have le7 := s_le.tr (l_X0_costOfAll h5) le6
    refine lv_aload_n hx hb dX6_dearerOnes_51 rfl (lv_at hl 1 rfl) ?_
    refine r_gr X I fl_X6_9 h2 dX6_dearerOnes_52 ?_
    refine lv_iload_n hx hb dX6_dearerOnes_55 rfl (lv_at hl 3 rfl) ?_
    refine lv_iconst (v := 2) hx hb dX6_dearerOnes_56 (by decide) ?_
    refine r_callV (Y := M_X1_ofReceipt) (v := some (.int q2.1)) X I w_620 my_X1_ofReceipt (by omega) (t_X1_ofReceipt (G := G) (d := d + 3) h3) (b_X1_ofReceipt h3) rfl rfl hl.1 rfl (Nat.le_of_ble_eq_true rfl) hn le7 dX6_dearerOnes_57 (fun H locs cells slots I hn1 hn2 => ?_)
    have I : s_I G q2.2 s H locs := I
    have hn : cells + σ0.2.1 ≤ q2.2.2.1 ∧ slots + σ0.2.2.1 ≤ q2.2.2.2.1 := ⟨hn1, hn2⟩
    refine lv_aload_n hx hb dX6_dearerOnes_60 rfl (lv_at hl 1 rfl) ?_
    refine r_gr X I fl_X6_15 h4 dX6_dearerOnes_61 ?_
    refine lv_iload_n hx hb dX6_dearerOnes_64 rfl (lv_at hl 4 rfl) ?_
    refine r_callV (Y := M_X0_costOfAll) (v := some (.int q4.1)) X I w_625 my_X0_costOfAll (by omega) (t_X0_costOfAll (G := G) (d := d + 0) h5) (b_X0_costOfAll h5) rfl rfl hl.1 rfl (Nat.le_of_ble_eq_true rfl) hn le6 dX6_dearerOnes_65 (fun H locs cells slots I hn1 hn2 => ?_)
    have I : s_I G q4.2 s H locs := I
    have hn : cells + σ0.2.1 ≤ q4.2.2.1 ∧ slots + σ0.2.2.1 ≤ q4.2.2.2.1 := ⟨hn1, hn2⟩
    rcases s_ite hf with ⟨c8, hf⟩ | ⟨c8, hf⟩
    · refine lv_icmp_le (tgt := 77) hx hb dX6_dearerOnes_68 (by decide) (fun _ => ?_) (fun n => absurd c8 n)
      cases hf
      have k : s_V G (d + 5) M_X6_dearerOnes vs0 σ0 Y_X6_dearerOnes (77, [.ref v0, .int v1, .int v2], q4.2) (e_I r) := k
      exact k.2 p e s m below meth c _ _ _ _ _ X I hn.1 hn.2 (lv_sub hl [1, 2, 3] rfl)
    · refine lv_icmp_le (tgt := 77) hx hb dX6_dearerOnes_68 (by decide) (fun n => absurd n c8) (fun _ => ?_)
      cases hf
      have k : s_V G (d + 5) M_X6_dearerOnes vs0 σ0 Y_X6_dearerOnes (77, [.ref v0, .int (v1 ||| (1 <<< (v2 &&& 31))), .int v2], q4.2) (e_I r) := k
      refine lv_iload_n hx hb dX6_dearerOnes_71 rfl (lv_at hl 2 rfl) ?_
      refine lv_iconst (v := 1) hx hb dX6_dearerOnes_72 (by decide) ?_
      refine lv_iload_n hx hb dX6_dearerOnes_73 rfl (lv_at hl 3 rfl) ?_
      refine lv_ishl hx hb dX6_dearerOnes_74 ?_
      refine lv_ior hx hb dX6_dearerOnes_75 ?_
      refine lv_istore_n (lv' := [(1, .int (v1 ||| (1 <<< (v2 &&& 31)))), (4, .int w0), (0, .ref v0), (2, .int v2), (3, .int v3)]) hx hb dX6_dearerOnes_76 rfl hl (by decide) rfl (fun ls hl => ?_)
      exact k.2 p e s m below meth c _ _ _ _ _ X I hn.1 hn.2 (lv_sub hl [2, 0, 3] rfl)
set_option maxRecDepth 100000 in
set_option maxHeartbeats 4000000 in
theorem v_X6_dearerOnes_77 {G : sG} {d : Nat} {vs0 : List Value} {σ0 : sS} {v0 : Nat} {v1 : Int32} {v2 : Int32} {σ : sS} {z : sZ Int32} {r : Int32 × sS} (hf : T_X6_dearerOnes_77 v0 v1 v2 σ = some z) (k : s_K G (d + 5) M_X6_dearerOnes vs0 σ0 Y_X6_dearerOnes e_I z r) : s_V G (d + 5) M_X6_dearerOnes vs0 σ0 Y_X6_dearerOnes (77, [.ref v0, .int v1, .int v2], σ) (e_I r) := by
  have le0 : s_le σ (e_I r).2 := s_lek hem_I (l_X6_dearerOnes_77 hf) k
  refine ⟨le0, ?_⟩
  intro p e s m below meth c H locs cells slots ls X I hn1 hn2 hl
  have hn : cells + σ0.2.1 ≤ σ.2.1 ∧ slots + σ0.2.2.1 ≤ σ.2.2.1 := ⟨hn1, hn2⟩
  have hl : lv_has ls 5 [(0, .ref v0), (1, .int v1), (2, .int v2)] := hl
  have hx := X.1
  have hb : c.code = cX6_dearerOnes := X.2.1
  have hown : s.vm.findClass RX6 = some m.cls := X.2.2.2.2.2.1
  have hts := X.2.2.2.2.2.2.1
  refine W.eq (g2 := F0 m 77 ls []) rfl ?_
  unfold T_X6_dearerOnes_77 at hf
  cases hf
  have k : s_V G (d + 5) M_X6_dearerOnes vs0 σ0 Y_X6_dearerOnes (4, [.ref v0, .int v1, .int (v2 + 1)], σ) (e_I r) := k
  refine lv_iinc (v := (v2 + 1)) (lv' := [(2, .int (v2 + 1)), (0, .ref v0), (1, .int v1)]) hx hb dX6_dearerOnes_77 hl (k := 2) rfl rfl (by decide) rfl (fun ls hl => ?_)
  refine lv_goto (tgt := 4) hx hb dX6_dearerOnes_80 (by decide) ?_
  exact k.2 p e s m below meth c _ _ _ _ _ X I hn.1 hn.2 (lv_sub hl [1, 2, 0] rfl)
theorem v_X6_dearerOnes {G : sG} {d : Nat} {vs0 : List Value} {σ0 : sS} {x : sL} {z : sZ Int32} {r : Int32 × sS} (hs : S_X6_dearerOnes x = some z) (k : s_K G (d + 5) M_X6_dearerOnes vs0 σ0 Y_X6_dearerOnes e_I z r) : s_V G (d + 5) M_X6_dearerOnes vs0 σ0 Y_X6_dearerOnes x (e_I r) := by
  obtain ⟨pc, vs, σ⟩ := x
  unfold S_X6_dearerOnes at hs
  dsimp only at hs
  rcases s_ite hs with ⟨c, hs⟩ | ⟨-, hs⟩
  · subst c
    unfold U_X6_dearerOnes_0 at hs
    obtain ⟨a0, g0, hs⟩ := s_bind hs
    obtain ⟨u9, ge, hs⟩ := s_bind hs
    rw [g_r_to g0, g_e_to ge]
    exact v_X6_dearerOnes_0 hs k
  rcases s_ite hs with ⟨c, hs⟩ | ⟨-, hs⟩
  · subst c
    unfold U_X6_dearerOnes_4 at hs
    obtain ⟨a0, g0, hs⟩ := s_bind hs
    obtain ⟨a1, g1, hs⟩ := s_bind hs
    obtain ⟨a2, g2, hs⟩ := s_bind hs
    obtain ⟨u9, ge, hs⟩ := s_bind hs
    rw [g_r_to g0, g_i_to g1, g_i_to g2, g_e_to ge]
    exact v_X6_dearerOnes_4 hs k
  rcases s_ite hs with ⟨c, hs⟩ | ⟨-, hs⟩
  · subst c
    unfold U_X6_dearerOnes_44 at hs
    obtain ⟨a0, g0, hs⟩ := s_bind hs
    obtain ⟨a1, g1, hs⟩ := s_bind hs
    obtain ⟨a2, g2, hs⟩ := s_bind hs
    obtain ⟨a3, g3, hs⟩ := s_bind hs
    obtain ⟨a4, g4, hs⟩ := s_bind hs
    obtain ⟨u9, ge, hs⟩ := s_bind hs
    rw [g_r_to g0, g_i_to g1, g_i_to g2, g_i_to g3, g_i_to g4, g_e_to ge]
    exact v_X6_dearerOnes_44 hs k
  rcases s_ite hs with ⟨c, hs⟩ | ⟨-, hs⟩
  · subst c
    unfold U_X6_dearerOnes_77 at hs
    obtain ⟨a0, g0, hs⟩ := s_bind hs
    obtain ⟨a1, g1, hs⟩ := s_bind hs
    obtain ⟨a2, g2, hs⟩ := s_bind hs
    obtain ⟨u9, ge, hs⟩ := s_bind hs
    rw [g_r_to g0, g_i_to g1, g_i_to g2, g_e_to ge]
    exact v_X6_dearerOnes_77 hs k
  cases hs
theorem t_X6_dearerOnes {G : sG} {d : Nat} {v0 : Nat} {σ : sS} {q : Int32 × sS} (h : F_X6_dearerOnes v0 σ = some q) : s_T G (d + 5) M_X6_dearerOnes [.ref v0] σ (e_I q) := by
  unfold F_X6_dearerOnes at h
  obtain ⟨-, -, h⟩ := s_bind h
  exact s_ofV rfl (by decide) (Nat.le_of_ble_eq_true rfl) rfl rfl (s_run_ind (V := fun x r => s_V G (d + 5) M_X6_dearerOnes [.ref v0] σ Y_X6_dearerOnes x (e_I r)) (fun x z r hs hk => v_X6_dearerOnes hs (by cases z <;> exact hk)) h)
/-! X7_dearer -/
noncomputable def T_X7_dearer_0 (v0 : Nat) (σ : sS) : Option (sZ Int32) :=
  (s_fr σ v0 7 7).bind fun x1 =>
  (F_X6_dearerOnes x1 σ).bind fun q2 =>
  some (.inr (q2.1, q2.2))
noncomputable def U_X7_dearer_0 (vs : List Value) (σ : sS) : Option (sZ Int32) := (g_r vs).bind fun a0 => (g_e a0.2).bind fun _ => T_X7_dearer_0 a0.1 σ
noncomputable def S_X7_dearer (x : sL) : Option (sZ Int32) := if x.1 = 0 then U_X7_dearer_0 x.2.1 x.2.2 else none
def Y_X7_dearer (pc : Nat) : List Nat := if pc = 0 then [0] else []
noncomputable def F_X7_dearer (v0 : Nat) (σ : sS) : Option (Int32 × sS) := (s_is σ v0 7).bind fun _ => s_run S_X7_dearer (0, [.ref v0], σ)
theorem l_X7_dearer_0 {v0 : Nat} {σ : sS} {z : sZ Int32} (hf : T_X7_dearer_0 v0 σ = some z) : s_lz σ z := by
  unfold T_X7_dearer_0 at hf
  obtain ⟨x1, -, hf⟩ := s_bind hf
  obtain ⟨q2, hh, hf⟩ := s_bind hf
  refine s_lz.tr (l_X6_dearerOnes hh) ?_
  cases hf
  exact s_le.rf
theorem l_X7_dearer_s {x : sL} {z : sZ Int32} (hs : S_X7_dearer x = some z) : s_lz x.2.2 z := by
  obtain ⟨pc, vs, σ⟩ := x
  unfold S_X7_dearer at hs
  dsimp only at hs ⊢
  rcases s_ite hs with ⟨c, hs⟩ | ⟨-, hs⟩
  · subst c
    unfold U_X7_dearer_0 at hs
    obtain ⟨a0, g0, hs⟩ := s_bind hs
    obtain ⟨u9, ge, hs⟩ := s_bind hs
    exact l_X7_dearer_0 hs
  cases hs
theorem l_X7_dearer {v0 : Nat} {σ : sS} {q : Int32 × sS} (h : F_X7_dearer v0 σ = some q) : s_le σ q.2 := by
  unfold F_X7_dearer at h
  obtain ⟨-, -, h⟩ := s_bind h
  exact s_run_ind (V := fun x r => s_le x.2.2 r.2) (fun x z r hs hk => by
    have h9 := l_X7_dearer_s hs
    cases z with
    | inl y => exact s_le.tr h9 hk
    | inr q => cases hk; exact h9) h
theorem b_X7_dearer {v0 : Nat} {σ : sS} {q : Int32 × sS} (h : F_X7_dearer v0 σ = some q) : ∃ fs, σ.1 v0 = some (.inr (7, fs)) := by
  unfold F_X7_dearer at h
  obtain ⟨u, hu, -⟩ := s_bind h
  exact s_is_to hu
set_option maxRecDepth 100000 in
set_option maxHeartbeats 4000000 in
theorem v_X7_dearer_0 {G : sG} {d : Nat} {vs0 : List Value} {σ0 : sS} {v0 : Nat} {σ : sS} {z : sZ Int32} {r : Int32 × sS} (hf : T_X7_dearer_0 v0 σ = some z) (k : s_K G (d + 6) M_X7_dearer vs0 σ0 Y_X7_dearer e_I z r) : s_V G (d + 6) M_X7_dearer vs0 σ0 Y_X7_dearer (0, [.ref v0], σ) (e_I r) := by
  have le0 : s_le σ (e_I r).2 := s_lek hem_I (l_X7_dearer_0 hf) k
  refine ⟨le0, ?_⟩
  intro p e s m below meth c H locs cells slots ls X I hn1 hn2 hl
  have hn : cells + σ0.2.1 ≤ σ.2.1 ∧ slots + σ0.2.2.1 ≤ σ.2.2.1 := ⟨hn1, hn2⟩
  have hl : lv_has ls 1 [(0, .ref v0)] := hl
  have hx := X.1
  have hb : c.code = cX7_dearer := X.2.1
  have hown : s.vm.findClass RX7 = some m.cls := X.2.2.2.2.2.1
  have hts := X.2.2.2.2.2.2.1
  refine W.eq (g2 := F0 m 0 ls []) rfl ?_
  unfold T_X7_dearer_0 at hf
  obtain ⟨x1, h1, hf⟩ := s_bind hf
  obtain ⟨q2, h2, hf⟩ := s_bind hf
  cases hf
  have k : _ = r := k
  subst k
  have le3 : s_le q2.2 q2.2 := s_le.rf
  refine lv_aload_n hx hb dX7_dearer_0 rfl (lv_at hl 0 rfl) ?_
  refine r_gr X I fl_X7_65 h1 dX7_dearer_1 ?_
  refine r_callV (Y := M_X6_dearerOnes) (v := some (.int q2.1)) X I w_616 my_X6_dearerOnes (by omega) (t_X6_dearerOnes (G := G) (d := d + 0) h2) (b_X6_dearerOnes h2) rfl rfl hl.1 rfl (Nat.le_of_ble_eq_true rfl) hn le3 dX7_dearer_4 (fun H locs cells slots I hn1 hn2 => ?_)
  have I : s_I G q2.2 s H locs := I
  have hn : cells + σ0.2.1 ≤ q2.2.2.1 ∧ slots + σ0.2.2.1 ≤ q2.2.2.2.1 := ⟨hn1, hn2⟩
  exact r_iret X I rfl rfl rfl hn dX7_dearer_7
theorem v_X7_dearer {G : sG} {d : Nat} {vs0 : List Value} {σ0 : sS} {x : sL} {z : sZ Int32} {r : Int32 × sS} (hs : S_X7_dearer x = some z) (k : s_K G (d + 6) M_X7_dearer vs0 σ0 Y_X7_dearer e_I z r) : s_V G (d + 6) M_X7_dearer vs0 σ0 Y_X7_dearer x (e_I r) := by
  obtain ⟨pc, vs, σ⟩ := x
  unfold S_X7_dearer at hs
  dsimp only at hs
  rcases s_ite hs with ⟨c, hs⟩ | ⟨-, hs⟩
  · subst c
    unfold U_X7_dearer_0 at hs
    obtain ⟨a0, g0, hs⟩ := s_bind hs
    obtain ⟨u9, ge, hs⟩ := s_bind hs
    rw [g_r_to g0, g_e_to ge]
    exact v_X7_dearer_0 hs k
  cases hs
theorem t_X7_dearer {G : sG} {d : Nat} {v0 : Nat} {σ : sS} {q : Int32 × sS} (h : F_X7_dearer v0 σ = some q) : s_T G (d + 6) M_X7_dearer [.ref v0] σ (e_I q) := by
  unfold F_X7_dearer at h
  obtain ⟨-, -, h⟩ := s_bind h
  exact s_ofV rfl (by decide) (Nat.le_of_ble_eq_true rfl) rfl rfl (s_run_ind (V := fun x r => s_V G (d + 6) M_X7_dearer [.ref v0] σ Y_X7_dearer x (e_I r)) (fun x z r hs hk => v_X7_dearer hs (by cases z <;> exact hk)) h)
/-! X8_dearer -/
noncomputable def T_X8_dearer_0 (v0 : Nat) (σ : sS) : Option (sZ Int32) :=
  (s_pf σ v0 8 0 (.int 0)).bind fun σ1 =>
  (F_X8_goesThrough v0 σ1).bind fun q2 =>
  some (.inl (13, [.ref v0, .int 0, .int 0], q2.2))
noncomputable def U_X8_dearer_0 (vs : List Value) (σ : sS) : Option (sZ Int32) := (g_r vs).bind fun a0 => (g_e a0.2).bind fun _ => T_X8_dearer_0 a0.1 σ
noncomputable def T_X8_dearer_13 (v0 : Nat) (v1 : Int32) (v2 : Int32) (σ : sS) : Option (sZ Int32) :=
  (F_X8_receipts v0 σ).bind fun q1 =>
  if q1.1 ≤ v2 then (some (.inr (v1, q1.2)))
  else ((F_X8_ofReceipt v0 v2 0 q1.2).bind fun q2 =>
  (F_X8_ofLine v0 q2.1 2 q2.2).bind fun q3 =>
  if q3.1 = 15 then ((F_X8_ofReceipt v0 v2 2 q3.2).bind fun q4 =>
  (F_X8_ofReceipt v0 v2 0 q4.2).bind fun q5 =>
  (F_X8_spentBy v0 q5.1 q5.2).bind fun q6 =>
  if q4.1 ≤ q6.1 then (some (.inl (63, [.ref v0, .int v2, .int v1], q6.2)))
  else (some (.inl (64, [.ref v0, .int v2, .int (1 <<< (v2 &&& 31)), .int v1], q6.2))))
  else (some (.inl (63, [.ref v0, .int v2, .int v1], q3.2))))
noncomputable def U_X8_dearer_13 (vs : List Value) (σ : sS) : Option (sZ Int32) := (g_r vs).bind fun a0 => (g_i a0.2).bind fun a1 => (g_i a1.2).bind fun a2 => (g_e a2.2).bind fun _ => T_X8_dearer_13 a0.1 a1.1 a2.1 σ
noncomputable def T_X8_dearer_63 (v0 : Nat) (v2 : Int32) (w0 : Int32) (σ : sS) : Option (sZ Int32) :=
  some (.inl (64, [.ref v0, .int v2, .int 0, .int w0], σ))
noncomputable def U_X8_dearer_63 (vs : List Value) (σ : sS) : Option (sZ Int32) := (g_r vs).bind fun a0 => (g_i a0.2).bind fun a1 => (g_i a1.2).bind fun a2 => (g_e a2.2).bind fun _ => T_X8_dearer_63 a0.1 a1.1 a2.1 σ
noncomputable def T_X8_dearer_64 (v0 : Nat) (v2 : Int32) (w0 : Int32) (w1 : Int32) (σ : sS) : Option (sZ Int32) :=
  some (.inl (13, [.ref v0, .int (w1 ||| w0), .int (v2 + 1)], σ))
noncomputable def U_X8_dearer_64 (vs : List Value) (σ : sS) : Option (sZ Int32) := (g_r vs).bind fun a0 => (g_i a0.2).bind fun a1 => (g_i a1.2).bind fun a2 => (g_i a2.2).bind fun a3 => (g_e a3.2).bind fun _ => T_X8_dearer_64 a0.1 a1.1 a2.1 a3.1 σ
noncomputable def S_X8_dearer (x : sL) : Option (sZ Int32) := if x.1 = 0 then U_X8_dearer_0 x.2.1 x.2.2 else if x.1 = 13 then U_X8_dearer_13 x.2.1 x.2.2 else if x.1 = 63 then U_X8_dearer_63 x.2.1 x.2.2 else if x.1 = 64 then U_X8_dearer_64 x.2.1 x.2.2 else none
def Y_X8_dearer (pc : Nat) : List Nat := if pc = 0 then [0] else if pc = 13 then [0, 1, 2] else if pc = 63 then [0, 2] else if pc = 64 then [0, 2] else []
noncomputable def F_X8_dearer (v0 : Nat) (σ : sS) : Option (Int32 × sS) := (s_is σ v0 8).bind fun _ => s_run S_X8_dearer (0, [.ref v0], σ)
theorem l_X8_dearer_0 {v0 : Nat} {σ : sS} {z : sZ Int32} (hf : T_X8_dearer_0 v0 σ = some z) : s_lz σ z := by
  unfold T_X8_dearer_0 at hf
  obtain ⟨σ1, hh, hf⟩ := s_bind hf
  refine s_lz.tr (s_le2 (s_pf_2 hh)) ?_
  obtain ⟨q2, hh, hf⟩ := s_bind hf
  refine s_lz.tr (l_X8_goesThrough hh) ?_
  cases hf
  exact s_le.rf
theorem l_X8_dearer_13 {v0 : Nat} {v1 : Int32} {v2 : Int32} {σ : sS} {z : sZ Int32} (hf : T_X8_dearer_13 v0 v1 v2 σ = some z) : s_lz σ z := by
  unfold T_X8_dearer_13 at hf
  obtain ⟨q1, hh, hf⟩ := s_bind hf
  refine s_lz.tr (l_X8_receipts hh) ?_
  rcases s_ite hf with ⟨-, hf⟩ | ⟨-, hf⟩
  · cases hf
    exact s_le.rf
  · obtain ⟨q2, hh, hf⟩ := s_bind hf
    refine s_lz.tr (l_X8_ofReceipt hh) ?_
    obtain ⟨q3, hh, hf⟩ := s_bind hf
    refine s_lz.tr (l_X8_ofLine hh) ?_
    rcases s_ite hf with ⟨-, hf⟩ | ⟨-, hf⟩
    · obtain ⟨q4, hh, hf⟩ := s_bind hf
      refine s_lz.tr (l_X8_ofReceipt hh) ?_
      obtain ⟨q5, hh, hf⟩ := s_bind hf
      refine s_lz.tr (l_X8_ofReceipt hh) ?_
      obtain ⟨q6, hh, hf⟩ := s_bind hf
      refine s_lz.tr (l_X8_spentBy hh) ?_
      rcases s_ite hf with ⟨-, hf⟩ | ⟨-, hf⟩
      · cases hf
        exact s_le.rf
      · cases hf
        exact s_le.rf
    · cases hf
      exact s_le.rf
theorem l_X8_dearer_63 {v0 : Nat} {v2 : Int32} {w0 : Int32} {σ : sS} {z : sZ Int32} (hf : T_X8_dearer_63 v0 v2 w0 σ = some z) : s_lz σ z := by
  unfold T_X8_dearer_63 at hf
  cases hf
  exact s_le.rf
theorem l_X8_dearer_64 {v0 : Nat} {v2 : Int32} {w0 : Int32} {w1 : Int32} {σ : sS} {z : sZ Int32} (hf : T_X8_dearer_64 v0 v2 w0 w1 σ = some z) : s_lz σ z := by
  unfold T_X8_dearer_64 at hf
  cases hf
  exact s_le.rf
theorem l_X8_dearer_s {x : sL} {z : sZ Int32} (hs : S_X8_dearer x = some z) : s_lz x.2.2 z := by
  obtain ⟨pc, vs, σ⟩ := x
  unfold S_X8_dearer at hs
  dsimp only at hs ⊢
  rcases s_ite hs with ⟨c, hs⟩ | ⟨-, hs⟩
  · subst c
    unfold U_X8_dearer_0 at hs
    obtain ⟨a0, g0, hs⟩ := s_bind hs
    obtain ⟨u9, ge, hs⟩ := s_bind hs
    exact l_X8_dearer_0 hs
  rcases s_ite hs with ⟨c, hs⟩ | ⟨-, hs⟩
  · subst c
    unfold U_X8_dearer_13 at hs
    obtain ⟨a0, g0, hs⟩ := s_bind hs
    obtain ⟨a1, g1, hs⟩ := s_bind hs
    obtain ⟨a2, g2, hs⟩ := s_bind hs
    obtain ⟨u9, ge, hs⟩ := s_bind hs
    exact l_X8_dearer_13 hs
  rcases s_ite hs with ⟨c, hs⟩ | ⟨-, hs⟩
  · subst c
    unfold U_X8_dearer_63 at hs
    obtain ⟨a0, g0, hs⟩ := s_bind hs
    obtain ⟨a1, g1, hs⟩ := s_bind hs
    obtain ⟨a2, g2, hs⟩ := s_bind hs
    obtain ⟨u9, ge, hs⟩ := s_bind hs
    exact l_X8_dearer_63 hs
  rcases s_ite hs with ⟨c, hs⟩ | ⟨-, hs⟩
  · subst c
    unfold U_X8_dearer_64 at hs
    obtain ⟨a0, g0, hs⟩ := s_bind hs
    obtain ⟨a1, g1, hs⟩ := s_bind hs
    obtain ⟨a2, g2, hs⟩ := s_bind hs
    obtain ⟨a3, g3, hs⟩ := s_bind hs
    obtain ⟨u9, ge, hs⟩ := s_bind hs
    exact l_X8_dearer_64 hs
  cases hs
theorem l_X8_dearer {v0 : Nat} {σ : sS} {q : Int32 × sS} (h : F_X8_dearer v0 σ = some q) : s_le σ q.2 := by
  unfold F_X8_dearer at h
  obtain ⟨-, -, h⟩ := s_bind h
  exact s_run_ind (V := fun x r => s_le x.2.2 r.2) (fun x z r hs hk => by
    have h9 := l_X8_dearer_s hs
    cases z with
    | inl y => exact s_le.tr h9 hk
    | inr q => cases hk; exact h9) h
theorem b_X8_dearer {v0 : Nat} {σ : sS} {q : Int32 × sS} (h : F_X8_dearer v0 σ = some q) : ∃ fs, σ.1 v0 = some (.inr (8, fs)) := by
  unfold F_X8_dearer at h
  obtain ⟨u, hu, -⟩ := s_bind h
  exact s_is_to hu
set_option maxRecDepth 100000 in
set_option maxHeartbeats 4000000 in
theorem v_X8_dearer_0 {G : sG} {d : Nat} {vs0 : List Value} {σ0 : sS} {v0 : Nat} {σ : sS} {z : sZ Int32} {r : Int32 × sS} (hf : T_X8_dearer_0 v0 σ = some z) (k : s_K G (d + 8) M_X8_dearer vs0 σ0 Y_X8_dearer e_I z r) : s_V G (d + 8) M_X8_dearer vs0 σ0 Y_X8_dearer (0, [.ref v0], σ) (e_I r) := by
  have le0 : s_le σ (e_I r).2 := s_lek hem_I (l_X8_dearer_0 hf) k
  refine ⟨le0, ?_⟩
  intro p e s m below meth c H locs cells slots ls X I hn1 hn2 hl
  have hn : cells + σ0.2.1 ≤ σ.2.1 ∧ slots + σ0.2.2.1 ≤ σ.2.2.1 := ⟨hn1, hn2⟩
  have hl : lv_has ls 3 [(0, .ref v0)] := hl
  have hx := X.1
  have hb : c.code = cX8_dearer := X.2.1
  have hown : s.vm.findClass RX8 = some m.cls := X.2.2.2.2.2.1
  have hts := X.2.2.2.2.2.2.1
  refine W.eq (g2 := F0 m 0 ls []) rfl ?_
  unfold T_X8_dearer_0 at hf
  obtain ⟨σ1, h1, hf⟩ := s_bind hf
  obtain ⟨q2, h2, hf⟩ := s_bind hf
  cases hf
  have k : s_V G (d + 8) M_X8_dearer vs0 σ0 Y_X8_dearer (13, [.ref v0, .int 0, .int 0], q2.2) (e_I r) := k
  have le3 : s_le q2.2 (e_I r).2 := k.1
  have le4 := s_le.tr (l_X8_goesThrough h2) le3
  refine lv_aload_n hx hb dX8_dearer_0 rfl (lv_at hl 0 rfl) ?_
  refine lv_iconst (v := 0) hx hb dX8_dearer_1 (by decide) ?_
  refine r_put X I fp_X8_3 (fun h => by cases h) h1 rfl rfl dX8_dearer_2 (fun H locs I => ?_)
  have hn := s_k2 (s_pf_2 h1) hn
  refine lv_aload_n hx hb dX8_dearer_5 rfl (lv_at hl 0 rfl) ?_
  refine r_callV (Y := M_X8_goesThrough) (v := none) X I w_2027 my_X8_goesThrough (by omega) (t_X8_goesThrough (G := G) (d := d + 0) h2) (b_X8_goesThrough h2) rfl rfl hl.1 rfl (Nat.le_of_ble_eq_true rfl) hn le3 dX8_dearer_6 (fun H locs cells slots I hn1 hn2 => ?_)
  have I : s_I G q2.2 s H locs := I
  have hn : cells + σ0.2.1 ≤ q2.2.2.1 ∧ slots + σ0.2.2.1 ≤ q2.2.2.2.1 := ⟨hn1, hn2⟩
  refine lv_iconst (v := 0) hx hb dX8_dearer_9 (by decide) ?_
  refine lv_istore_n (lv' := [(1, .int 0), (0, .ref v0)]) hx hb dX8_dearer_10 rfl hl (by decide) rfl (fun ls hl => ?_)
  refine lv_iconst (v := 0) hx hb dX8_dearer_11 (by decide) ?_
  refine lv_istore_n (lv' := [(2, .int 0), (1, .int 0), (0, .ref v0)]) hx hb dX8_dearer_12 rfl hl (by decide) rfl (fun ls hl => ?_)
  exact k.2 p e s m below meth c _ _ _ _ _ X I hn.1 hn.2 (lv_sub hl [2, 1, 0] rfl)
set_option maxRecDepth 100000 in
set_option maxHeartbeats 4000000 in
theorem v_X8_dearer_13 {G : sG} {d : Nat} {vs0 : List Value} {σ0 : sS} {v0 : Nat} {v1 : Int32} {v2 : Int32} {σ : sS} {z : sZ Int32} {r : Int32 × sS} (hf : T_X8_dearer_13 v0 v1 v2 σ = some z) (k : s_K G (d + 8) M_X8_dearer vs0 σ0 Y_X8_dearer e_I z r) : s_V G (d + 8) M_X8_dearer vs0 σ0 Y_X8_dearer (13, [.ref v0, .int v1, .int v2], σ) (e_I r) := by
  have le0 : s_le σ (e_I r).2 := s_lek hem_I (l_X8_dearer_13 hf) k
  refine ⟨le0, ?_⟩
  intro p e s m below meth c H locs cells slots ls X I hn1 hn2 hl
  have hn : cells + σ0.2.1 ≤ σ.2.1 ∧ slots + σ0.2.2.1 ≤ σ.2.2.1 := ⟨hn1, hn2⟩
  have hl : lv_has ls 3 [(0, .ref v0), (1, .int v1), (2, .int v2)] := hl
  have hx := X.1
  have hb : c.code = cX8_dearer := X.2.1
  have hown : s.vm.findClass RX8 = some m.cls := X.2.2.2.2.2.1
  have hts := X.2.2.2.2.2.2.1
  refine W.eq (g2 := F0 m 13 ls []) rfl ?_
  unfold T_X8_dearer_13 at hf
  obtain ⟨q1, h1, hf⟩ := s_bind hf
  have le2 : s_le q1.2 (e_I r).2 := by
    refine s_lek hem_I ?_ k
    rcases s_ite hf with ⟨-, hf⟩ | ⟨-, hf⟩
    · cases hf
      exact s_le.rf
    · obtain ⟨q2, hh, hf⟩ := s_bind hf
      refine s_lz.tr (l_X8_ofReceipt hh) ?_
      obtain ⟨q3, hh, hf⟩ := s_bind hf
      refine s_lz.tr (l_X8_ofLine hh) ?_
      rcases s_ite hf with ⟨-, hf⟩ | ⟨-, hf⟩
      · obtain ⟨q4, hh, hf⟩ := s_bind hf
        refine s_lz.tr (l_X8_ofReceipt hh) ?_
        obtain ⟨q5, hh, hf⟩ := s_bind hf
        refine s_lz.tr (l_X8_ofReceipt hh) ?_
        obtain ⟨q6, hh, hf⟩ := s_bind hf
        refine s_lz.tr (l_X8_spentBy hh) ?_
        rcases s_ite hf with ⟨-, hf⟩ | ⟨-, hf⟩
        · cases hf
          exact s_le.rf
        · cases hf
          exact s_le.rf
      · cases hf
        exact s_le.rf
  refine lv_iload_n hx hb dX8_dearer_13 rfl (lv_at hl 2 rfl) ?_
  refine lv_aload_n hx hb dX8_dearer_14 rfl (lv_at hl 0 rfl) ?_
  refine r_callV (Y := M_X8_receipts) (v := some (.int q1.1)) X I w_2295 my_X8_receipts (by omega) (t_X8_receipts (G := G) (d := d + 6) h1) (b_X8_receipts h1) rfl rfl hl.1 rfl (Nat.le_of_ble_eq_true rfl) hn le2 dX8_dearer_15 (fun H locs cells slots I hn1 hn2 => ?_)
  have I : s_I G q1.2 s H locs := I
  have hn : cells + σ0.2.1 ≤ q1.2.2.1 ∧ slots + σ0.2.2.1 ≤ q1.2.2.2.1 := ⟨hn1, hn2⟩
  rcases s_ite hf with ⟨c3, hf⟩ | ⟨c3, hf⟩
  · refine lv_icmp_ge (tgt := 72) hx hb dX8_dearer_18 (by decide) (fun _ => ?_) (fun n => absurd c3 n)
    cases hf
    have k : _ = r := k
    subst k
    refine lv_iload_n hx hb dX8_dearer_72 rfl (lv_at hl 1 rfl) ?_
    exact r_iret X I rfl rfl rfl hn dX8_dearer_73
  · refine lv_icmp_ge (tgt := 72) hx hb dX8_dearer_18 (by decide) (fun n => absurd n c3) (fun _ => ?_)
    obtain ⟨q2, h4, hf⟩ := s_bind hf
    obtain ⟨q3, h5, hf⟩ := s_bind hf
    have le6 : s_le q3.2 (e_I r).2 := by
      refine s_lek hem_I ?_ k
      rcases s_ite hf with ⟨-, hf⟩ | ⟨-, hf⟩
      · obtain ⟨q4, hh, hf⟩ := s_bind hf
        refine s_lz.tr (l_X8_ofReceipt hh) ?_
        obtain ⟨q5, hh, hf⟩ := s_bind hf
        refine s_lz.tr (l_X8_ofReceipt hh) ?_
        obtain ⟨q6, hh, hf⟩ := s_bind hf
        refine s_lz.tr (l_X8_spentBy hh) ?_
        rcases s_ite hf with ⟨-, hf⟩ | ⟨-, hf⟩
        · cases hf
          exact s_le.rf
        · cases hf
          exact s_le.rf
      · cases hf
        exact s_le.rf
    have le7 := s_le.tr (l_X8_ofLine h5) le6
    refine lv_iload_n hx hb dX8_dearer_21 rfl (lv_at hl 1 rfl) ?_
    refine lv_aload_n hx hb dX8_dearer_22 rfl (lv_at hl 0 rfl) ?_
    refine lv_aload_n hx hb dX8_dearer_23 rfl (lv_at hl 0 rfl) ?_
    refine lv_iload_n hx hb dX8_dearer_24 rfl (lv_at hl 2 rfl) ?_
    refine lv_iconst (v := 0) hx hb dX8_dearer_25 (by decide) ?_
    refine r_callV (Y := M_X8_ofReceipt) (v := some (.int q2.1)) X I w_2307 my_X8_ofReceipt (by omega) (t_X8_ofReceipt (G := G) (d := d + 6) h4) (b_X8_ofReceipt h4) rfl rfl hl.1 rfl (Nat.le_of_ble_eq_true rfl) hn le7 dX8_dearer_26 (fun H locs cells slots I hn1 hn2 => ?_)
    have I : s_I G q2.2 s H locs := I
    have hn : cells + σ0.2.1 ≤ q2.2.2.1 ∧ slots + σ0.2.2.1 ≤ q2.2.2.2.1 := ⟨hn1, hn2⟩
    refine lv_iconst (v := 2) hx hb dX8_dearer_29 (by decide) ?_
    refine r_callV (Y := M_X8_ofLine) (v := some (.int q3.1)) X I w_2015 my_X8_ofLine (by omega) (t_X8_ofLine (G := G) (d := d + 6) h5) (b_X8_ofLine h5) rfl rfl hl.1 rfl (Nat.le_of_ble_eq_true rfl) hn le6 dX8_dearer_30 (fun H locs cells slots I hn1 hn2 => ?_)
    have I : s_I G q3.2 s H locs := I
    have hn : cells + σ0.2.1 ≤ q3.2.2.1 ∧ slots + σ0.2.2.1 ≤ q3.2.2.2.1 := ⟨hn1, hn2⟩
    refine lv_bipush (v := 15) hx hb dX8_dearer_33 (by decide) ?_
    rcases s_ite hf with ⟨c8, hf⟩ | ⟨c8, hf⟩
    · refine lv_icmp_ne (tgt := 63) hx hb dX8_dearer_35 (by decide) (fun n => absurd c8 n) (fun _ => ?_)
      obtain ⟨q4, h9, hf⟩ := s_bind hf
      obtain ⟨q5, h10, hf⟩ := s_bind hf
      obtain ⟨q6, h11, hf⟩ := s_bind hf
      have le12 : s_le q6.2 (e_I r).2 := by
        refine s_lek hem_I ?_ k
        rcases s_ite hf with ⟨-, hf⟩ | ⟨-, hf⟩
        · cases hf
          exact s_le.rf
        · cases hf
          exact s_le.rf
      have le13 := s_le.tr (l_X8_spentBy h11) le12
      have le14 := s_le.tr (l_X8_ofReceipt h10) le13
      refine lv_aload_n hx hb dX8_dearer_38 rfl (lv_at hl 0 rfl) ?_
      refine lv_iload_n hx hb dX8_dearer_39 rfl (lv_at hl 2 rfl) ?_
      refine lv_iconst (v := 2) hx hb dX8_dearer_40 (by decide) ?_
      refine r_callV (Y := M_X8_ofReceipt) (v := some (.int q4.1)) X I w_2307 my_X8_ofReceipt (by omega) (t_X8_ofReceipt (G := G) (d := d + 6) h9) (b_X8_ofReceipt h9) rfl rfl hl.1 rfl (Nat.le_of_ble_eq_true rfl) hn le14 dX8_dearer_41 (fun H locs cells slots I hn1 hn2 => ?_)
      have I : s_I G q4.2 s H locs := I
      have hn : cells + σ0.2.1 ≤ q4.2.2.1 ∧ slots + σ0.2.2.1 ≤ q4.2.2.2.1 := ⟨hn1, hn2⟩
      refine lv_aload_n hx hb dX8_dearer_44 rfl (lv_at hl 0 rfl) ?_
      refine lv_aload_n hx hb dX8_dearer_45 rfl (lv_at hl 0 rfl) ?_
      refine lv_iload_n hx hb dX8_dearer_46 rfl (lv_at hl 2 rfl) ?_
      refine lv_iconst (v := 0) hx hb dX8_dearer_47 (by decide) ?_
      refine r_callV (Y := M_X8_ofReceipt) (v := some (.int q5.1)) X I w_2307 my_X8_ofReceipt (by omega) (t_X8_ofReceipt (G := G) (d := d + 6) h10) (b_X8_ofReceipt h10) rfl rfl hl.1 rfl (Nat.le_of_ble_eq_true rfl) hn le13 dX8_dearer_48 (fun H locs cells slots I hn1 hn2 => ?_)
      have I : s_I G q5.2 s H locs := I
      have hn : cells + σ0.2.1 ≤ q5.2.2.1 ∧ slots + σ0.2.2.1 ≤ q5.2.2.2.1 := ⟨hn1, hn2⟩
      refine r_callV (Y := M_X8_spentBy) (v := some (.int q6.1)) X I w_2120 my_X8_spentBy (by omega) (t_X8_spentBy (G := G) (d := d + 4) h11) (b_X8_spentBy h11) rfl rfl hl.1 rfl (Nat.le_of_ble_eq_true rfl) hn le12 dX8_dearer_51 (fun H locs cells slots I hn1 hn2 => ?_)
      have I : s_I G q6.2 s H locs := I
      have hn : cells + σ0.2.1 ≤ q6.2.2.1 ∧ slots + σ0.2.2.1 ≤ q6.2.2.2.1 := ⟨hn1, hn2⟩
      rcases s_ite hf with ⟨c15, hf⟩ | ⟨c15, hf⟩
      · refine lv_icmp_le (tgt := 63) hx hb dX8_dearer_54 (by decide) (fun _ => ?_) (fun n => absurd c15 n)
        cases hf
        have k : s_V G (d + 8) M_X8_dearer vs0 σ0 Y_X8_dearer (63, [.ref v0, .int v2, .int v1], q6.2) (e_I r) := k
        exact k.2 p e s m below meth c _ _ _ _ _ X I hn.1 hn.2 (lv_sub hl [0, 2] rfl)
      · refine lv_icmp_le (tgt := 63) hx hb dX8_dearer_54 (by decide) (fun n => absurd n c15) (fun _ => ?_)
        cases hf
        have k : s_V G (d + 8) M_X8_dearer vs0 σ0 Y_X8_dearer (64, [.ref v0, .int v2, .int (1 <<< (v2 &&& 31)), .int v1], q6.2) (e_I r) := k
        refine lv_iconst (v := 1) hx hb dX8_dearer_57 (by decide) ?_
        refine lv_iload_n hx hb dX8_dearer_58 rfl (lv_at hl 2 rfl) ?_
        refine lv_ishl hx hb dX8_dearer_59 ?_
        refine lv_goto (tgt := 64) hx hb dX8_dearer_60 (by decide) ?_
        exact k.2 p e s m below meth c _ _ _ _ _ X I hn.1 hn.2 (lv_sub hl [0, 2] rfl)
    · refine lv_icmp_ne (tgt := 63) hx hb dX8_dearer_35 (by decide) (fun _ => ?_) (fun n => absurd n c8)
      cases hf
      have k : s_V G (d + 8) M_X8_dearer vs0 σ0 Y_X8_dearer (63, [.ref v0, .int v2, .int v1], q3.2) (e_I r) := k
      exact k.2 p e s m below meth c _ _ _ _ _ X I hn.1 hn.2 (lv_sub hl [0, 2] rfl)
set_option maxRecDepth 100000 in
set_option maxHeartbeats 4000000 in
theorem v_X8_dearer_63 {G : sG} {d : Nat} {vs0 : List Value} {σ0 : sS} {v0 : Nat} {v2 : Int32} {w0 : Int32} {σ : sS} {z : sZ Int32} {r : Int32 × sS} (hf : T_X8_dearer_63 v0 v2 w0 σ = some z) (k : s_K G (d + 8) M_X8_dearer vs0 σ0 Y_X8_dearer e_I z r) : s_V G (d + 8) M_X8_dearer vs0 σ0 Y_X8_dearer (63, [.ref v0, .int v2, .int w0], σ) (e_I r) := by
  have le0 : s_le σ (e_I r).2 := s_lek hem_I (l_X8_dearer_63 hf) k
  refine ⟨le0, ?_⟩
  intro p e s m below meth c H locs cells slots ls X I hn1 hn2 hl
  have hn : cells + σ0.2.1 ≤ σ.2.1 ∧ slots + σ0.2.2.1 ≤ σ.2.2.1 := ⟨hn1, hn2⟩
  have hl : lv_has ls 3 [(0, .ref v0), (2, .int v2)] := hl
  have hx := X.1
  have hb : c.code = cX8_dearer := X.2.1
  have hown : s.vm.findClass RX8 = some m.cls := X.2.2.2.2.2.1
  have hts := X.2.2.2.2.2.2.1
  refine W.eq (g2 := F0 m 63 ls [.int w0]) rfl ?_
  unfold T_X8_dearer_63 at hf
  cases hf
  have k : s_V G (d + 8) M_X8_dearer vs0 σ0 Y_X8_dearer (64, [.ref v0, .int v2, .int 0, .int w0], σ) (e_I r) := k
  refine lv_iconst (v := 0) hx hb dX8_dearer_63 (by decide) ?_
  exact k.2 p e s m below meth c _ _ _ _ _ X I hn.1 hn.2 (lv_sub hl [0, 1] rfl)
set_option maxRecDepth 100000 in
set_option maxHeartbeats 4000000 in
theorem v_X8_dearer_64 {G : sG} {d : Nat} {vs0 : List Value} {σ0 : sS} {v0 : Nat} {v2 : Int32} {w0 : Int32} {w1 : Int32} {σ : sS} {z : sZ Int32} {r : Int32 × sS} (hf : T_X8_dearer_64 v0 v2 w0 w1 σ = some z) (k : s_K G (d + 8) M_X8_dearer vs0 σ0 Y_X8_dearer e_I z r) : s_V G (d + 8) M_X8_dearer vs0 σ0 Y_X8_dearer (64, [.ref v0, .int v2, .int w0, .int w1], σ) (e_I r) := by
  have le0 : s_le σ (e_I r).2 := s_lek hem_I (l_X8_dearer_64 hf) k
  refine ⟨le0, ?_⟩
  intro p e s m below meth c H locs cells slots ls X I hn1 hn2 hl
  have hn : cells + σ0.2.1 ≤ σ.2.1 ∧ slots + σ0.2.2.1 ≤ σ.2.2.1 := ⟨hn1, hn2⟩
  have hl : lv_has ls 3 [(0, .ref v0), (2, .int v2)] := hl
  have hx := X.1
  have hb : c.code = cX8_dearer := X.2.1
  have hown : s.vm.findClass RX8 = some m.cls := X.2.2.2.2.2.1
  have hts := X.2.2.2.2.2.2.1
  refine W.eq (g2 := F0 m 64 ls [.int w0, .int w1]) rfl ?_
  unfold T_X8_dearer_64 at hf
  cases hf
  have k : s_V G (d + 8) M_X8_dearer vs0 σ0 Y_X8_dearer (13, [.ref v0, .int (w1 ||| w0), .int (v2 + 1)], σ) (e_I r) := k
  refine lv_ior hx hb dX8_dearer_64 ?_
  refine lv_istore_n (lv' := [(1, .int (w1 ||| w0)), (0, .ref v0), (2, .int v2)]) hx hb dX8_dearer_65 rfl hl (by decide) rfl (fun ls hl => ?_)
  refine lv_iinc (v := (v2 + 1)) (lv' := [(2, .int (v2 + 1)), (1, .int (w1 ||| w0)), (0, .ref v0)]) hx hb dX8_dearer_66 hl (k := 2) rfl rfl (by decide) rfl (fun ls hl => ?_)
  refine lv_goto (tgt := 13) hx hb dX8_dearer_69 (by decide) ?_
  exact k.2 p e s m below meth c _ _ _ _ _ X I hn.1 hn.2 (lv_sub hl [2, 1, 0] rfl)
theorem v_X8_dearer {G : sG} {d : Nat} {vs0 : List Value} {σ0 : sS} {x : sL} {z : sZ Int32} {r : Int32 × sS} (hs : S_X8_dearer x = some z) (k : s_K G (d + 8) M_X8_dearer vs0 σ0 Y_X8_dearer e_I z r) : s_V G (d + 8) M_X8_dearer vs0 σ0 Y_X8_dearer x (e_I r) := by
  obtain ⟨pc, vs, σ⟩ := x
  unfold S_X8_dearer at hs
  dsimp only at hs
  rcases s_ite hs with ⟨c, hs⟩ | ⟨-, hs⟩
  · subst c
    unfold U_X8_dearer_0 at hs
    obtain ⟨a0, g0, hs⟩ := s_bind hs
    obtain ⟨u9, ge, hs⟩ := s_bind hs
    rw [g_r_to g0, g_e_to ge]
    exact v_X8_dearer_0 hs k
  rcases s_ite hs with ⟨c, hs⟩ | ⟨-, hs⟩
  · subst c
    unfold U_X8_dearer_13 at hs
    obtain ⟨a0, g0, hs⟩ := s_bind hs
    obtain ⟨a1, g1, hs⟩ := s_bind hs
    obtain ⟨a2, g2, hs⟩ := s_bind hs
    obtain ⟨u9, ge, hs⟩ := s_bind hs
    rw [g_r_to g0, g_i_to g1, g_i_to g2, g_e_to ge]
    exact v_X8_dearer_13 hs k
  rcases s_ite hs with ⟨c, hs⟩ | ⟨-, hs⟩
  · subst c
    unfold U_X8_dearer_63 at hs
    obtain ⟨a0, g0, hs⟩ := s_bind hs
    obtain ⟨a1, g1, hs⟩ := s_bind hs
    obtain ⟨a2, g2, hs⟩ := s_bind hs
    obtain ⟨u9, ge, hs⟩ := s_bind hs
    rw [g_r_to g0, g_i_to g1, g_i_to g2, g_e_to ge]
    exact v_X8_dearer_63 hs k
  rcases s_ite hs with ⟨c, hs⟩ | ⟨-, hs⟩
  · subst c
    unfold U_X8_dearer_64 at hs
    obtain ⟨a0, g0, hs⟩ := s_bind hs
    obtain ⟨a1, g1, hs⟩ := s_bind hs
    obtain ⟨a2, g2, hs⟩ := s_bind hs
    obtain ⟨a3, g3, hs⟩ := s_bind hs
    obtain ⟨u9, ge, hs⟩ := s_bind hs
    rw [g_r_to g0, g_i_to g1, g_i_to g2, g_i_to g3, g_e_to ge]
    exact v_X8_dearer_64 hs k
  cases hs
theorem t_X8_dearer {G : sG} {d : Nat} {v0 : Nat} {σ : sS} {q : Int32 × sS} (h : F_X8_dearer v0 σ = some q) : s_T G (d + 8) M_X8_dearer [.ref v0] σ (e_I q) := by
  unfold F_X8_dearer at h
  obtain ⟨-, -, h⟩ := s_bind h
  exact s_ofV rfl (by decide) (Nat.le_of_ble_eq_true rfl) rfl rfl (s_run_ind (V := fun x r => s_V G (d + 8) M_X8_dearer [.ref v0] σ Y_X8_dearer x (e_I r)) (fun x z r hs hk => v_X8_dearer hs (by cases z <;> exact hk)) h)
/-! X8_chain -/
noncomputable def T_X8_chain_0 (v0 : Nat) (v1 : Int32) (σ : sS) : Option (sZ Int32) :=
  (s_pf σ v0 8 0 (.int 0)).bind fun σ1 =>
  (F_X8_noLine v0 v1 σ1).bind fun q2 =>
  (F_X8_throwsIf v0 q2.1 1 q2.2).bind fun q3 =>
  if q3.1 = 0 then (some (.inl (24, [.ref v0, .int 0, .int v1], q3.2)))
  else (some (.inr (0, q3.2)))
noncomputable def U_X8_chain_0 (vs : List Value) (σ : sS) : Option (sZ Int32) := (g_r vs).bind fun a0 => (g_i a0.2).bind fun a1 => (g_e a1.2).bind fun _ => T_X8_chain_0 a0.1 a1.1 σ
noncomputable def T_X8_chain_24 (v0 : Nat) (v2 : Int32) (v3 : Int32) (σ : sS) : Option (sZ Int32) :=
  if v3 < 0 then (some (.inr (v2, σ)))
  else ((F_X8_ofLine v0 v3 2 σ).bind fun q1 =>
  if q1.1 = 15 then ((F_X8_premise v0 v3 0 q1.2).bind fun q2 =>
  some (.inl (24, [.ref v0, .int (v2 + 1), .int q2.1], q2.2)))
  else (some (.inr (v2, q1.2))))
noncomputable def U_X8_chain_24 (vs : List Value) (σ : sS) : Option (sZ Int32) := (g_r vs).bind fun a0 => (g_i a0.2).bind fun a1 => (g_i a1.2).bind fun a2 => (g_e a2.2).bind fun _ => T_X8_chain_24 a0.1 a1.1 a2.1 σ
noncomputable def S_X8_chain (x : sL) : Option (sZ Int32) := if x.1 = 0 then U_X8_chain_0 x.2.1 x.2.2 else if x.1 = 24 then U_X8_chain_24 x.2.1 x.2.2 else none
def Y_X8_chain (pc : Nat) : List Nat := if pc = 0 then [0, 1] else if pc = 24 then [0, 2, 3] else []
noncomputable def F_X8_chain (v0 : Nat) (v1 : Int32) (σ : sS) : Option (Int32 × sS) := (s_is σ v0 8).bind fun _ => s_run S_X8_chain (0, [.ref v0, .int v1], σ)
theorem l_X8_chain_0 {v0 : Nat} {v1 : Int32} {σ : sS} {z : sZ Int32} (hf : T_X8_chain_0 v0 v1 σ = some z) : s_lz σ z := by
  unfold T_X8_chain_0 at hf
  obtain ⟨σ1, hh, hf⟩ := s_bind hf
  refine s_lz.tr (s_le2 (s_pf_2 hh)) ?_
  obtain ⟨q2, hh, hf⟩ := s_bind hf
  refine s_lz.tr (l_X8_noLine hh) ?_
  obtain ⟨q3, hh, hf⟩ := s_bind hf
  refine s_lz.tr (l_X8_throwsIf hh) ?_
  rcases s_ite hf with ⟨-, hf⟩ | ⟨-, hf⟩
  · cases hf
    exact s_le.rf
  · cases hf
    exact s_le.rf
theorem l_X8_chain_24 {v0 : Nat} {v2 : Int32} {v3 : Int32} {σ : sS} {z : sZ Int32} (hf : T_X8_chain_24 v0 v2 v3 σ = some z) : s_lz σ z := by
  unfold T_X8_chain_24 at hf
  rcases s_ite hf with ⟨-, hf⟩ | ⟨-, hf⟩
  · cases hf
    exact s_le.rf
  · obtain ⟨q1, hh, hf⟩ := s_bind hf
    refine s_lz.tr (l_X8_ofLine hh) ?_
    rcases s_ite hf with ⟨-, hf⟩ | ⟨-, hf⟩
    · obtain ⟨q2, hh, hf⟩ := s_bind hf
      refine s_lz.tr (l_X8_premise hh) ?_
      cases hf
      exact s_le.rf
    · cases hf
      exact s_le.rf
theorem l_X8_chain_s {x : sL} {z : sZ Int32} (hs : S_X8_chain x = some z) : s_lz x.2.2 z := by
  obtain ⟨pc, vs, σ⟩ := x
  unfold S_X8_chain at hs
  dsimp only at hs ⊢
  rcases s_ite hs with ⟨c, hs⟩ | ⟨-, hs⟩
  · subst c
    unfold U_X8_chain_0 at hs
    obtain ⟨a0, g0, hs⟩ := s_bind hs
    obtain ⟨a1, g1, hs⟩ := s_bind hs
    obtain ⟨u9, ge, hs⟩ := s_bind hs
    exact l_X8_chain_0 hs
  rcases s_ite hs with ⟨c, hs⟩ | ⟨-, hs⟩
  · subst c
    unfold U_X8_chain_24 at hs
    obtain ⟨a0, g0, hs⟩ := s_bind hs
    obtain ⟨a1, g1, hs⟩ := s_bind hs
    obtain ⟨a2, g2, hs⟩ := s_bind hs
    obtain ⟨u9, ge, hs⟩ := s_bind hs
    exact l_X8_chain_24 hs
  cases hs
theorem l_X8_chain {v0 : Nat} {v1 : Int32} {σ : sS} {q : Int32 × sS} (h : F_X8_chain v0 v1 σ = some q) : s_le σ q.2 := by
  unfold F_X8_chain at h
  obtain ⟨-, -, h⟩ := s_bind h
  exact s_run_ind (V := fun x r => s_le x.2.2 r.2) (fun x z r hs hk => by
    have h9 := l_X8_chain_s hs
    cases z with
    | inl y => exact s_le.tr h9 hk
    | inr q => cases hk; exact h9) h
theorem b_X8_chain {v0 : Nat} {v1 : Int32} {σ : sS} {q : Int32 × sS} (h : F_X8_chain v0 v1 σ = some q) : ∃ fs, σ.1 v0 = some (.inr (8, fs)) := by
  unfold F_X8_chain at h
  obtain ⟨u, hu, -⟩ := s_bind h
  exact s_is_to hu
set_option maxRecDepth 100000 in
set_option maxHeartbeats 4000000 in
theorem v_X8_chain_0 {G : sG} {d : Nat} {vs0 : List Value} {σ0 : sS} {v0 : Nat} {v1 : Int32} {σ : sS} {z : sZ Int32} {r : Int32 × sS} (hf : T_X8_chain_0 v0 v1 σ = some z) (k : s_K G (d + 3) M_X8_chain vs0 σ0 Y_X8_chain e_I z r) : s_V G (d + 3) M_X8_chain vs0 σ0 Y_X8_chain (0, [.ref v0, .int v1], σ) (e_I r) := by
  have le0 : s_le σ (e_I r).2 := s_lek hem_I (l_X8_chain_0 hf) k
  refine ⟨le0, ?_⟩
  intro p e s m below meth c H locs cells slots ls X I hn1 hn2 hl
  have hn : cells + σ0.2.1 ≤ σ.2.1 ∧ slots + σ0.2.2.1 ≤ σ.2.2.1 := ⟨hn1, hn2⟩
  have hl : lv_has ls 4 [(0, .ref v0), (1, .int v1)] := hl
  have hx := X.1
  have hb : c.code = cX8_chain := X.2.1
  have hown : s.vm.findClass RX8 = some m.cls := X.2.2.2.2.2.1
  have hts := X.2.2.2.2.2.2.1
  refine W.eq (g2 := F0 m 0 ls []) rfl ?_
  unfold T_X8_chain_0 at hf
  obtain ⟨σ1, h1, hf⟩ := s_bind hf
  obtain ⟨q2, h2, hf⟩ := s_bind hf
  obtain ⟨q3, h3, hf⟩ := s_bind hf
  have le4 : s_le q3.2 (e_I r).2 := by
    refine s_lek hem_I ?_ k
    rcases s_ite hf with ⟨-, hf⟩ | ⟨-, hf⟩
    · cases hf
      exact s_le.rf
    · cases hf
      exact s_le.rf
  have le5 := s_le.tr (l_X8_throwsIf h3) le4
  have le6 := s_le.tr (l_X8_noLine h2) le5
  refine lv_aload_n hx hb dX8_chain_0 rfl (lv_at hl 0 rfl) ?_
  refine lv_iconst (v := 0) hx hb dX8_chain_1 (by decide) ?_
  refine r_put X I fp_X8_3 (fun h => by cases h) h1 rfl rfl dX8_chain_2 (fun H locs I => ?_)
  have hn := s_k2 (s_pf_2 h1) hn
  refine lv_aload_n hx hb dX8_chain_5 rfl (lv_at hl 0 rfl) ?_
  refine lv_aload_n hx hb dX8_chain_6 rfl (lv_at hl 0 rfl) ?_
  refine lv_iload_n hx hb dX8_chain_7 rfl (lv_at hl 1 rfl) ?_
  refine r_callV (Y := M_X8_noLine) (v := some (.int q2.1)) X I w_1999 my_X8_noLine (by omega) (t_X8_noLine (G := G) (d := d + 0) h2) (b_X8_noLine h2) rfl rfl hl.1 rfl (Nat.le_of_ble_eq_true rfl) hn le5 dX8_chain_8 (fun H locs cells slots I hn1 hn2 => ?_)
  have I : s_I G q2.2 s H locs := I
  have hn : cells + σ0.2.1 ≤ q2.2.2.1 ∧ slots + σ0.2.2.1 ≤ q2.2.2.2.1 := ⟨hn1, hn2⟩
  refine lv_iconst (v := 1) hx hb dX8_chain_11 (by decide) ?_
  refine r_callV (Y := M_X8_throwsIf) (v := some (.int q3.1)) X I w_1897 my_X8_throwsIf (by omega) (t_X8_throwsIf (G := G) (d := d + 1) h3) (b_X8_throwsIf h3) rfl rfl hl.1 rfl (Nat.le_of_ble_eq_true rfl) hn le4 dX8_chain_12 (fun H locs cells slots I hn1 hn2 => ?_)
  have I : s_I G q3.2 s H locs := I
  have hn : cells + σ0.2.1 ≤ q3.2.2.1 ∧ slots + σ0.2.2.1 ≤ q3.2.2.2.1 := ⟨hn1, hn2⟩
  rcases s_ite hf with ⟨c7, hf⟩ | ⟨c7, hf⟩
  · refine lv_if_eq (tgt := 20) hx hb dX8_chain_15 (by decide) (fun _ => ?_) (fun n => absurd c7 n)
    cases hf
    have k : s_V G (d + 3) M_X8_chain vs0 σ0 Y_X8_chain (24, [.ref v0, .int 0, .int v1], q3.2) (e_I r) := k
    refine lv_iconst (v := 0) hx hb dX8_chain_20 (by decide) ?_
    refine lv_istore_n (lv' := [(2, .int 0), (0, .ref v0), (1, .int v1)]) hx hb dX8_chain_21 rfl hl (by decide) rfl (fun ls hl => ?_)
    refine lv_iload_n hx hb dX8_chain_22 rfl (lv_at hl 2 rfl) ?_
    refine lv_istore_n (lv' := [(3, .int v1), (2, .int 0), (0, .ref v0), (1, .int v1)]) hx hb dX8_chain_23 rfl hl (by decide) rfl (fun ls hl => ?_)
    exact k.2 p e s m below meth c _ _ _ _ _ X I hn.1 hn.2 (lv_sub hl [2, 1, 0] rfl)
  · refine lv_if_eq (tgt := 20) hx hb dX8_chain_15 (by decide) (fun n => absurd n c7) (fun _ => ?_)
    cases hf
    have k : _ = r := k
    subst k
    refine lv_iconst (v := 0) hx hb dX8_chain_18 (by decide) ?_
    exact r_iret X I rfl rfl rfl hn dX8_chain_19
set_option maxRecDepth 100000 in
set_option maxHeartbeats 4000000 in
theorem v_X8_chain_24 {G : sG} {d : Nat} {vs0 : List Value} {σ0 : sS} {v0 : Nat} {v2 : Int32} {v3 : Int32} {σ : sS} {z : sZ Int32} {r : Int32 × sS} (hf : T_X8_chain_24 v0 v2 v3 σ = some z) (k : s_K G (d + 3) M_X8_chain vs0 σ0 Y_X8_chain e_I z r) : s_V G (d + 3) M_X8_chain vs0 σ0 Y_X8_chain (24, [.ref v0, .int v2, .int v3], σ) (e_I r) := by
  have le0 : s_le σ (e_I r).2 := s_lek hem_I (l_X8_chain_24 hf) k
  refine ⟨le0, ?_⟩
  intro p e s m below meth c H locs cells slots ls X I hn1 hn2 hl
  have hn : cells + σ0.2.1 ≤ σ.2.1 ∧ slots + σ0.2.2.1 ≤ σ.2.2.1 := ⟨hn1, hn2⟩
  have hl : lv_has ls 4 [(0, .ref v0), (2, .int v2), (3, .int v3)] := hl
  have hx := X.1
  have hb : c.code = cX8_chain := X.2.1
  have hown : s.vm.findClass RX8 = some m.cls := X.2.2.2.2.2.1
  have hts := X.2.2.2.2.2.2.1
  refine W.eq (g2 := F0 m 24 ls []) rfl ?_
  unfold T_X8_chain_24 at hf
  refine lv_iload_n hx hb dX8_chain_24 rfl (lv_at hl 2 rfl) ?_
  rcases s_ite hf with ⟨c1, hf⟩ | ⟨c1, hf⟩
  · refine lv_if_lt (tgt := 52) hx hb dX8_chain_25 (by decide) (fun _ => ?_) (fun n => absurd c1 n)
    cases hf
    have k : _ = r := k
    subst k
    refine lv_iload_n hx hb dX8_chain_52 rfl (lv_at hl 1 rfl) ?_
    exact r_iret X I rfl rfl rfl hn dX8_chain_53
  · refine lv_if_lt (tgt := 52) hx hb dX8_chain_25 (by decide) (fun n => absurd n c1) (fun _ => ?_)
    obtain ⟨q1, h2, hf⟩ := s_bind hf
    have le3 : s_le q1.2 (e_I r).2 := by
      refine s_lek hem_I ?_ k
      rcases s_ite hf with ⟨-, hf⟩ | ⟨-, hf⟩
      · obtain ⟨q2, hh, hf⟩ := s_bind hf
        refine s_lz.tr (l_X8_premise hh) ?_
        cases hf
        exact s_le.rf
      · cases hf
        exact s_le.rf
    refine lv_aload_n hx hb dX8_chain_28 rfl (lv_at hl 0 rfl) ?_
    refine lv_iload_n hx hb dX8_chain_29 rfl (lv_at hl 2 rfl) ?_
    refine lv_iconst (v := 2) hx hb dX8_chain_30 (by decide) ?_
    refine r_callV (Y := M_X8_ofLine) (v := some (.int q1.1)) X I w_2015 my_X8_ofLine (by omega) (t_X8_ofLine (G := G) (d := d + 1) h2) (b_X8_ofLine h2) rfl rfl hl.1 rfl (Nat.le_of_ble_eq_true rfl) hn le3 dX8_chain_31 (fun H locs cells slots I hn1 hn2 => ?_)
    have I : s_I G q1.2 s H locs := I
    have hn : cells + σ0.2.1 ≤ q1.2.2.1 ∧ slots + σ0.2.2.1 ≤ q1.2.2.2.1 := ⟨hn1, hn2⟩
    refine lv_bipush (v := 15) hx hb dX8_chain_34 (by decide) ?_
    rcases s_ite hf with ⟨c4, hf⟩ | ⟨c4, hf⟩
    · refine lv_icmp_ne (tgt := 52) hx hb dX8_chain_36 (by decide) (fun n => absurd c4 n) (fun _ => ?_)
      obtain ⟨q2, h5, hf⟩ := s_bind hf
      cases hf
      have k : s_V G (d + 3) M_X8_chain vs0 σ0 Y_X8_chain (24, [.ref v0, .int (v2 + 1), .int q2.1], q2.2) (e_I r) := k
      have le6 : s_le q2.2 (e_I r).2 := k.1
      refine lv_iinc (v := (v2 + 1)) (lv' := [(2, .int (v2 + 1)), (0, .ref v0), (3, .int v3)]) hx hb dX8_chain_39 hl (k := 1) rfl rfl (by decide) rfl (fun ls hl => ?_)
      refine lv_aload_n hx hb dX8_chain_42 rfl (lv_at hl 1 rfl) ?_
      refine lv_iload_n hx hb dX8_chain_43 rfl (lv_at hl 2 rfl) ?_
      refine lv_iconst (v := 0) hx hb dX8_chain_44 (by decide) ?_
      refine r_callV (Y := M_X8_premise) (v := some (.int q2.1)) X I w_2043 my_X8_premise (by omega) (t_X8_premise (G := G) (d := d + 0) h5) (b_X8_premise h5) rfl rfl hl.1 rfl (Nat.le_of_ble_eq_true rfl) hn le6 dX8_chain_45 (fun H locs cells slots I hn1 hn2 => ?_)
      have I : s_I G q2.2 s H locs := I
      have hn : cells + σ0.2.1 ≤ q2.2.2.1 ∧ slots + σ0.2.2.1 ≤ q2.2.2.2.1 := ⟨hn1, hn2⟩
      refine lv_istore_n (lv' := [(3, .int q2.1), (2, .int (v2 + 1)), (0, .ref v0)]) hx hb dX8_chain_48 rfl hl (by decide) rfl (fun ls hl => ?_)
      refine lv_goto (tgt := 24) hx hb dX8_chain_49 (by decide) ?_
      exact k.2 p e s m below meth c _ _ _ _ _ X I hn.1 hn.2 (lv_sub hl [2, 1, 0] rfl)
    · refine lv_icmp_ne (tgt := 52) hx hb dX8_chain_36 (by decide) (fun _ => ?_) (fun n => absurd n c4)
      cases hf
      have k : _ = r := k
      subst k
      refine lv_iload_n hx hb dX8_chain_52 rfl (lv_at hl 1 rfl) ?_
      exact r_iret X I rfl rfl rfl hn dX8_chain_53
theorem v_X8_chain {G : sG} {d : Nat} {vs0 : List Value} {σ0 : sS} {x : sL} {z : sZ Int32} {r : Int32 × sS} (hs : S_X8_chain x = some z) (k : s_K G (d + 3) M_X8_chain vs0 σ0 Y_X8_chain e_I z r) : s_V G (d + 3) M_X8_chain vs0 σ0 Y_X8_chain x (e_I r) := by
  obtain ⟨pc, vs, σ⟩ := x
  unfold S_X8_chain at hs
  dsimp only at hs
  rcases s_ite hs with ⟨c, hs⟩ | ⟨-, hs⟩
  · subst c
    unfold U_X8_chain_0 at hs
    obtain ⟨a0, g0, hs⟩ := s_bind hs
    obtain ⟨a1, g1, hs⟩ := s_bind hs
    obtain ⟨u9, ge, hs⟩ := s_bind hs
    rw [g_r_to g0, g_i_to g1, g_e_to ge]
    exact v_X8_chain_0 hs k
  rcases s_ite hs with ⟨c, hs⟩ | ⟨-, hs⟩
  · subst c
    unfold U_X8_chain_24 at hs
    obtain ⟨a0, g0, hs⟩ := s_bind hs
    obtain ⟨a1, g1, hs⟩ := s_bind hs
    obtain ⟨a2, g2, hs⟩ := s_bind hs
    obtain ⟨u9, ge, hs⟩ := s_bind hs
    rw [g_r_to g0, g_i_to g1, g_i_to g2, g_e_to ge]
    exact v_X8_chain_24 hs k
  cases hs
theorem t_X8_chain {G : sG} {d : Nat} {v0 : Nat} {v1 : Int32} {σ : sS} {q : Int32 × sS} (h : F_X8_chain v0 v1 σ = some q) : s_T G (d + 3) M_X8_chain [.ref v0, .int v1] σ (e_I q) := by
  unfold F_X8_chain at h
  obtain ⟨-, -, h⟩ := s_bind h
  exact s_ofV rfl (by decide) (Nat.le_of_ble_eq_true rfl) rfl rfl (s_run_ind (V := fun x r => s_V G (d + 3) M_X8_chain [.ref v0, .int v1] σ Y_X8_chain x (e_I r)) (fun x z r hs hk => v_X8_chain hs (by cases z <;> exact hk)) h)
/-! X1_take -/
noncomputable def T_X1_take_0 (v0 : Nat) (v1 : Nat) (σ : sS) : Option (sZ Unit) :=
  (s_fi σ v1 1 0).bind fun x1 =>
  (s_pf σ v0 1 0 (.int x1)).bind fun σ2 =>
  (s_fi σ2 v1 1 1).bind fun x3 =>
  (s_pf σ2 v0 1 1 (.int x3)).bind fun σ4 =>
  (s_fi σ4 v1 1 2).bind fun x5 =>
  (s_pf σ4 v0 1 2 (.int x5)).bind fun σ6 =>
  (s_fi σ6 v1 1 6).bind fun x7 =>
  (s_pf σ6 v0 1 6 (.int x7)).bind fun σ8 =>
  (s_fi σ8 v1 1 9).bind fun x9 =>
  (s_pf σ8 v0 1 9 (.int x9)).bind fun σ10 =>
  (s_fi σ10 v1 1 10).bind fun x11 =>
  (s_pf σ10 v0 1 10 (.int x11)).bind fun σ12 =>
  (s_fr σ12 v1 1 3).bind fun x13 =>
  (s_fr σ12 v0 1 3).bind fun x14 =>
  (s_fr σ12 v0 1 3).bind fun x15 =>
  (s_len σ12 x15).bind fun x16 =>
  (s_cpi σ12 x13 0 x14 0 x16).bind fun σ17 =>
  (s_fr σ17 v1 1 4).bind fun x18 =>
  (s_fr σ17 v0 1 4).bind fun x19 =>
  (s_fr σ17 v0 1 4).bind fun x20 =>
  (s_len σ17 x20).bind fun x21 =>
  (s_cpi σ17 x18 0 x19 0 x21).bind fun σ22 =>
  (s_fr σ22 v1 1 5).bind fun x23 =>
  (s_fr σ22 v0 1 5).bind fun x24 =>
  (s_fr σ22 v0 1 5).bind fun x25 =>
  (s_len σ22 x25).bind fun x26 =>
  (s_cpi σ22 x23 0 x24 0 x26).bind fun σ27 =>
  (s_fr σ27 v1 1 7).bind fun x28 =>
  (s_fr σ27 v0 1 7).bind fun x29 =>
  (s_fr σ27 v0 1 7).bind fun x30 =>
  (s_len σ27 x30).bind fun x31 =>
  (s_cpi σ27 x28 0 x29 0 x31).bind fun σ32 =>
  (s_fr σ32 v1 1 8).bind fun x33 =>
  (s_fr σ32 v0 1 8).bind fun x34 =>
  (s_fr σ32 v0 1 8).bind fun x35 =>
  (s_len σ32 x35).bind fun x36 =>
  (s_cpi σ32 x33 0 x34 0 x36).bind fun σ37 =>
  (s_fr σ37 v1 1 11).bind fun x38 =>
  (s_fr σ37 v0 1 11).bind fun x39 =>
  (s_fr σ37 v0 1 11).bind fun x40 =>
  (s_len σ37 x40).bind fun x41 =>
  (s_cpi σ37 x38 0 x39 0 x41).bind fun σ42 =>
  (s_fr σ42 v1 1 12).bind fun x43 =>
  (s_fr σ42 v0 1 12).bind fun x44 =>
  (s_fr σ42 v0 1 12).bind fun x45 =>
  (s_len σ42 x45).bind fun x46 =>
  (s_cpi σ42 x43 0 x44 0 x46).bind fun σ47 =>
  (s_fr σ47 v1 1 13).bind fun x48 =>
  (s_fr σ47 v0 1 13).bind fun x49 =>
  (s_fr σ47 v0 1 13).bind fun x50 =>
  (s_len σ47 x50).bind fun x51 =>
  (s_cpi σ47 x48 0 x49 0 x51).bind fun σ52 =>
  (s_fr σ52 v1 1 14).bind fun x53 =>
  (s_fr σ52 v0 1 14).bind fun x54 =>
  (s_fr σ52 v0 1 14).bind fun x55 =>
  (s_len σ52 x55).bind fun x56 =>
  (s_cpi σ52 x53 0 x54 0 x56).bind fun σ57 =>
  some (.inr ((), σ57))
noncomputable def U_X1_take_0 (vs : List Value) (σ : sS) : Option (sZ Unit) := (g_r vs).bind fun a0 => (g_r a0.2).bind fun a1 => (g_e a1.2).bind fun _ => T_X1_take_0 a0.1 a1.1 σ
noncomputable def S_X1_take (x : sL) : Option (sZ Unit) := if x.1 = 0 then U_X1_take_0 x.2.1 x.2.2 else none
def Y_X1_take (pc : Nat) : List Nat := if pc = 0 then [0, 1] else []
noncomputable def F_X1_take (v0 : Nat) (v1 : Nat) (σ : sS) : Option (Unit × sS) := (s_is σ v0 1).bind fun _ => s_run S_X1_take (0, [.ref v0, .ref v1], σ)
theorem l_X1_take_0 {v0 : Nat} {v1 : Nat} {σ : sS} {z : sZ Unit} (hf : T_X1_take_0 v0 v1 σ = some z) : s_lz σ z := by
  unfold T_X1_take_0 at hf
  obtain ⟨x1, -, hf⟩ := s_bind hf
  obtain ⟨σ2, hh, hf⟩ := s_bind hf
  refine s_lz.tr (s_le2 (s_pf_2 hh)) ?_
  obtain ⟨x3, -, hf⟩ := s_bind hf
  obtain ⟨σ4, hh, hf⟩ := s_bind hf
  refine s_lz.tr (s_le2 (s_pf_2 hh)) ?_
  obtain ⟨x5, -, hf⟩ := s_bind hf
  obtain ⟨σ6, hh, hf⟩ := s_bind hf
  refine s_lz.tr (s_le2 (s_pf_2 hh)) ?_
  obtain ⟨x7, -, hf⟩ := s_bind hf
  obtain ⟨σ8, hh, hf⟩ := s_bind hf
  refine s_lz.tr (s_le2 (s_pf_2 hh)) ?_
  obtain ⟨x9, -, hf⟩ := s_bind hf
  obtain ⟨σ10, hh, hf⟩ := s_bind hf
  refine s_lz.tr (s_le2 (s_pf_2 hh)) ?_
  obtain ⟨x11, -, hf⟩ := s_bind hf
  obtain ⟨σ12, hh, hf⟩ := s_bind hf
  refine s_lz.tr (s_le2 (s_pf_2 hh)) ?_
  obtain ⟨x13, -, hf⟩ := s_bind hf
  obtain ⟨x14, -, hf⟩ := s_bind hf
  obtain ⟨x15, -, hf⟩ := s_bind hf
  obtain ⟨x16, -, hf⟩ := s_bind hf
  obtain ⟨σ17, hh, hf⟩ := s_bind hf
  refine s_lz.tr (s_le2 (s_cpi_2 hh)) ?_
  obtain ⟨x18, -, hf⟩ := s_bind hf
  obtain ⟨x19, -, hf⟩ := s_bind hf
  obtain ⟨x20, -, hf⟩ := s_bind hf
  obtain ⟨x21, -, hf⟩ := s_bind hf
  obtain ⟨σ22, hh, hf⟩ := s_bind hf
  refine s_lz.tr (s_le2 (s_cpi_2 hh)) ?_
  obtain ⟨x23, -, hf⟩ := s_bind hf
  obtain ⟨x24, -, hf⟩ := s_bind hf
  obtain ⟨x25, -, hf⟩ := s_bind hf
  obtain ⟨x26, -, hf⟩ := s_bind hf
  obtain ⟨σ27, hh, hf⟩ := s_bind hf
  refine s_lz.tr (s_le2 (s_cpi_2 hh)) ?_
  obtain ⟨x28, -, hf⟩ := s_bind hf
  obtain ⟨x29, -, hf⟩ := s_bind hf
  obtain ⟨x30, -, hf⟩ := s_bind hf
  obtain ⟨x31, -, hf⟩ := s_bind hf
  obtain ⟨σ32, hh, hf⟩ := s_bind hf
  refine s_lz.tr (s_le2 (s_cpi_2 hh)) ?_
  obtain ⟨x33, -, hf⟩ := s_bind hf
  obtain ⟨x34, -, hf⟩ := s_bind hf
  obtain ⟨x35, -, hf⟩ := s_bind hf
  obtain ⟨x36, -, hf⟩ := s_bind hf
  obtain ⟨σ37, hh, hf⟩ := s_bind hf
  refine s_lz.tr (s_le2 (s_cpi_2 hh)) ?_
  obtain ⟨x38, -, hf⟩ := s_bind hf
  obtain ⟨x39, -, hf⟩ := s_bind hf
  obtain ⟨x40, -, hf⟩ := s_bind hf
  obtain ⟨x41, -, hf⟩ := s_bind hf
  obtain ⟨σ42, hh, hf⟩ := s_bind hf
  refine s_lz.tr (s_le2 (s_cpi_2 hh)) ?_
  obtain ⟨x43, -, hf⟩ := s_bind hf
  obtain ⟨x44, -, hf⟩ := s_bind hf
  obtain ⟨x45, -, hf⟩ := s_bind hf
  obtain ⟨x46, -, hf⟩ := s_bind hf
  obtain ⟨σ47, hh, hf⟩ := s_bind hf
  refine s_lz.tr (s_le2 (s_cpi_2 hh)) ?_
  obtain ⟨x48, -, hf⟩ := s_bind hf
  obtain ⟨x49, -, hf⟩ := s_bind hf
  obtain ⟨x50, -, hf⟩ := s_bind hf
  obtain ⟨x51, -, hf⟩ := s_bind hf
  obtain ⟨σ52, hh, hf⟩ := s_bind hf
  refine s_lz.tr (s_le2 (s_cpi_2 hh)) ?_
  obtain ⟨x53, -, hf⟩ := s_bind hf
  obtain ⟨x54, -, hf⟩ := s_bind hf
  obtain ⟨x55, -, hf⟩ := s_bind hf
  obtain ⟨x56, -, hf⟩ := s_bind hf
  obtain ⟨σ57, hh, hf⟩ := s_bind hf
  refine s_lz.tr (s_le2 (s_cpi_2 hh)) ?_
  cases hf
  exact s_le.rf
theorem l_X1_take_s {x : sL} {z : sZ Unit} (hs : S_X1_take x = some z) : s_lz x.2.2 z := by
  obtain ⟨pc, vs, σ⟩ := x
  unfold S_X1_take at hs
  dsimp only at hs ⊢
  rcases s_ite hs with ⟨c, hs⟩ | ⟨-, hs⟩
  · subst c
    unfold U_X1_take_0 at hs
    obtain ⟨a0, g0, hs⟩ := s_bind hs
    obtain ⟨a1, g1, hs⟩ := s_bind hs
    obtain ⟨u9, ge, hs⟩ := s_bind hs
    exact l_X1_take_0 hs
  cases hs
theorem l_X1_take {v0 : Nat} {v1 : Nat} {σ : sS} {q : Unit × sS} (h : F_X1_take v0 v1 σ = some q) : s_le σ q.2 := by
  unfold F_X1_take at h
  obtain ⟨-, -, h⟩ := s_bind h
  exact s_run_ind (V := fun x r => s_le x.2.2 r.2) (fun x z r hs hk => by
    have h9 := l_X1_take_s hs
    cases z with
    | inl y => exact s_le.tr h9 hk
    | inr q => cases hk; exact h9) h
theorem b_X1_take {v0 : Nat} {v1 : Nat} {σ : sS} {q : Unit × sS} (h : F_X1_take v0 v1 σ = some q) : ∃ fs, σ.1 v0 = some (.inr (1, fs)) := by
  unfold F_X1_take at h
  obtain ⟨u, hu, -⟩ := s_bind h
  exact s_is_to hu
set_option maxRecDepth 100000 in
set_option maxHeartbeats 4000000 in
theorem v_X1_take_0 {G : sG} {d : Nat} {vs0 : List Value} {σ0 : sS} {v0 : Nat} {v1 : Nat} {σ : sS} {z : sZ Unit} {r : Unit × sS} (hf : T_X1_take_0 v0 v1 σ = some z) (k : s_K G (d + 1) M_X1_take vs0 σ0 Y_X1_take e_V z r) : s_V G (d + 1) M_X1_take vs0 σ0 Y_X1_take (0, [.ref v0, .ref v1], σ) (e_V r) := by
  have le0 : s_le σ (e_V r).2 := s_lek hem_V (l_X1_take_0 hf) k
  refine ⟨le0, ?_⟩
  intro p e s m below meth c H locs cells slots ls X I hn1 hn2 hl
  have hn : cells + σ0.2.1 ≤ σ.2.1 ∧ slots + σ0.2.2.1 ≤ σ.2.2.1 := ⟨hn1, hn2⟩
  have hl : lv_has ls 2 [(0, .ref v0), (1, .ref v1)] := hl
  have hx := X.1
  have hb : c.code = cX1_take := X.2.1
  have hown : s.vm.findClass RX1 = some m.cls := X.2.2.2.2.2.1
  have hts := X.2.2.2.2.2.2.1
  refine W.eq (g2 := F0 m 0 ls []) rfl ?_
  unfold T_X1_take_0 at hf
  obtain ⟨x1, h1, hf⟩ := s_bind hf
  obtain ⟨σ2, h2, hf⟩ := s_bind hf
  obtain ⟨x3, h3, hf⟩ := s_bind hf
  obtain ⟨σ4, h4, hf⟩ := s_bind hf
  obtain ⟨x5, h5, hf⟩ := s_bind hf
  obtain ⟨σ6, h6, hf⟩ := s_bind hf
  obtain ⟨x7, h7, hf⟩ := s_bind hf
  obtain ⟨σ8, h8, hf⟩ := s_bind hf
  obtain ⟨x9, h9, hf⟩ := s_bind hf
  obtain ⟨σ10, h10, hf⟩ := s_bind hf
  obtain ⟨x11, h11, hf⟩ := s_bind hf
  obtain ⟨σ12, h12, hf⟩ := s_bind hf
  obtain ⟨x13, h13, hf⟩ := s_bind hf
  obtain ⟨x14, h14, hf⟩ := s_bind hf
  obtain ⟨x15, h15, hf⟩ := s_bind hf
  obtain ⟨x16, h16, hf⟩ := s_bind hf
  obtain ⟨σ17, h17, hf⟩ := s_bind hf
  obtain ⟨x18, h18, hf⟩ := s_bind hf
  obtain ⟨x19, h19, hf⟩ := s_bind hf
  obtain ⟨x20, h20, hf⟩ := s_bind hf
  obtain ⟨x21, h21, hf⟩ := s_bind hf
  obtain ⟨σ22, h22, hf⟩ := s_bind hf
  obtain ⟨x23, h23, hf⟩ := s_bind hf
  obtain ⟨x24, h24, hf⟩ := s_bind hf
  obtain ⟨x25, h25, hf⟩ := s_bind hf
  obtain ⟨x26, h26, hf⟩ := s_bind hf
  obtain ⟨σ27, h27, hf⟩ := s_bind hf
  obtain ⟨x28, h28, hf⟩ := s_bind hf
  obtain ⟨x29, h29, hf⟩ := s_bind hf
  obtain ⟨x30, h30, hf⟩ := s_bind hf
  obtain ⟨x31, h31, hf⟩ := s_bind hf
  obtain ⟨σ32, h32, hf⟩ := s_bind hf
  obtain ⟨x33, h33, hf⟩ := s_bind hf
  obtain ⟨x34, h34, hf⟩ := s_bind hf
  obtain ⟨x35, h35, hf⟩ := s_bind hf
  obtain ⟨x36, h36, hf⟩ := s_bind hf
  obtain ⟨σ37, h37, hf⟩ := s_bind hf
  obtain ⟨x38, h38, hf⟩ := s_bind hf
  obtain ⟨x39, h39, hf⟩ := s_bind hf
  obtain ⟨x40, h40, hf⟩ := s_bind hf
  obtain ⟨x41, h41, hf⟩ := s_bind hf
  obtain ⟨σ42, h42, hf⟩ := s_bind hf
  obtain ⟨x43, h43, hf⟩ := s_bind hf
  obtain ⟨x44, h44, hf⟩ := s_bind hf
  obtain ⟨x45, h45, hf⟩ := s_bind hf
  obtain ⟨x46, h46, hf⟩ := s_bind hf
  obtain ⟨σ47, h47, hf⟩ := s_bind hf
  obtain ⟨x48, h48, hf⟩ := s_bind hf
  obtain ⟨x49, h49, hf⟩ := s_bind hf
  obtain ⟨x50, h50, hf⟩ := s_bind hf
  obtain ⟨x51, h51, hf⟩ := s_bind hf
  obtain ⟨σ52, h52, hf⟩ := s_bind hf
  obtain ⟨x53, h53, hf⟩ := s_bind hf
  obtain ⟨x54, h54, hf⟩ := s_bind hf
  obtain ⟨x55, h55, hf⟩ := s_bind hf
  obtain ⟨x56, h56, hf⟩ := s_bind hf
  obtain ⟨σ57, h57, hf⟩ := s_bind hf
  cases hf
  have k : _ = r := k
  subst k
  have le58 : s_le σ57 σ57 := s_le.rf
  have le59 := s_le.tr (s_le2 (s_cpi_2 h57)) le58
  have le60 := s_le.tr (s_le2 (s_cpi_2 h52)) le59
  have le61 := s_le.tr (s_le2 (s_cpi_2 h47)) le60
  have le62 := s_le.tr (s_le2 (s_cpi_2 h42)) le61
  have le63 := s_le.tr (s_le2 (s_cpi_2 h37)) le62
  have le64 := s_le.tr (s_le2 (s_cpi_2 h32)) le63
  have le65 := s_le.tr (s_le2 (s_cpi_2 h27)) le64
  have le66 := s_le.tr (s_le2 (s_cpi_2 h22)) le65
  have le67 := s_le.tr (s_le2 (s_cpi_2 h17)) le66
  have le68 := s_le.tr (s_le2 (s_pf_2 h12)) le67
  have le69 := s_le.tr (s_le2 (s_pf_2 h10)) le68
  have le70 := s_le.tr (s_le2 (s_pf_2 h8)) le69
  have le71 := s_le.tr (s_le2 (s_pf_2 h6)) le70
  have le72 := s_le.tr (s_le2 (s_pf_2 h4)) le71
  refine lv_aload_n hx hb dX1_take_0 rfl (lv_at hl 0 rfl) ?_
  refine lv_aload_n hx hb dX1_take_1 rfl (lv_at hl 1 rfl) ?_
  refine r_gi X I fl_X1_9 h1 dX1_take_2 ?_
  refine r_put X I fp_X1_9 (fun h => by cases h) h2 rfl rfl dX1_take_5 (fun H locs I => ?_)
  have hn := s_k2 (s_pf_2 h2) hn
  refine lv_aload_n hx hb dX1_take_8 rfl (lv_at hl 0 rfl) ?_
  refine lv_aload_n hx hb dX1_take_9 rfl (lv_at hl 1 rfl) ?_
  refine r_gi X I fl_X1_45 h3 dX1_take_10 ?_
  refine r_put X I fp_X1_45 (fun h => by cases h) h4 rfl rfl dX1_take_13 (fun H locs I => ?_)
  have hn := s_k2 (s_pf_2 h4) hn
  refine lv_aload_n hx hb dX1_take_16 rfl (lv_at hl 0 rfl) ?_
  refine lv_aload_n hx hb dX1_take_17 rfl (lv_at hl 1 rfl) ?_
  refine r_gi X I fl_X1_48 h5 dX1_take_18 ?_
  refine r_put X I fp_X1_48 (fun h => by cases h) h6 rfl rfl dX1_take_21 (fun H locs I => ?_)
  have hn := s_k2 (s_pf_2 h6) hn
  refine lv_aload_n hx hb dX1_take_24 rfl (lv_at hl 0 rfl) ?_
  refine lv_aload_n hx hb dX1_take_25 rfl (lv_at hl 1 rfl) ?_
  refine r_gi X I fl_X1_51 h7 dX1_take_26 ?_
  refine r_put X I fp_X1_51 (fun h => by cases h) h8 rfl rfl dX1_take_29 (fun H locs I => ?_)
  have hn := s_k2 (s_pf_2 h8) hn
  refine lv_aload_n hx hb dX1_take_32 rfl (lv_at hl 0 rfl) ?_
  refine lv_aload_n hx hb dX1_take_33 rfl (lv_at hl 1 rfl) ?_
  refine r_gi X I fl_X1_54 h9 dX1_take_34 ?_
  refine r_put X I fp_X1_54 (fun h => by cases h) h10 rfl rfl dX1_take_37 (fun H locs I => ?_)
  have hn := s_k2 (s_pf_2 h10) hn
  refine lv_aload_n hx hb dX1_take_40 rfl (lv_at hl 0 rfl) ?_
  refine lv_aload_n hx hb dX1_take_41 rfl (lv_at hl 1 rfl) ?_
  refine r_gi X I fl_X1_57 h11 dX1_take_42 ?_
  refine r_put X I fp_X1_57 (fun h => by cases h) h12 rfl rfl dX1_take_45 (fun H locs I => ?_)
  have hn := s_k2 (s_pf_2 h12) hn
  refine lv_aload_n hx hb dX1_take_48 rfl (lv_at hl 1 rfl) ?_
  refine r_gr X I fl_X1_15 h13 dX1_take_49 ?_
  refine lv_iconst (v := 0) hx hb dX1_take_52 (by decide) ?_
  refine lv_aload_n hx hb dX1_take_53 rfl (lv_at hl 0 rfl) ?_
  refine r_gr X I fl_X1_15 h14 dX1_take_54 ?_
  refine lv_iconst (v := 0) hx hb dX1_take_57 (by decide) ?_
  refine lv_aload_n hx hb dX1_take_58 rfl (lv_at hl 0 rfl) ?_
  refine r_gr X I fl_X1_15 h15 dX1_take_59 ?_
  refine r_alen X I h16 dX1_take_62 ?_
  refine r_copy X I h17 w_653 w_655 w_654 w_180 hl.1 (Nat.le_of_ble_eq_true rfl) dX1_take_63 (fun H locs I => ?_)
  have hn := s_k2 (s_cpi_2 h17) hn
  refine lv_aload_n hx hb dX1_take_66 rfl (lv_at hl 1 rfl) ?_
  refine r_gr X I fl_X1_19 h18 dX1_take_67 ?_
  refine lv_iconst (v := 0) hx hb dX1_take_70 (by decide) ?_
  refine lv_aload_n hx hb dX1_take_71 rfl (lv_at hl 0 rfl) ?_
  refine r_gr X I fl_X1_19 h19 dX1_take_72 ?_
  refine lv_iconst (v := 0) hx hb dX1_take_75 (by decide) ?_
  refine lv_aload_n hx hb dX1_take_76 rfl (lv_at hl 0 rfl) ?_
  refine r_gr X I fl_X1_19 h20 dX1_take_77 ?_
  refine r_alen X I h21 dX1_take_80 ?_
  refine r_copy X I h22 w_653 w_655 w_654 w_180 hl.1 (Nat.le_of_ble_eq_true rfl) dX1_take_81 (fun H locs I => ?_)
  have hn := s_k2 (s_cpi_2 h22) hn
  refine lv_aload_n hx hb dX1_take_84 rfl (lv_at hl 1 rfl) ?_
  refine r_gr X I fl_X1_23 h23 dX1_take_85 ?_
  refine lv_iconst (v := 0) hx hb dX1_take_88 (by decide) ?_
  refine lv_aload_n hx hb dX1_take_89 rfl (lv_at hl 0 rfl) ?_
  refine r_gr X I fl_X1_23 h24 dX1_take_90 ?_
  refine lv_iconst (v := 0) hx hb dX1_take_93 (by decide) ?_
  refine lv_aload_n hx hb dX1_take_94 rfl (lv_at hl 0 rfl) ?_
  refine r_gr X I fl_X1_23 h25 dX1_take_95 ?_
  refine r_alen X I h26 dX1_take_98 ?_
  refine r_copy X I h27 w_653 w_655 w_654 w_180 hl.1 (Nat.le_of_ble_eq_true rfl) dX1_take_99 (fun H locs I => ?_)
  have hn := s_k2 (s_cpi_2 h27) hn
  refine lv_aload_n hx hb dX1_take_102 rfl (lv_at hl 1 rfl) ?_
  refine r_gr X I fl_X1_26 h28 dX1_take_103 ?_
  refine lv_iconst (v := 0) hx hb dX1_take_106 (by decide) ?_
  refine lv_aload_n hx hb dX1_take_107 rfl (lv_at hl 0 rfl) ?_
  refine r_gr X I fl_X1_26 h29 dX1_take_108 ?_
  refine lv_iconst (v := 0) hx hb dX1_take_111 (by decide) ?_
  refine lv_aload_n hx hb dX1_take_112 rfl (lv_at hl 0 rfl) ?_
  refine r_gr X I fl_X1_26 h30 dX1_take_113 ?_
  refine r_alen X I h31 dX1_take_116 ?_
  refine r_copy X I h32 w_653 w_655 w_654 w_180 hl.1 (Nat.le_of_ble_eq_true rfl) dX1_take_117 (fun H locs I => ?_)
  have hn := s_k2 (s_cpi_2 h32) hn
  refine lv_aload_n hx hb dX1_take_120 rfl (lv_at hl 1 rfl) ?_
  refine r_gr X I fl_X1_29 h33 dX1_take_121 ?_
  refine lv_iconst (v := 0) hx hb dX1_take_124 (by decide) ?_
  refine lv_aload_n hx hb dX1_take_125 rfl (lv_at hl 0 rfl) ?_
  refine r_gr X I fl_X1_29 h34 dX1_take_126 ?_
  refine lv_iconst (v := 0) hx hb dX1_take_129 (by decide) ?_
  refine lv_aload_n hx hb dX1_take_130 rfl (lv_at hl 0 rfl) ?_
  refine r_gr X I fl_X1_29 h35 dX1_take_131 ?_
  refine r_alen X I h36 dX1_take_134 ?_
  refine r_copy X I h37 w_653 w_655 w_654 w_180 hl.1 (Nat.le_of_ble_eq_true rfl) dX1_take_135 (fun H locs I => ?_)
  have hn := s_k2 (s_cpi_2 h37) hn
  refine lv_aload_n hx hb dX1_take_138 rfl (lv_at hl 1 rfl) ?_
  refine r_gr X I fl_X1_32 h38 dX1_take_139 ?_
  refine lv_iconst (v := 0) hx hb dX1_take_142 (by decide) ?_
  refine lv_aload_n hx hb dX1_take_143 rfl (lv_at hl 0 rfl) ?_
  refine r_gr X I fl_X1_32 h39 dX1_take_144 ?_
  refine lv_iconst (v := 0) hx hb dX1_take_147 (by decide) ?_
  refine lv_aload_n hx hb dX1_take_148 rfl (lv_at hl 0 rfl) ?_
  refine r_gr X I fl_X1_32 h40 dX1_take_149 ?_
  refine r_alen X I h41 dX1_take_152 ?_
  refine r_copy X I h42 w_653 w_655 w_654 w_180 hl.1 (Nat.le_of_ble_eq_true rfl) dX1_take_153 (fun H locs I => ?_)
  have hn := s_k2 (s_cpi_2 h42) hn
  refine lv_aload_n hx hb dX1_take_156 rfl (lv_at hl 1 rfl) ?_
  refine r_gr X I fl_X1_35 h43 dX1_take_157 ?_
  refine lv_iconst (v := 0) hx hb dX1_take_160 (by decide) ?_
  refine lv_aload_n hx hb dX1_take_161 rfl (lv_at hl 0 rfl) ?_
  refine r_gr X I fl_X1_35 h44 dX1_take_162 ?_
  refine lv_iconst (v := 0) hx hb dX1_take_165 (by decide) ?_
  refine lv_aload_n hx hb dX1_take_166 rfl (lv_at hl 0 rfl) ?_
  refine r_gr X I fl_X1_35 h45 dX1_take_167 ?_
  refine r_alen X I h46 dX1_take_170 ?_
  refine r_copy X I h47 w_653 w_655 w_654 w_180 hl.1 (Nat.le_of_ble_eq_true rfl) dX1_take_171 (fun H locs I => ?_)
  have hn := s_k2 (s_cpi_2 h47) hn
  refine lv_aload_n hx hb dX1_take_174 rfl (lv_at hl 1 rfl) ?_
  refine r_gr X I fl_X1_38 h48 dX1_take_175 ?_
  refine lv_iconst (v := 0) hx hb dX1_take_178 (by decide) ?_
  refine lv_aload_n hx hb dX1_take_179 rfl (lv_at hl 0 rfl) ?_
  refine r_gr X I fl_X1_38 h49 dX1_take_180 ?_
  refine lv_iconst (v := 0) hx hb dX1_take_183 (by decide) ?_
  refine lv_aload_n hx hb dX1_take_184 rfl (lv_at hl 0 rfl) ?_
  refine r_gr X I fl_X1_38 h50 dX1_take_185 ?_
  refine r_alen X I h51 dX1_take_188 ?_
  refine r_copy X I h52 w_653 w_655 w_654 w_180 hl.1 (Nat.le_of_ble_eq_true rfl) dX1_take_189 (fun H locs I => ?_)
  have hn := s_k2 (s_cpi_2 h52) hn
  refine lv_aload_n hx hb dX1_take_192 rfl (lv_at hl 1 rfl) ?_
  refine r_gr X I fl_X1_41 h53 dX1_take_193 ?_
  refine lv_iconst (v := 0) hx hb dX1_take_196 (by decide) ?_
  refine lv_aload_n hx hb dX1_take_197 rfl (lv_at hl 0 rfl) ?_
  refine r_gr X I fl_X1_41 h54 dX1_take_198 ?_
  refine lv_iconst (v := 0) hx hb dX1_take_201 (by decide) ?_
  refine lv_aload_n hx hb dX1_take_202 rfl (lv_at hl 0 rfl) ?_
  refine r_gr X I fl_X1_41 h55 dX1_take_203 ?_
  refine r_alen X I h56 dX1_take_206 ?_
  refine r_copy X I h57 w_653 w_655 w_654 w_180 hl.1 (Nat.le_of_ble_eq_true rfl) dX1_take_207 (fun H locs I => ?_)
  have hn := s_k2 (s_cpi_2 h57) hn
  exact r_vret X I rfl rfl hn dX1_take_210
theorem v_X1_take {G : sG} {d : Nat} {vs0 : List Value} {σ0 : sS} {x : sL} {z : sZ Unit} {r : Unit × sS} (hs : S_X1_take x = some z) (k : s_K G (d + 1) M_X1_take vs0 σ0 Y_X1_take e_V z r) : s_V G (d + 1) M_X1_take vs0 σ0 Y_X1_take x (e_V r) := by
  obtain ⟨pc, vs, σ⟩ := x
  unfold S_X1_take at hs
  dsimp only at hs
  rcases s_ite hs with ⟨c, hs⟩ | ⟨-, hs⟩
  · subst c
    unfold U_X1_take_0 at hs
    obtain ⟨a0, g0, hs⟩ := s_bind hs
    obtain ⟨a1, g1, hs⟩ := s_bind hs
    obtain ⟨u9, ge, hs⟩ := s_bind hs
    rw [g_r_to g0, g_r_to g1, g_e_to ge]
    exact v_X1_take_0 hs k
  cases hs
theorem t_X1_take {G : sG} {d : Nat} {v0 : Nat} {v1 : Nat} {σ : sS} {q : Unit × sS} (h : F_X1_take v0 v1 σ = some q) : s_T G (d + 1) M_X1_take [.ref v0, .ref v1] σ (e_V q) := by
  unfold F_X1_take at h
  obtain ⟨-, -, h⟩ := s_bind h
  exact s_ofV rfl (by decide) (Nat.le_of_ble_eq_true rfl) rfl rfl (s_run_ind (V := fun x r => s_V G (d + 1) M_X1_take [.ref v0, .ref v1] σ Y_X1_take x (e_V r)) (fun x z r hs hk => v_X1_take hs (by cases z <;> exact hk)) h)
/-! X7_image -/
noncomputable def T_X7_image_0 (v0 : Nat) (σ : sS) : Option (sZ Unit) :=
  (s_fr σ v0 7 2).bind fun x1 =>
  (s_fr σ v0 7 1).bind fun x2 =>
  (F_X1_take x1 x2 σ).bind fun q3 =>
  (s_pf q3.2 v0 7 8 (.int 1)).bind fun σ4 =>
  some (.inr ((), σ4))
noncomputable def U_X7_image_0 (vs : List Value) (σ : sS) : Option (sZ Unit) := (g_r vs).bind fun a0 => (g_e a0.2).bind fun _ => T_X7_image_0 a0.1 σ
noncomputable def S_X7_image (x : sL) : Option (sZ Unit) := if x.1 = 0 then U_X7_image_0 x.2.1 x.2.2 else none
def Y_X7_image (pc : Nat) : List Nat := if pc = 0 then [0] else []
noncomputable def F_X7_image (v0 : Nat) (σ : sS) : Option (Unit × sS) := (s_is σ v0 7).bind fun _ => s_run S_X7_image (0, [.ref v0], σ)
theorem l_X7_image_0 {v0 : Nat} {σ : sS} {z : sZ Unit} (hf : T_X7_image_0 v0 σ = some z) : s_lz σ z := by
  unfold T_X7_image_0 at hf
  obtain ⟨x1, -, hf⟩ := s_bind hf
  obtain ⟨x2, -, hf⟩ := s_bind hf
  obtain ⟨q3, hh, hf⟩ := s_bind hf
  refine s_lz.tr (l_X1_take hh) ?_
  obtain ⟨σ4, hh, hf⟩ := s_bind hf
  refine s_lz.tr (s_le2 (s_pf_2 hh)) ?_
  cases hf
  exact s_le.rf
theorem l_X7_image_s {x : sL} {z : sZ Unit} (hs : S_X7_image x = some z) : s_lz x.2.2 z := by
  obtain ⟨pc, vs, σ⟩ := x
  unfold S_X7_image at hs
  dsimp only at hs ⊢
  rcases s_ite hs with ⟨c, hs⟩ | ⟨-, hs⟩
  · subst c
    unfold U_X7_image_0 at hs
    obtain ⟨a0, g0, hs⟩ := s_bind hs
    obtain ⟨u9, ge, hs⟩ := s_bind hs
    exact l_X7_image_0 hs
  cases hs
theorem l_X7_image {v0 : Nat} {σ : sS} {q : Unit × sS} (h : F_X7_image v0 σ = some q) : s_le σ q.2 := by
  unfold F_X7_image at h
  obtain ⟨-, -, h⟩ := s_bind h
  exact s_run_ind (V := fun x r => s_le x.2.2 r.2) (fun x z r hs hk => by
    have h9 := l_X7_image_s hs
    cases z with
    | inl y => exact s_le.tr h9 hk
    | inr q => cases hk; exact h9) h
theorem b_X7_image {v0 : Nat} {σ : sS} {q : Unit × sS} (h : F_X7_image v0 σ = some q) : ∃ fs, σ.1 v0 = some (.inr (7, fs)) := by
  unfold F_X7_image at h
  obtain ⟨u, hu, -⟩ := s_bind h
  exact s_is_to hu
set_option maxRecDepth 100000 in
set_option maxHeartbeats 4000000 in
theorem v_X7_image_0 {G : sG} {d : Nat} {vs0 : List Value} {σ0 : sS} {v0 : Nat} {σ : sS} {z : sZ Unit} {r : Unit × sS} (hf : T_X7_image_0 v0 σ = some z) (k : s_K G (d + 2) M_X7_image vs0 σ0 Y_X7_image e_V z r) : s_V G (d + 2) M_X7_image vs0 σ0 Y_X7_image (0, [.ref v0], σ) (e_V r) := by
  have le0 : s_le σ (e_V r).2 := s_lek hem_V (l_X7_image_0 hf) k
  refine ⟨le0, ?_⟩
  intro p e s m below meth c H locs cells slots ls X I hn1 hn2 hl
  have hn : cells + σ0.2.1 ≤ σ.2.1 ∧ slots + σ0.2.2.1 ≤ σ.2.2.1 := ⟨hn1, hn2⟩
  have hl : lv_has ls 1 [(0, .ref v0)] := hl
  have hx := X.1
  have hb : c.code = cX7_image := X.2.1
  have hown : s.vm.findClass RX7 = some m.cls := X.2.2.2.2.2.1
  have hts := X.2.2.2.2.2.2.1
  refine W.eq (g2 := F0 m 0 ls []) rfl ?_
  unfold T_X7_image_0 at hf
  obtain ⟨x1, h1, hf⟩ := s_bind hf
  obtain ⟨x2, h2, hf⟩ := s_bind hf
  obtain ⟨q3, h3, hf⟩ := s_bind hf
  obtain ⟨σ4, h4, hf⟩ := s_bind hf
  cases hf
  have k : _ = r := k
  subst k
  have le5 : s_le σ4 σ4 := s_le.rf
  have le6 := s_le.tr (s_le2 (s_pf_2 h4)) le5
  refine lv_aload_n hx hb dX7_image_0 rfl (lv_at hl 0 rfl) ?_
  refine r_gr X I fl_X7_23 h1 dX7_image_1 ?_
  refine lv_aload_n hx hb dX7_image_4 rfl (lv_at hl 0 rfl) ?_
  refine r_gr X I fl_X7_19 h2 dX7_image_5 ?_
  refine r_callV (Y := M_X1_take) (v := none) X I w_649 my_X1_take (by omega) (t_X1_take (G := G) (d := d + 0) h3) (b_X1_take h3) rfl rfl hl.1 rfl (Nat.le_of_ble_eq_true rfl) hn le6 dX7_image_8 (fun H locs cells slots I hn1 hn2 => ?_)
  have I : s_I G q3.2 s H locs := I
  have hn : cells + σ0.2.1 ≤ q3.2.2.1 ∧ slots + σ0.2.2.1 ≤ q3.2.2.2.1 := ⟨hn1, hn2⟩
  refine lv_aload_n hx hb dX7_image_11 rfl (lv_at hl 0 rfl) ?_
  refine lv_iconst (v := 1) hx hb dX7_image_12 (by decide) ?_
  refine r_put X I fp_X7_325 (fun h => by cases h) h4 rfl rfl dX7_image_13 (fun H locs I => ?_)
  have hn := s_k2 (s_pf_2 h4) hn
  exact r_vret X I rfl rfl hn dX7_image_16
theorem v_X7_image {G : sG} {d : Nat} {vs0 : List Value} {σ0 : sS} {x : sL} {z : sZ Unit} {r : Unit × sS} (hs : S_X7_image x = some z) (k : s_K G (d + 2) M_X7_image vs0 σ0 Y_X7_image e_V z r) : s_V G (d + 2) M_X7_image vs0 σ0 Y_X7_image x (e_V r) := by
  obtain ⟨pc, vs, σ⟩ := x
  unfold S_X7_image at hs
  dsimp only at hs
  rcases s_ite hs with ⟨c, hs⟩ | ⟨-, hs⟩
  · subst c
    unfold U_X7_image_0 at hs
    obtain ⟨a0, g0, hs⟩ := s_bind hs
    obtain ⟨u9, ge, hs⟩ := s_bind hs
    rw [g_r_to g0, g_e_to ge]
    exact v_X7_image_0 hs k
  cases hs
theorem t_X7_image {G : sG} {d : Nat} {v0 : Nat} {σ : sS} {q : Unit × sS} (h : F_X7_image v0 σ = some q) : s_T G (d + 2) M_X7_image [.ref v0] σ (e_V q) := by
  unfold F_X7_image at h
  obtain ⟨-, -, h⟩ := s_bind h
  exact s_ofV rfl (by decide) (Nat.le_of_ble_eq_true rfl) rfl rfl (s_run_ind (V := fun x r => s_V G (d + 2) M_X7_image [.ref v0] σ Y_X7_image x (e_V r)) (fun x z r hs hk => v_X7_image hs (by cases z <;> exact hk)) h)
/-! X8_image -/
noncomputable def T_X8_image_0 (v0 : Nat) (σ : sS) : Option (sZ Unit) :=
  (s_pf σ v0 8 0 (.int 0)).bind fun σ1 =>
  some (.inl (7, [.ref v0, .int 0], σ1))
noncomputable def U_X8_image_0 (vs : List Value) (σ : sS) : Option (sZ Unit) := (g_r vs).bind fun a0 => (g_e a0.2).bind fun _ => T_X8_image_0 a0.1 σ
noncomputable def T_X8_image_7 (v0 : Nat) (v1 : Int32) (σ : sS) : Option (sZ Unit) :=
  if (1682 : Int32) ≤ v1 then ((s_pf σ v0 8 3 (.int 1)).bind fun σ1 =>
  some (.inr ((), σ1)))
  else ((s_fr σ v0 8 2).bind fun x2 =>
  (s_fr σ v0 8 1).bind fun x3 =>
  (s_ai σ x3 v1).bind fun x4 =>
  (s_si σ x2 v1 x4).bind fun σ5 =>
  some (.inl (7, [.ref v0, .int (v1 + 1)], σ5)))
noncomputable def U_X8_image_7 (vs : List Value) (σ : sS) : Option (sZ Unit) := (g_r vs).bind fun a0 => (g_i a0.2).bind fun a1 => (g_e a1.2).bind fun _ => T_X8_image_7 a0.1 a1.1 σ
noncomputable def S_X8_image (x : sL) : Option (sZ Unit) := if x.1 = 0 then U_X8_image_0 x.2.1 x.2.2 else if x.1 = 7 then U_X8_image_7 x.2.1 x.2.2 else none
def Y_X8_image (pc : Nat) : List Nat := if pc = 0 then [0] else if pc = 7 then [0, 1] else []
noncomputable def F_X8_image (v0 : Nat) (σ : sS) : Option (Unit × sS) := (s_is σ v0 8).bind fun _ => s_run S_X8_image (0, [.ref v0], σ)
theorem l_X8_image_0 {v0 : Nat} {σ : sS} {z : sZ Unit} (hf : T_X8_image_0 v0 σ = some z) : s_lz σ z := by
  unfold T_X8_image_0 at hf
  obtain ⟨σ1, hh, hf⟩ := s_bind hf
  refine s_lz.tr (s_le2 (s_pf_2 hh)) ?_
  cases hf
  exact s_le.rf
theorem l_X8_image_7 {v0 : Nat} {v1 : Int32} {σ : sS} {z : sZ Unit} (hf : T_X8_image_7 v0 v1 σ = some z) : s_lz σ z := by
  unfold T_X8_image_7 at hf
  rcases s_ite hf with ⟨-, hf⟩ | ⟨-, hf⟩
  · obtain ⟨σ1, hh, hf⟩ := s_bind hf
    refine s_lz.tr (s_le2 (s_pf_2 hh)) ?_
    cases hf
    exact s_le.rf
  · obtain ⟨x2, -, hf⟩ := s_bind hf
    obtain ⟨x3, -, hf⟩ := s_bind hf
    obtain ⟨x4, -, hf⟩ := s_bind hf
    obtain ⟨σ5, hh, hf⟩ := s_bind hf
    refine s_lz.tr (s_le2 (s_si_2 hh)) ?_
    cases hf
    exact s_le.rf
theorem l_X8_image_s {x : sL} {z : sZ Unit} (hs : S_X8_image x = some z) : s_lz x.2.2 z := by
  obtain ⟨pc, vs, σ⟩ := x
  unfold S_X8_image at hs
  dsimp only at hs ⊢
  rcases s_ite hs with ⟨c, hs⟩ | ⟨-, hs⟩
  · subst c
    unfold U_X8_image_0 at hs
    obtain ⟨a0, g0, hs⟩ := s_bind hs
    obtain ⟨u9, ge, hs⟩ := s_bind hs
    exact l_X8_image_0 hs
  rcases s_ite hs with ⟨c, hs⟩ | ⟨-, hs⟩
  · subst c
    unfold U_X8_image_7 at hs
    obtain ⟨a0, g0, hs⟩ := s_bind hs
    obtain ⟨a1, g1, hs⟩ := s_bind hs
    obtain ⟨u9, ge, hs⟩ := s_bind hs
    exact l_X8_image_7 hs
  cases hs
theorem l_X8_image {v0 : Nat} {σ : sS} {q : Unit × sS} (h : F_X8_image v0 σ = some q) : s_le σ q.2 := by
  unfold F_X8_image at h
  obtain ⟨-, -, h⟩ := s_bind h
  exact s_run_ind (V := fun x r => s_le x.2.2 r.2) (fun x z r hs hk => by
    have h9 := l_X8_image_s hs
    cases z with
    | inl y => exact s_le.tr h9 hk
    | inr q => cases hk; exact h9) h
theorem b_X8_image {v0 : Nat} {σ : sS} {q : Unit × sS} (h : F_X8_image v0 σ = some q) : ∃ fs, σ.1 v0 = some (.inr (8, fs)) := by
  unfold F_X8_image at h
  obtain ⟨u, hu, -⟩ := s_bind h
  exact s_is_to hu
set_option maxRecDepth 100000 in
set_option maxHeartbeats 4000000 in
theorem v_X8_image_0 {G : sG} {d : Nat} {vs0 : List Value} {σ0 : sS} {v0 : Nat} {σ : sS} {z : sZ Unit} {r : Unit × sS} (hf : T_X8_image_0 v0 σ = some z) (k : s_K G (d + 1) M_X8_image vs0 σ0 Y_X8_image e_V z r) : s_V G (d + 1) M_X8_image vs0 σ0 Y_X8_image (0, [.ref v0], σ) (e_V r) := by
  have le0 : s_le σ (e_V r).2 := s_lek hem_V (l_X8_image_0 hf) k
  refine ⟨le0, ?_⟩
  intro p e s m below meth c H locs cells slots ls X I hn1 hn2 hl
  have hn : cells + σ0.2.1 ≤ σ.2.1 ∧ slots + σ0.2.2.1 ≤ σ.2.2.1 := ⟨hn1, hn2⟩
  have hl : lv_has ls 2 [(0, .ref v0)] := hl
  have hx := X.1
  have hb : c.code = cX8_image := X.2.1
  have hown : s.vm.findClass RX8 = some m.cls := X.2.2.2.2.2.1
  have hts := X.2.2.2.2.2.2.1
  refine W.eq (g2 := F0 m 0 ls []) rfl ?_
  unfold T_X8_image_0 at hf
  obtain ⟨σ1, h1, hf⟩ := s_bind hf
  cases hf
  have k : s_V G (d + 1) M_X8_image vs0 σ0 Y_X8_image (7, [.ref v0, .int 0], σ1) (e_V r) := k
  have le2 : s_le σ1 (e_V r).2 := k.1
  refine lv_aload_n hx hb dX8_image_0 rfl (lv_at hl 0 rfl) ?_
  refine lv_iconst (v := 0) hx hb dX8_image_1 (by decide) ?_
  refine r_put X I fp_X8_3 (fun h => by cases h) h1 rfl rfl dX8_image_2 (fun H locs I => ?_)
  have hn := s_k2 (s_pf_2 h1) hn
  refine lv_iconst (v := 0) hx hb dX8_image_5 (by decide) ?_
  refine lv_istore_n (lv' := [(1, .int 0), (0, .ref v0)]) hx hb dX8_image_6 rfl hl (by decide) rfl (fun ls hl => ?_)
  exact k.2 p e s m below meth c _ _ _ _ _ X I hn.1 hn.2 (lv_sub hl [1, 0] rfl)
set_option maxRecDepth 100000 in
set_option maxHeartbeats 4000000 in
theorem v_X8_image_7 {G : sG} {d : Nat} {vs0 : List Value} {σ0 : sS} {v0 : Nat} {v1 : Int32} {σ : sS} {z : sZ Unit} {r : Unit × sS} (hf : T_X8_image_7 v0 v1 σ = some z) (k : s_K G (d + 1) M_X8_image vs0 σ0 Y_X8_image e_V z r) : s_V G (d + 1) M_X8_image vs0 σ0 Y_X8_image (7, [.ref v0, .int v1], σ) (e_V r) := by
  have le0 : s_le σ (e_V r).2 := s_lek hem_V (l_X8_image_7 hf) k
  refine ⟨le0, ?_⟩
  intro p e s m below meth c H locs cells slots ls X I hn1 hn2 hl
  have hn : cells + σ0.2.1 ≤ σ.2.1 ∧ slots + σ0.2.2.1 ≤ σ.2.2.1 := ⟨hn1, hn2⟩
  have hl : lv_has ls 2 [(0, .ref v0), (1, .int v1)] := hl
  have hx := X.1
  have hb : c.code = cX8_image := X.2.1
  have hown : s.vm.findClass RX8 = some m.cls := X.2.2.2.2.2.1
  have hts := X.2.2.2.2.2.2.1
  refine W.eq (g2 := F0 m 7 ls []) rfl ?_
  unfold T_X8_image_7 at hf
  refine lv_iload_n hx hb dX8_image_7 rfl (lv_at hl 1 rfl) ?_
  refine lv_sipush (v := 1682) hx hb dX8_image_8 (by decide) ?_
  rcases s_ite hf with ⟨c1, hf⟩ | ⟨c1, hf⟩
  · refine lv_icmp_ge (tgt := 32) hx hb dX8_image_11 (by decide) (fun _ => ?_) (fun n => absurd c1 n)
    obtain ⟨σ1, h2, hf⟩ := s_bind hf
    cases hf
    have k : _ = r := k
    subst k
    have le3 : s_le σ1 σ1 := s_le.rf
    refine lv_aload_n hx hb dX8_image_32 rfl (lv_at hl 0 rfl) ?_
    refine lv_iconst (v := 1) hx hb dX8_image_33 (by decide) ?_
    refine r_put X I fp_X8_96 (fun h => by cases h) h2 rfl rfl dX8_image_34 (fun H locs I => ?_)
    have hn := s_k2 (s_pf_2 h2) hn
    exact r_vret X I rfl rfl hn dX8_image_37
  · refine lv_icmp_ge (tgt := 32) hx hb dX8_image_11 (by decide) (fun n => absurd n c1) (fun _ => ?_)
    obtain ⟨x2, h4, hf⟩ := s_bind hf
    obtain ⟨x3, h5, hf⟩ := s_bind hf
    obtain ⟨x4, h6, hf⟩ := s_bind hf
    obtain ⟨σ5, h7, hf⟩ := s_bind hf
    cases hf
    have k : s_V G (d + 1) M_X8_image vs0 σ0 Y_X8_image (7, [.ref v0, .int (v1 + 1)], σ5) (e_V r) := k
    have le8 : s_le σ5 (e_V r).2 := k.1
    refine lv_aload_n hx hb dX8_image_14 rfl (lv_at hl 0 rfl) ?_
    refine r_gr X I fl_X8_17 h4 dX8_image_15 ?_
    refine lv_iload_n hx hb dX8_image_18 rfl (lv_at hl 1 rfl) ?_
    refine lv_aload_n hx hb dX8_image_19 rfl (lv_at hl 0 rfl) ?_
    refine r_gr X I fl_X8_13 h5 dX8_image_20 ?_
    refine lv_iload_n hx hb dX8_image_23 rfl (lv_at hl 1 rfl) ?_
    refine r_iald X I h6 dX8_image_24 ?_
    refine r_iast X I h7 dX8_image_25 (fun H locs I => ?_)
    have hn := s_k2 (s_si_2 h7) hn
    refine lv_iinc (v := (v1 + 1)) (lv' := [(1, .int (v1 + 1)), (0, .ref v0)]) hx hb dX8_image_26 hl (k := 1) rfl rfl (by decide) rfl (fun ls hl => ?_)
    refine lv_goto (tgt := 7) hx hb dX8_image_29 (by decide) ?_
    exact k.2 p e s m below meth c _ _ _ _ _ X I hn.1 hn.2 (lv_sub hl [1, 0] rfl)
theorem v_X8_image {G : sG} {d : Nat} {vs0 : List Value} {σ0 : sS} {x : sL} {z : sZ Unit} {r : Unit × sS} (hs : S_X8_image x = some z) (k : s_K G (d + 1) M_X8_image vs0 σ0 Y_X8_image e_V z r) : s_V G (d + 1) M_X8_image vs0 σ0 Y_X8_image x (e_V r) := by
  obtain ⟨pc, vs, σ⟩ := x
  unfold S_X8_image at hs
  dsimp only at hs
  rcases s_ite hs with ⟨c, hs⟩ | ⟨-, hs⟩
  · subst c
    unfold U_X8_image_0 at hs
    obtain ⟨a0, g0, hs⟩ := s_bind hs
    obtain ⟨u9, ge, hs⟩ := s_bind hs
    rw [g_r_to g0, g_e_to ge]
    exact v_X8_image_0 hs k
  rcases s_ite hs with ⟨c, hs⟩ | ⟨-, hs⟩
  · subst c
    unfold U_X8_image_7 at hs
    obtain ⟨a0, g0, hs⟩ := s_bind hs
    obtain ⟨a1, g1, hs⟩ := s_bind hs
    obtain ⟨u9, ge, hs⟩ := s_bind hs
    rw [g_r_to g0, g_i_to g1, g_e_to ge]
    exact v_X8_image_7 hs k
  cases hs
theorem t_X8_image {G : sG} {d : Nat} {v0 : Nat} {σ : sS} {q : Unit × sS} (h : F_X8_image v0 σ = some q) : s_T G (d + 1) M_X8_image [.ref v0] σ (e_V q) := by
  unfold F_X8_image at h
  obtain ⟨-, -, h⟩ := s_bind h
  exact s_ofV rfl (by decide) (Nat.le_of_ble_eq_true rfl) rfl rfl (s_run_ind (V := fun x r => s_V G (d + 1) M_X8_image [.ref v0] σ Y_X8_image x (e_V r)) (fun x z r hs hk => v_X8_image hs (by cases z <;> exact hk)) h)
/-! X7_back -/
noncomputable def T_X7_back_0 (v0 : Nat) (σ : sS) : Option (sZ Int32) :=
  (s_fi σ v0 7 8).bind fun x1 =>
  if x1 = 0 then (some (.inr (0, σ)))
  else ((s_fr σ v0 7 1).bind fun x2 =>
  (s_fr σ v0 7 2).bind fun x3 =>
  (F_X1_take x2 x3 σ).bind fun q4 =>
  (s_fr q4.2 v0 7 0).bind fun x5 =>
  (s_fr q4.2 v0 7 1).bind fun x6 =>
  (s_fi q4.2 x6 1 1).bind fun x7 =>
  (F_X2_cut x5 x7 q4.2).bind fun q8 =>
  some (.inr (1, q8.2)))
noncomputable def U_X7_back_0 (vs : List Value) (σ : sS) : Option (sZ Int32) := (g_r vs).bind fun a0 => (g_e a0.2).bind fun _ => T_X7_back_0 a0.1 σ
noncomputable def S_X7_back (x : sL) : Option (sZ Int32) := if x.1 = 0 then U_X7_back_0 x.2.1 x.2.2 else none
def Y_X7_back (pc : Nat) : List Nat := if pc = 0 then [0] else []
noncomputable def F_X7_back (v0 : Nat) (σ : sS) : Option (Int32 × sS) := (s_is σ v0 7).bind fun _ => s_run S_X7_back (0, [.ref v0], σ)
theorem l_X7_back_0 {v0 : Nat} {σ : sS} {z : sZ Int32} (hf : T_X7_back_0 v0 σ = some z) : s_lz σ z := by
  unfold T_X7_back_0 at hf
  obtain ⟨x1, -, hf⟩ := s_bind hf
  rcases s_ite hf with ⟨-, hf⟩ | ⟨-, hf⟩
  · cases hf
    exact s_le.rf
  · obtain ⟨x2, -, hf⟩ := s_bind hf
    obtain ⟨x3, -, hf⟩ := s_bind hf
    obtain ⟨q4, hh, hf⟩ := s_bind hf
    refine s_lz.tr (l_X1_take hh) ?_
    obtain ⟨x5, -, hf⟩ := s_bind hf
    obtain ⟨x6, -, hf⟩ := s_bind hf
    obtain ⟨x7, -, hf⟩ := s_bind hf
    obtain ⟨q8, hh, hf⟩ := s_bind hf
    refine s_lz.tr (l_X2_cut hh) ?_
    cases hf
    exact s_le.rf
theorem l_X7_back_s {x : sL} {z : sZ Int32} (hs : S_X7_back x = some z) : s_lz x.2.2 z := by
  obtain ⟨pc, vs, σ⟩ := x
  unfold S_X7_back at hs
  dsimp only at hs ⊢
  rcases s_ite hs with ⟨c, hs⟩ | ⟨-, hs⟩
  · subst c
    unfold U_X7_back_0 at hs
    obtain ⟨a0, g0, hs⟩ := s_bind hs
    obtain ⟨u9, ge, hs⟩ := s_bind hs
    exact l_X7_back_0 hs
  cases hs
theorem l_X7_back {v0 : Nat} {σ : sS} {q : Int32 × sS} (h : F_X7_back v0 σ = some q) : s_le σ q.2 := by
  unfold F_X7_back at h
  obtain ⟨-, -, h⟩ := s_bind h
  exact s_run_ind (V := fun x r => s_le x.2.2 r.2) (fun x z r hs hk => by
    have h9 := l_X7_back_s hs
    cases z with
    | inl y => exact s_le.tr h9 hk
    | inr q => cases hk; exact h9) h
theorem b_X7_back {v0 : Nat} {σ : sS} {q : Int32 × sS} (h : F_X7_back v0 σ = some q) : ∃ fs, σ.1 v0 = some (.inr (7, fs)) := by
  unfold F_X7_back at h
  obtain ⟨u, hu, -⟩ := s_bind h
  exact s_is_to hu
set_option maxRecDepth 100000 in
set_option maxHeartbeats 4000000 in
theorem v_X7_back_0 {G : sG} {d : Nat} {vs0 : List Value} {σ0 : sS} {v0 : Nat} {σ : sS} {z : sZ Int32} {r : Int32 × sS} (hf : T_X7_back_0 v0 σ = some z) (k : s_K G (d + 2) M_X7_back vs0 σ0 Y_X7_back e_I z r) : s_V G (d + 2) M_X7_back vs0 σ0 Y_X7_back (0, [.ref v0], σ) (e_I r) := by
  have le0 : s_le σ (e_I r).2 := s_lek hem_I (l_X7_back_0 hf) k
  refine ⟨le0, ?_⟩
  intro p e s m below meth c H locs cells slots ls X I hn1 hn2 hl
  have hn : cells + σ0.2.1 ≤ σ.2.1 ∧ slots + σ0.2.2.1 ≤ σ.2.2.1 := ⟨hn1, hn2⟩
  have hl : lv_has ls 1 [(0, .ref v0)] := hl
  have hx := X.1
  have hb : c.code = cX7_back := X.2.1
  have hown : s.vm.findClass RX7 = some m.cls := X.2.2.2.2.2.1
  have hts := X.2.2.2.2.2.2.1
  refine W.eq (g2 := F0 m 0 ls []) rfl ?_
  unfold T_X7_back_0 at hf
  obtain ⟨x1, h1, hf⟩ := s_bind hf
  refine lv_aload_n hx hb dX7_back_0 rfl (lv_at hl 0 rfl) ?_
  refine r_gi X I fl_X7_325 h1 dX7_back_1 ?_
  rcases s_ite hf with ⟨c2, hf⟩ | ⟨c2, hf⟩
  · refine lv_if_ne (tgt := 9) hx hb dX7_back_4 (by decide) (fun n => absurd c2 n) (fun _ => ?_)
    cases hf
    have k : _ = r := k
    subst k
    refine lv_iconst (v := 0) hx hb dX7_back_7 (by decide) ?_
    exact r_iret X I rfl rfl rfl hn dX7_back_8
  · refine lv_if_ne (tgt := 9) hx hb dX7_back_4 (by decide) (fun _ => ?_) (fun n => absurd n c2)
    obtain ⟨x2, h3, hf⟩ := s_bind hf
    obtain ⟨x3, h4, hf⟩ := s_bind hf
    obtain ⟨q4, h5, hf⟩ := s_bind hf
    obtain ⟨x5, h6, hf⟩ := s_bind hf
    obtain ⟨x6, h7, hf⟩ := s_bind hf
    obtain ⟨x7, h8, hf⟩ := s_bind hf
    obtain ⟨q8, h9, hf⟩ := s_bind hf
    cases hf
    have k : _ = r := k
    subst k
    have le10 : s_le q8.2 q8.2 := s_le.rf
    have le11 := s_le.tr (l_X2_cut h9) le10
    refine lv_aload_n hx hb dX7_back_9 rfl (lv_at hl 0 rfl) ?_
    refine r_gr X I fl_X7_19 h3 dX7_back_10 ?_
    refine lv_aload_n hx hb dX7_back_13 rfl (lv_at hl 0 rfl) ?_
    refine r_gr X I fl_X7_23 h4 dX7_back_14 ?_
    refine r_callV (Y := M_X1_take) (v := none) X I w_649 my_X1_take (by omega) (t_X1_take (G := G) (d := d + 0) h5) (b_X1_take h5) rfl rfl hl.1 rfl (Nat.le_of_ble_eq_true rfl) hn le11 dX7_back_17 (fun H locs cells slots I hn1 hn2 => ?_)
    have I : s_I G q4.2 s H locs := I
    have hn : cells + σ0.2.1 ≤ q4.2.2.1 ∧ slots + σ0.2.2.1 ≤ q4.2.2.2.1 := ⟨hn1, hn2⟩
    refine lv_aload_n hx hb dX7_back_20 rfl (lv_at hl 0 rfl) ?_
    refine r_gr X I fl_X7_12 h6 dX7_back_21 ?_
    refine lv_aload_n hx hb dX7_back_24 rfl (lv_at hl 0 rfl) ?_
    refine r_gr X I fl_X7_19 h7 dX7_back_25 ?_
    refine r_gi X I fl_X7_91 h8 dX7_back_28 ?_
    refine r_callV (Y := M_X2_cut) (v := none) X I w_660 my_X2_cut (by omega) (t_X2_cut (G := G) (d := d + 0) h9) (b_X2_cut h9) rfl rfl hl.1 rfl (Nat.le_of_ble_eq_true rfl) hn le10 dX7_back_31 (fun H locs cells slots I hn1 hn2 => ?_)
    have I : s_I G q8.2 s H locs := I
    have hn : cells + σ0.2.1 ≤ q8.2.2.1 ∧ slots + σ0.2.2.1 ≤ q8.2.2.2.1 := ⟨hn1, hn2⟩
    refine lv_iconst (v := 1) hx hb dX7_back_34 (by decide) ?_
    exact r_iret X I rfl rfl rfl hn dX7_back_35
theorem v_X7_back {G : sG} {d : Nat} {vs0 : List Value} {σ0 : sS} {x : sL} {z : sZ Int32} {r : Int32 × sS} (hs : S_X7_back x = some z) (k : s_K G (d + 2) M_X7_back vs0 σ0 Y_X7_back e_I z r) : s_V G (d + 2) M_X7_back vs0 σ0 Y_X7_back x (e_I r) := by
  obtain ⟨pc, vs, σ⟩ := x
  unfold S_X7_back at hs
  dsimp only at hs
  rcases s_ite hs with ⟨c, hs⟩ | ⟨-, hs⟩
  · subst c
    unfold U_X7_back_0 at hs
    obtain ⟨a0, g0, hs⟩ := s_bind hs
    obtain ⟨u9, ge, hs⟩ := s_bind hs
    rw [g_r_to g0, g_e_to ge]
    exact v_X7_back_0 hs k
  cases hs
theorem t_X7_back {G : sG} {d : Nat} {v0 : Nat} {σ : sS} {q : Int32 × sS} (h : F_X7_back v0 σ = some q) : s_T G (d + 2) M_X7_back [.ref v0] σ (e_I q) := by
  unfold F_X7_back at h
  obtain ⟨-, -, h⟩ := s_bind h
  exact s_ofV rfl (by decide) (Nat.le_of_ble_eq_true rfl) rfl rfl (s_run_ind (V := fun x r => s_V G (d + 2) M_X7_back [.ref v0] σ Y_X7_back x (e_I r)) (fun x z r hs hk => v_X7_back hs (by cases z <;> exact hk)) h)
