/-! L_undo -/
noncomputable def T_L_undo_0 (v0 : Nat) (v1 : Int32) (v2 : Nat) (σ : sS) : Option (sZ Int32) :=
  (F_X7_undo v0 v1 σ).bind fun q1 => s_sum q1.1 (fun x2 => if x2 = 0 then (some (.inl (15, [.long 0, .int 0, .ref v2], q1.2)))
  else (some (.inl (15, [.long 1, .int 0, .ref v2], q1.2)))) (fun E3 => if E3 = "java/lang/IndexOutOfBoundsException" then (some (.inr (1, q1.2))) else none)
noncomputable def U_L_undo_0 (vs : List Value) (σ : sS) : Option (sZ Int32) := (g_r vs).bind fun a0 => (g_i a0.2).bind fun a1 => (g_r a1.2).bind fun a2 => (g_e a2.2).bind fun _ => T_L_undo_0 a0.1 a1.1 a2.1 σ
noncomputable def T_L_undo_15 (w0 : Int64) (w1 : Int32) (w2 : Nat) (σ : sS) : Option (sZ Int32) :=
  (s_sl σ w2 w1 w0).bind fun σ1 =>
  some (.inr (0, σ1))
noncomputable def U_L_undo_15 (vs : List Value) (σ : sS) : Option (sZ Int32) := (g_l vs).bind fun a0 => (g_i a0.2).bind fun a1 => (g_r a1.2).bind fun a2 => (g_e a2.2).bind fun _ => T_L_undo_15 a0.1 a1.1 a2.1 σ
noncomputable def S_L_undo (x : sL) : Option (sZ Int32) := if x.1 = 0 then U_L_undo_0 x.2.1 x.2.2 else if x.1 = 15 then U_L_undo_15 x.2.1 x.2.2 else none
def Y_L_undo (pc : Nat) : List Nat := if pc = 0 then [0, 1, 2] else if pc = 15 then [] else []
noncomputable def F_L_undo (v0 : Nat) (v1 : Int32) (v2 : Nat) (σ : sS) : Option (Int32 × sS) := s_run S_L_undo (0, [.ref v0, .int v1, .ref v2], σ)
theorem l_L_undo_0 {v0 : Nat} {v1 : Int32} {v2 : Nat} {σ : sS} {z : sZ Int32} (hf : T_L_undo_0 v0 v1 v2 σ = some z) : s_lz σ z := by
  unfold T_L_undo_0 at hf
  obtain ⟨q1, hh, hf⟩ := s_bind hf
  refine s_lz.tr (l_X7_undo hh) ?_
  rcases s_sum_some hf with ⟨x2, -, hf⟩ | ⟨E3, -, hf⟩
  · rcases s_ite hf with ⟨-, hf⟩ | ⟨-, hf⟩
    · cases hf
      exact s_le.rf
    · cases hf
      exact s_le.rf
  · rcases s_ite hf with ⟨-, hf⟩ | ⟨-, hf⟩
    · cases hf
      exact s_le.rf
    cases hf
theorem l_L_undo_15 {w0 : Int64} {w1 : Int32} {w2 : Nat} {σ : sS} {z : sZ Int32} (hf : T_L_undo_15 w0 w1 w2 σ = some z) : s_lz σ z := by
  unfold T_L_undo_15 at hf
  obtain ⟨σ1, hh, hf⟩ := s_bind hf
  refine s_lz.tr (s_le2 (s_sl_2 hh)) ?_
  cases hf
  exact s_le.rf
theorem l_L_undo_s {x : sL} {z : sZ Int32} (hs : S_L_undo x = some z) : s_lz x.2.2 z := by
  obtain ⟨pc, vs, σ⟩ := x
  unfold S_L_undo at hs
  dsimp only at hs ⊢
  rcases s_ite hs with ⟨c, hs⟩ | ⟨-, hs⟩
  · subst c
    unfold U_L_undo_0 at hs
    obtain ⟨a0, g0, hs⟩ := s_bind hs
    obtain ⟨a1, g1, hs⟩ := s_bind hs
    obtain ⟨a2, g2, hs⟩ := s_bind hs
    obtain ⟨u9, ge, hs⟩ := s_bind hs
    exact l_L_undo_0 hs
  rcases s_ite hs with ⟨c, hs⟩ | ⟨-, hs⟩
  · subst c
    unfold U_L_undo_15 at hs
    obtain ⟨a0, g0, hs⟩ := s_bind hs
    obtain ⟨a1, g1, hs⟩ := s_bind hs
    obtain ⟨a2, g2, hs⟩ := s_bind hs
    obtain ⟨u9, ge, hs⟩ := s_bind hs
    exact l_L_undo_15 hs
  cases hs
theorem l_L_undo {v0 : Nat} {v1 : Int32} {v2 : Nat} {σ : sS} {q : Int32 × sS} (h : F_L_undo v0 v1 v2 σ = some q) : s_le σ q.2 := by
  unfold F_L_undo at h
  exact s_run_ind (V := fun x r => s_le x.2.2 r.2) (fun x z r hs hk => by
    have h9 := l_L_undo_s hs
    cases z with
    | inl y => exact s_le.tr h9 hk
    | inr q => cases hk; exact h9) h
set_option maxRecDepth 100000 in
set_option maxHeartbeats 4000000 in
theorem v_L_undo_0 {G : sG} {d : Nat} {vs0 : List Value} {σ0 : sS} {v0 : Nat} {v1 : Int32} {v2 : Nat} {σ : sS} {z : sZ Int32} {r : Int32 × sS} (hf : T_L_undo_0 v0 v1 v2 σ = some z) (k : s_K G (d + 3) M_L_undo vs0 σ0 Y_L_undo e_I z r) : s_V G (d + 3) M_L_undo vs0 σ0 Y_L_undo (0, [.ref v0, .int v1, .ref v2], σ) (e_I r) := by
  have le0 : s_le σ (e_I r).2 := s_lek hem_I (l_L_undo_0 hf) k
  refine ⟨le0, ?_⟩
  intro p e s m below meth c H locs cells slots ls X I hn1 hn2 hl
  have hn : cells + σ0.2.1 ≤ σ.2.1 ∧ slots + σ0.2.2.1 ≤ σ.2.2.1 := ⟨hn1, hn2⟩
  have hl : lv_has ls 4 [(0, .ref v0), (1, .int v1), (2, .ref v2)] := hl
  have hx := X.1
  have hb : c.code = cL_undo := X.2.1
  have hown : s.vm.findClass RL = some m.cls := X.2.2.2.2.2.1
  have hts := X.2.2.2.2.2.2.1
  refine W.eq (g2 := F0 m 0 ls []) rfl ?_
  unfold T_L_undo_0 at hf
  obtain ⟨q1, h1, hf⟩ := s_bind hf
  refine lv_aload_n hx hb dL_undo_0 rfl (lv_at hl 2 rfl) ?_
  refine lv_iconst (v := 0) hx hb dL_undo_1 (by decide) ?_
  refine lv_aload_n hx hb dL_undo_2 rfl (lv_at hl 0 rfl) ?_
  refine lv_iload_n hx hb dL_undo_3 rfl (lv_at hl 1 rfl) ?_
  rcases s_sum_some hf with ⟨x2, hq2, hf⟩ | ⟨E3, hq2, hf⟩
  · have le3 : s_le q1.2 (e_I r).2 := by
      refine s_lek hem_I ?_ k
      rcases s_ite hf with ⟨-, hf⟩ | ⟨-, hf⟩
      · cases hf
        exact s_le.rf
      · cases hf
        exact s_le.rf
    refine r_callV (Y := M_X7_undo) (v := some (.int x2)) X I w_1635 my_X7_undo (by omega) (t_X7_undo (G := G) (d := d + 0) h1) (b_X7_undo h1) (e_IX_l hq2) rfl hl.1 rfl (Nat.le_of_ble_eq_true rfl) hn le3 dL_undo_4 (fun H locs cells slots I hn1 hn2 => ?_)
    have I : s_I G q1.2 s H locs := I
    have hn : cells + σ0.2.1 ≤ q1.2.2.1 ∧ slots + σ0.2.2.1 ≤ q1.2.2.2.1 := ⟨hn1, hn2⟩
    rcases s_ite hf with ⟨c4, hf⟩ | ⟨c4, hf⟩
    · refine lv_if_eq (tgt := 14) hx hb dL_undo_7 (by decide) (fun _ => ?_) (fun n => absurd c4 n)
      cases hf
      have k : s_V G (d + 3) M_L_undo vs0 σ0 Y_L_undo (15, [.long 0, .int 0, .ref v2], q1.2) (e_I r) := k
      refine lv_lconst (v := 0) hx hb dL_undo_14 (by decide) ?_
      exact k.2 p e s m below meth c _ _ _ _ _ X I hn.1 hn.2 (lv_sub hl [] rfl)
    · refine lv_if_eq (tgt := 14) hx hb dL_undo_7 (by decide) (fun n => absurd n c4) (fun _ => ?_)
      cases hf
      have k : s_V G (d + 3) M_L_undo vs0 σ0 Y_L_undo (15, [.long 1, .int 0, .ref v2], q1.2) (e_I r) := k
      refine lv_lconst (v := 1) hx hb dL_undo_10 (by decide) ?_
      refine lv_goto (tgt := 15) hx hb dL_undo_11 (by decide) ?_
      exact k.2 p e s m below meth c _ _ _ _ _ X I hn.1 hn.2 (lv_sub hl [] rfl)
  · rcases s_ite hf with ⟨c5, hf⟩ | ⟨c5, hf⟩
    · subst c5
      have le6 : s_le q1.2 (e_I r).2 := by
        refine s_lek hem_I ?_ k
        cases hf
        exact s_le.rf
      refine r_callVh (x := (0, 16, 19, 27)) (Y := M_X7_undo) (E := "java/lang/IndexOutOfBoundsException") (name := "java/lang/IndexOutOfBoundsException") X I [] [] rfl (fun z hz => by cases hz) rfl (by decide) w_1011 (by decide +kernel) w_1635 my_X7_undo (by omega) (t_X7_undo (G := G) (d := d + 0) h1) (b_X7_undo h1) (e_IX_r hq2) rfl hl.1 rfl (Nat.le_of_ble_eq_true rfl) hn le6 dL_undo_4 (fun a4 H locs cells slots I hn1 hn2 => ?_)
      have I : s_I G q1.2 s H locs := I
      have hn : cells + σ0.2.1 ≤ q1.2.2.1 ∧ slots + σ0.2.2.1 ≤ q1.2.2.2.1 := ⟨hn1, hn2⟩
      cases hf
      have k : _ = r := k
      subst k
      refine lv_astore_n (lv' := [(3, .ref a4), (0, .ref v0), (1, .int v1), (2, .ref v2)]) hx hb dL_undo_19 rfl hl (by decide) rfl (fun ls hl => ?_)
      refine lv_iconst (v := 1) hx hb dL_undo_20 (by decide) ?_
      exact r_iret X I rfl rfl rfl hn dL_undo_21
    cases hf
set_option maxRecDepth 100000 in
set_option maxHeartbeats 4000000 in
theorem v_L_undo_15 {G : sG} {d : Nat} {vs0 : List Value} {σ0 : sS} {w0 : Int64} {w1 : Int32} {w2 : Nat} {σ : sS} {z : sZ Int32} {r : Int32 × sS} (hf : T_L_undo_15 w0 w1 w2 σ = some z) (k : s_K G (d + 3) M_L_undo vs0 σ0 Y_L_undo e_I z r) : s_V G (d + 3) M_L_undo vs0 σ0 Y_L_undo (15, [.long w0, .int w1, .ref w2], σ) (e_I r) := by
  have le0 : s_le σ (e_I r).2 := s_lek hem_I (l_L_undo_15 hf) k
  refine ⟨le0, ?_⟩
  intro p e s m below meth c H locs cells slots ls X I hn1 hn2 hl
  have hn : cells + σ0.2.1 ≤ σ.2.1 ∧ slots + σ0.2.2.1 ≤ σ.2.2.1 := ⟨hn1, hn2⟩
  have hl : lv_has ls 4 [] := hl
  have hx := X.1
  have hb : c.code = cL_undo := X.2.1
  have hown : s.vm.findClass RL = some m.cls := X.2.2.2.2.2.1
  have hts := X.2.2.2.2.2.2.1
  refine W.eq (g2 := F0 m 15 ls [.long w0, .int w1, .ref w2]) rfl ?_
  unfold T_L_undo_15 at hf
  obtain ⟨σ1, h1, hf⟩ := s_bind hf
  cases hf
  have k : _ = r := k
  subst k
  have le2 : s_le σ1 σ1 := s_le.rf
  refine r_last X I h1 dL_undo_15 (fun H locs I => ?_)
  have hn := s_k2 (s_sl_2 h1) hn
  refine lv_goto (tgt := 22) hx hb dL_undo_16 (by decide) ?_
  refine lv_iconst (v := 0) hx hb dL_undo_22 (by decide) ?_
  exact r_iret X I rfl rfl rfl hn dL_undo_23
theorem v_L_undo {G : sG} {d : Nat} {vs0 : List Value} {σ0 : sS} {x : sL} {z : sZ Int32} {r : Int32 × sS} (hs : S_L_undo x = some z) (k : s_K G (d + 3) M_L_undo vs0 σ0 Y_L_undo e_I z r) : s_V G (d + 3) M_L_undo vs0 σ0 Y_L_undo x (e_I r) := by
  obtain ⟨pc, vs, σ⟩ := x
  unfold S_L_undo at hs
  dsimp only at hs
  rcases s_ite hs with ⟨c, hs⟩ | ⟨-, hs⟩
  · subst c
    unfold U_L_undo_0 at hs
    obtain ⟨a0, g0, hs⟩ := s_bind hs
    obtain ⟨a1, g1, hs⟩ := s_bind hs
    obtain ⟨a2, g2, hs⟩ := s_bind hs
    obtain ⟨u9, ge, hs⟩ := s_bind hs
    rw [g_r_to g0, g_i_to g1, g_r_to g2, g_e_to ge]
    exact v_L_undo_0 hs k
  rcases s_ite hs with ⟨c, hs⟩ | ⟨-, hs⟩
  · subst c
    unfold U_L_undo_15 at hs
    obtain ⟨a0, g0, hs⟩ := s_bind hs
    obtain ⟨a1, g1, hs⟩ := s_bind hs
    obtain ⟨a2, g2, hs⟩ := s_bind hs
    obtain ⟨u9, ge, hs⟩ := s_bind hs
    rw [g_l_to g0, g_i_to g1, g_r_to g2, g_e_to ge]
    exact v_L_undo_15 hs k
  cases hs
theorem t_L_undo {G : sG} {d : Nat} {v0 : Nat} {v1 : Int32} {v2 : Nat} {σ : sS} {q : Int32 × sS} (h : F_L_undo v0 v1 v2 σ = some q) : s_T G (d + 3) M_L_undo [.ref v0, .int v1, .ref v2] σ (e_I q) := by
  unfold F_L_undo at h
  exact s_ofVH rfl (by decide) (Nat.le_of_ble_eq_true rfl) rfl rfl (s_run_ind (V := fun x r => s_V G (d + 3) M_L_undo [.ref v0, .int v1, .ref v2] σ Y_L_undo x (e_I r)) (fun x z r hs hk => v_L_undo hs (by cases z <;> exact hk)) h)
/-! X8_undo -/
noncomputable def T_X8_undo_0 (v0 : Nat) (v1 : Int32) (σ : sS) : Option (sZ Int32) :=
  (s_pf σ v0 8 0 (.int 0)).bind fun σ1 =>
  (F_X8_receipts v0 σ1).bind fun q2 =>
  (F_X8_in v1 0 (q2.1 - 1) q2.2).bind fun q3 =>
  if q3.1 = 0 then (some (.inl (25, [.ref v0, .int v1, .int 1, .ref v0], q3.2)))
  else (some (.inl (25, [.ref v0, .int v1, .int 0, .ref v0], q3.2)))
noncomputable def U_X8_undo_0 (vs : List Value) (σ : sS) : Option (sZ Int32) := (g_r vs).bind fun a0 => (g_i a0.2).bind fun a1 => (g_e a1.2).bind fun _ => T_X8_undo_0 a0.1 a1.1 σ
noncomputable def T_X8_undo_25 (v0 : Nat) (v1 : Int32) (w0 : Int32) (w1 : Nat) (σ : sS) : Option (sZ Int32) :=
  (F_X8_throwsIf w1 w0 1 σ).bind fun q1 =>
  if q1.1 = 0 then ((F_X8_isVoid v0 v1 q1.2).bind fun q2 =>
  (s_fr q2.2 v0 8 1).bind fun x3 =>
  (s_si q2.2 x3 ((1532 + (5 * v1)) + 4) 1).bind fun σ4 =>
  if q2.1 = 0 then (some (.inr (1, σ4)))
  else (some (.inr (0, σ4))))
  else (some (.inr (0, q1.2)))
noncomputable def U_X8_undo_25 (vs : List Value) (σ : sS) : Option (sZ Int32) := (g_r vs).bind fun a0 => (g_i a0.2).bind fun a1 => (g_i a1.2).bind fun a2 => (g_r a2.2).bind fun a3 => (g_e a3.2).bind fun _ => T_X8_undo_25 a0.1 a1.1 a2.1 a3.1 σ
noncomputable def S_X8_undo (x : sL) : Option (sZ Int32) := if x.1 = 0 then U_X8_undo_0 x.2.1 x.2.2 else if x.1 = 25 then U_X8_undo_25 x.2.1 x.2.2 else none
def Y_X8_undo (pc : Nat) : List Nat := if pc = 0 then [0, 1] else if pc = 25 then [0, 1] else []
noncomputable def F_X8_undo (v0 : Nat) (v1 : Int32) (σ : sS) : Option (Int32 × sS) := (s_is σ v0 8).bind fun _ => s_run S_X8_undo (0, [.ref v0, .int v1], σ)
theorem l_X8_undo_0 {v0 : Nat} {v1 : Int32} {σ : sS} {z : sZ Int32} (hf : T_X8_undo_0 v0 v1 σ = some z) : s_lz σ z := by
  unfold T_X8_undo_0 at hf
  obtain ⟨σ1, hh, hf⟩ := s_bind hf
  refine s_lz.tr (s_le2 (s_pf_2 hh)) ?_
  obtain ⟨q2, hh, hf⟩ := s_bind hf
  refine s_lz.tr (l_X8_receipts hh) ?_
  obtain ⟨q3, hh, hf⟩ := s_bind hf
  refine s_lz.tr (l_X8_in hh) ?_
  rcases s_ite hf with ⟨-, hf⟩ | ⟨-, hf⟩
  · cases hf
    exact s_le.rf
  · cases hf
    exact s_le.rf
theorem l_X8_undo_25 {v0 : Nat} {v1 : Int32} {w0 : Int32} {w1 : Nat} {σ : sS} {z : sZ Int32} (hf : T_X8_undo_25 v0 v1 w0 w1 σ = some z) : s_lz σ z := by
  unfold T_X8_undo_25 at hf
  obtain ⟨q1, hh, hf⟩ := s_bind hf
  refine s_lz.tr (l_X8_throwsIf hh) ?_
  rcases s_ite hf with ⟨-, hf⟩ | ⟨-, hf⟩
  · obtain ⟨q2, hh, hf⟩ := s_bind hf
    refine s_lz.tr (l_X8_isVoid hh) ?_
    obtain ⟨x3, -, hf⟩ := s_bind hf
    obtain ⟨σ4, hh, hf⟩ := s_bind hf
    refine s_lz.tr (s_le2 (s_si_2 hh)) ?_
    rcases s_ite hf with ⟨-, hf⟩ | ⟨-, hf⟩
    · cases hf
      exact s_le.rf
    · cases hf
      exact s_le.rf
  · cases hf
    exact s_le.rf
theorem l_X8_undo_s {x : sL} {z : sZ Int32} (hs : S_X8_undo x = some z) : s_lz x.2.2 z := by
  obtain ⟨pc, vs, σ⟩ := x
  unfold S_X8_undo at hs
  dsimp only at hs ⊢
  rcases s_ite hs with ⟨c, hs⟩ | ⟨-, hs⟩
  · subst c
    unfold U_X8_undo_0 at hs
    obtain ⟨a0, g0, hs⟩ := s_bind hs
    obtain ⟨a1, g1, hs⟩ := s_bind hs
    obtain ⟨u9, ge, hs⟩ := s_bind hs
    exact l_X8_undo_0 hs
  rcases s_ite hs with ⟨c, hs⟩ | ⟨-, hs⟩
  · subst c
    unfold U_X8_undo_25 at hs
    obtain ⟨a0, g0, hs⟩ := s_bind hs
    obtain ⟨a1, g1, hs⟩ := s_bind hs
    obtain ⟨a2, g2, hs⟩ := s_bind hs
    obtain ⟨a3, g3, hs⟩ := s_bind hs
    obtain ⟨u9, ge, hs⟩ := s_bind hs
    exact l_X8_undo_25 hs
  cases hs
theorem l_X8_undo {v0 : Nat} {v1 : Int32} {σ : sS} {q : Int32 × sS} (h : F_X8_undo v0 v1 σ = some q) : s_le σ q.2 := by
  unfold F_X8_undo at h
  obtain ⟨-, -, h⟩ := s_bind h
  exact s_run_ind (V := fun x r => s_le x.2.2 r.2) (fun x z r hs hk => by
    have h9 := l_X8_undo_s hs
    cases z with
    | inl y => exact s_le.tr h9 hk
    | inr q => cases hk; exact h9) h
theorem b_X8_undo {v0 : Nat} {v1 : Int32} {σ : sS} {q : Int32 × sS} (h : F_X8_undo v0 v1 σ = some q) : ∃ fs, σ.1 v0 = some (.inr (8, fs)) := by
  unfold F_X8_undo at h
  obtain ⟨u, hu, -⟩ := s_bind h
  exact s_is_to hu
set_option maxRecDepth 100000 in
set_option maxHeartbeats 4000000 in
theorem v_X8_undo_0 {G : sG} {d : Nat} {vs0 : List Value} {σ0 : sS} {v0 : Nat} {v1 : Int32} {σ : sS} {z : sZ Int32} {r : Int32 × sS} (hf : T_X8_undo_0 v0 v1 σ = some z) (k : s_K G (d + 3) M_X8_undo vs0 σ0 Y_X8_undo e_I z r) : s_V G (d + 3) M_X8_undo vs0 σ0 Y_X8_undo (0, [.ref v0, .int v1], σ) (e_I r) := by
  have le0 : s_le σ (e_I r).2 := s_lek hem_I (l_X8_undo_0 hf) k
  refine ⟨le0, ?_⟩
  intro p e s m below meth c H locs cells slots ls X I hn1 hn2 hl
  have hn : cells + σ0.2.1 ≤ σ.2.1 ∧ slots + σ0.2.2.1 ≤ σ.2.2.1 := ⟨hn1, hn2⟩
  have hl : lv_has ls 3 [(0, .ref v0), (1, .int v1)] := hl
  have hx := X.1
  have hb : c.code = cX8_undo := X.2.1
  have hown : s.vm.findClass RX8 = some m.cls := X.2.2.2.2.2.1
  have hts := X.2.2.2.2.2.2.1
  refine W.eq (g2 := F0 m 0 ls []) rfl ?_
  unfold T_X8_undo_0 at hf
  obtain ⟨σ1, h1, hf⟩ := s_bind hf
  obtain ⟨q2, h2, hf⟩ := s_bind hf
  obtain ⟨q3, h3, hf⟩ := s_bind hf
  have le4 : s_le q3.2 (e_I r).2 := by
    refine s_lek hem_I ?_ k
    rcases s_ite hf with ⟨-, hf⟩ | ⟨-, hf⟩
    · cases hf
      exact s_le.rf
    · cases hf
      exact s_le.rf
  have le5 := s_le.tr (l_X8_in h3) le4
  have le6 := s_le.tr (l_X8_receipts h2) le5
  refine lv_aload_n hx hb dX8_undo_0 rfl (lv_at hl 0 rfl) ?_
  refine lv_iconst (v := 0) hx hb dX8_undo_1 (by decide) ?_
  refine r_put X I fp_X8_3 (fun h => by cases h) h1 rfl rfl dX8_undo_2 (fun H locs I => ?_)
  have hn := s_k2 (s_pf_2 h1) hn
  refine lv_aload_n hx hb dX8_undo_5 rfl (lv_at hl 0 rfl) ?_
  refine lv_iload_n hx hb dX8_undo_6 rfl (lv_at hl 1 rfl) ?_
  refine lv_iconst (v := 0) hx hb dX8_undo_7 (by decide) ?_
  refine lv_aload_n hx hb dX8_undo_8 rfl (lv_at hl 0 rfl) ?_
  refine r_callV (Y := M_X8_receipts) (v := some (.int q2.1)) X I w_2295 my_X8_receipts (by omega) (t_X8_receipts (G := G) (d := d + 1) h2) (b_X8_receipts h2) rfl rfl hl.1 rfl (Nat.le_of_ble_eq_true rfl) hn le5 dX8_undo_9 (fun H locs cells slots I hn1 hn2 => ?_)
  have I : s_I G q2.2 s H locs := I
  have hn : cells + σ0.2.1 ≤ q2.2.2.1 ∧ slots + σ0.2.2.1 ≤ q2.2.2.2.1 := ⟨hn1, hn2⟩
  refine lv_iconst (v := 1) hx hb dX8_undo_12 (by decide) ?_
  refine lv_isub hx hb dX8_undo_13 ?_
  refine r_callS (Y := M_X8_in) (v := some (.int q3.1)) X I w_1909 my_X8_in (by omega) (t_X8_in (G := G) (d := d + 1) h3) rfl rfl hl.1 rfl (Nat.le_of_ble_eq_true rfl) hn le4 dX8_undo_14 (fun H locs cells slots I hn1 hn2 => ?_)
  have I : s_I G q3.2 s H locs := I
  have hn : cells + σ0.2.1 ≤ q3.2.2.1 ∧ slots + σ0.2.2.1 ≤ q3.2.2.2.1 := ⟨hn1, hn2⟩
  rcases s_ite hf with ⟨c7, hf⟩ | ⟨c7, hf⟩
  · refine lv_if_ne (tgt := 24) hx hb dX8_undo_17 (by decide) (fun n => absurd c7 n) (fun _ => ?_)
    cases hf
    have k : s_V G (d + 3) M_X8_undo vs0 σ0 Y_X8_undo (25, [.ref v0, .int v1, .int 1, .ref v0], q3.2) (e_I r) := k
    refine lv_iconst (v := 1) hx hb dX8_undo_20 (by decide) ?_
    refine lv_goto (tgt := 25) hx hb dX8_undo_21 (by decide) ?_
    exact k.2 p e s m below meth c _ _ _ _ _ X I hn.1 hn.2 (lv_sub hl [0, 1] rfl)
  · refine lv_if_ne (tgt := 24) hx hb dX8_undo_17 (by decide) (fun _ => ?_) (fun n => absurd n c7)
    cases hf
    have k : s_V G (d + 3) M_X8_undo vs0 σ0 Y_X8_undo (25, [.ref v0, .int v1, .int 0, .ref v0], q3.2) (e_I r) := k
    refine lv_iconst (v := 0) hx hb dX8_undo_24 (by decide) ?_
    exact k.2 p e s m below meth c _ _ _ _ _ X I hn.1 hn.2 (lv_sub hl [0, 1] rfl)
set_option maxRecDepth 100000 in
set_option maxHeartbeats 4000000 in
theorem v_X8_undo_25 {G : sG} {d : Nat} {vs0 : List Value} {σ0 : sS} {v0 : Nat} {v1 : Int32} {w0 : Int32} {w1 : Nat} {σ : sS} {z : sZ Int32} {r : Int32 × sS} (hf : T_X8_undo_25 v0 v1 w0 w1 σ = some z) (k : s_K G (d + 3) M_X8_undo vs0 σ0 Y_X8_undo e_I z r) : s_V G (d + 3) M_X8_undo vs0 σ0 Y_X8_undo (25, [.ref v0, .int v1, .int w0, .ref w1], σ) (e_I r) := by
  have le0 : s_le σ (e_I r).2 := s_lek hem_I (l_X8_undo_25 hf) k
  refine ⟨le0, ?_⟩
  intro p e s m below meth c H locs cells slots ls X I hn1 hn2 hl
  have hn : cells + σ0.2.1 ≤ σ.2.1 ∧ slots + σ0.2.2.1 ≤ σ.2.2.1 := ⟨hn1, hn2⟩
  have hl : lv_has ls 3 [(0, .ref v0), (1, .int v1)] := hl
  have hx := X.1
  have hb : c.code = cX8_undo := X.2.1
  have hown : s.vm.findClass RX8 = some m.cls := X.2.2.2.2.2.1
  have hts := X.2.2.2.2.2.2.1
  refine W.eq (g2 := F0 m 25 ls [.int w0, .ref w1]) rfl ?_
  unfold T_X8_undo_25 at hf
  obtain ⟨q1, h1, hf⟩ := s_bind hf
  have le2 : s_le q1.2 (e_I r).2 := by
    refine s_lek hem_I ?_ k
    rcases s_ite hf with ⟨-, hf⟩ | ⟨-, hf⟩
    · obtain ⟨q2, hh, hf⟩ := s_bind hf
      refine s_lz.tr (l_X8_isVoid hh) ?_
      obtain ⟨x3, -, hf⟩ := s_bind hf
      obtain ⟨σ4, hh, hf⟩ := s_bind hf
      refine s_lz.tr (s_le2 (s_si_2 hh)) ?_
      rcases s_ite hf with ⟨-, hf⟩ | ⟨-, hf⟩
      · cases hf
        exact s_le.rf
      · cases hf
        exact s_le.rf
    · cases hf
      exact s_le.rf
  refine lv_iconst (v := 1) hx hb dX8_undo_25 (by decide) ?_
  refine r_callV (Y := M_X8_throwsIf) (v := some (.int q1.1)) X I w_1897 my_X8_throwsIf (by omega) (t_X8_throwsIf (G := G) (d := d + 1) h1) (b_X8_throwsIf h1) rfl rfl hl.1 rfl (Nat.le_of_ble_eq_true rfl) hn le2 dX8_undo_26 (fun H locs cells slots I hn1 hn2 => ?_)
  have I : s_I G q1.2 s H locs := I
  have hn : cells + σ0.2.1 ≤ q1.2.2.1 ∧ slots + σ0.2.2.1 ≤ q1.2.2.2.1 := ⟨hn1, hn2⟩
  rcases s_ite hf with ⟨c3, hf⟩ | ⟨c3, hf⟩
  · refine lv_if_eq (tgt := 34) hx hb dX8_undo_29 (by decide) (fun _ => ?_) (fun n => absurd c3 n)
    obtain ⟨q2, h4, hf⟩ := s_bind hf
    obtain ⟨x3, h5, hf⟩ := s_bind hf
    obtain ⟨σ4, h6, hf⟩ := s_bind hf
    have le7 : s_le σ4 (e_I r).2 := by
      refine s_lek hem_I ?_ k
      rcases s_ite hf with ⟨-, hf⟩ | ⟨-, hf⟩
      · cases hf
        exact s_le.rf
      · cases hf
        exact s_le.rf
    have le8 := s_le.tr (s_le2 (s_si_2 h6)) le7
    refine lv_aload_n hx hb dX8_undo_34 rfl (lv_at hl 0 rfl) ?_
    refine lv_iload_n hx hb dX8_undo_35 rfl (lv_at hl 1 rfl) ?_
    refine r_callV (Y := M_X8_isVoid) (v := some (.int q2.1)) X I w_2303 my_X8_isVoid (by omega) (t_X8_isVoid (G := G) (d := d + 0) h4) (b_X8_isVoid h4) rfl rfl hl.1 rfl (Nat.le_of_ble_eq_true rfl) hn le8 dX8_undo_36 (fun H locs cells slots I hn1 hn2 => ?_)
    have I : s_I G q2.2 s H locs := I
    have hn : cells + σ0.2.1 ≤ q2.2.2.1 ∧ slots + σ0.2.2.1 ≤ q2.2.2.2.1 := ⟨hn1, hn2⟩
    refine lv_istore_n (lv' := [(2, .int q2.1), (0, .ref v0), (1, .int v1)]) hx hb dX8_undo_39 rfl hl (by decide) rfl (fun ls hl => ?_)
    refine lv_aload_n hx hb dX8_undo_40 rfl (lv_at hl 1 rfl) ?_
    refine r_gr X I fl_X8_13 h5 dX8_undo_41 ?_
    refine lv_sipush (v := 1532) hx hb dX8_undo_44 (by decide) ?_
    refine lv_iconst (v := 5) hx hb dX8_undo_47 (by decide) ?_
    refine lv_iload_n hx hb dX8_undo_48 rfl (lv_at hl 2 rfl) ?_
    refine lv_imul hx hb dX8_undo_49 ?_
    refine lv_iadd hx hb dX8_undo_50 ?_
    refine lv_iconst (v := 4) hx hb dX8_undo_51 (by decide) ?_
    refine lv_iadd hx hb dX8_undo_52 ?_
    refine lv_iconst (v := 1) hx hb dX8_undo_53 (by decide) ?_
    refine r_iast X I h6 dX8_undo_54 (fun H locs I => ?_)
    have hn := s_k2 (s_si_2 h6) hn
    refine lv_iload_n hx hb dX8_undo_55 rfl (lv_at hl 0 rfl) ?_
    rcases s_ite hf with ⟨c9, hf⟩ | ⟨c9, hf⟩
    · refine lv_if_ne (tgt := 63) hx hb dX8_undo_56 (by decide) (fun n => absurd c9 n) (fun _ => ?_)
      cases hf
      have k : _ = r := k
      subst k
      refine lv_iconst (v := 1) hx hb dX8_undo_59 (by decide) ?_
      refine lv_goto (tgt := 64) hx hb dX8_undo_60 (by decide) ?_
      exact r_iret X I rfl rfl rfl hn dX8_undo_64
    · refine lv_if_ne (tgt := 63) hx hb dX8_undo_56 (by decide) (fun _ => ?_) (fun n => absurd n c9)
      cases hf
      have k : _ = r := k
      subst k
      refine lv_iconst (v := 0) hx hb dX8_undo_63 (by decide) ?_
      exact r_iret X I rfl rfl rfl hn dX8_undo_64
  · refine lv_if_eq (tgt := 34) hx hb dX8_undo_29 (by decide) (fun n => absurd n c3) (fun _ => ?_)
    cases hf
    have k : _ = r := k
    subst k
    refine lv_iconst (v := 0) hx hb dX8_undo_32 (by decide) ?_
    exact r_iret X I rfl rfl rfl hn dX8_undo_33
theorem v_X8_undo {G : sG} {d : Nat} {vs0 : List Value} {σ0 : sS} {x : sL} {z : sZ Int32} {r : Int32 × sS} (hs : S_X8_undo x = some z) (k : s_K G (d + 3) M_X8_undo vs0 σ0 Y_X8_undo e_I z r) : s_V G (d + 3) M_X8_undo vs0 σ0 Y_X8_undo x (e_I r) := by
  obtain ⟨pc, vs, σ⟩ := x
  unfold S_X8_undo at hs
  dsimp only at hs
  rcases s_ite hs with ⟨c, hs⟩ | ⟨-, hs⟩
  · subst c
    unfold U_X8_undo_0 at hs
    obtain ⟨a0, g0, hs⟩ := s_bind hs
    obtain ⟨a1, g1, hs⟩ := s_bind hs
    obtain ⟨u9, ge, hs⟩ := s_bind hs
    rw [g_r_to g0, g_i_to g1, g_e_to ge]
    exact v_X8_undo_0 hs k
  rcases s_ite hs with ⟨c, hs⟩ | ⟨-, hs⟩
  · subst c
    unfold U_X8_undo_25 at hs
    obtain ⟨a0, g0, hs⟩ := s_bind hs
    obtain ⟨a1, g1, hs⟩ := s_bind hs
    obtain ⟨a2, g2, hs⟩ := s_bind hs
    obtain ⟨a3, g3, hs⟩ := s_bind hs
    obtain ⟨u9, ge, hs⟩ := s_bind hs
    rw [g_r_to g0, g_i_to g1, g_i_to g2, g_r_to g3, g_e_to ge]
    exact v_X8_undo_25 hs k
  cases hs
theorem t_X8_undo {G : sG} {d : Nat} {v0 : Nat} {v1 : Int32} {σ : sS} {q : Int32 × sS} (h : F_X8_undo v0 v1 σ = some q) : s_T G (d + 3) M_X8_undo [.ref v0, .int v1] σ (e_I q) := by
  unfold F_X8_undo at h
  obtain ⟨-, -, h⟩ := s_bind h
  exact s_ofV rfl (by decide) (Nat.le_of_ble_eq_true rfl) rfl rfl (s_run_ind (V := fun x r => s_V G (d + 3) M_X8_undo [.ref v0, .int v1] σ Y_X8_undo x (e_I r)) (fun x z r hs hk => v_X8_undo hs (by cases z <;> exact hk)) h)
/-! X6_owedBy -/
noncomputable def T_X6_owedBy_0 (v0 : Nat) (v1 : Int32) (v2 : Int32) (v3 : Int32) (σ : sS) : Option (sZ Int32) :=
  (F_X6_refunded v0 v3 σ).bind fun q1 =>
  some (.inl (13, [.ref v0, .int v1, .int v2, .int q1.1, .int 0, .int 0], q1.2))
noncomputable def U_X6_owedBy_0 (vs : List Value) (σ : sS) : Option (sZ Int32) := (g_r vs).bind fun a0 => (g_i a0.2).bind fun a1 => (g_i a1.2).bind fun a2 => (g_i a2.2).bind fun a3 => (g_e a3.2).bind fun _ => T_X6_owedBy_0 a0.1 a1.1 a2.1 a3.1 σ
noncomputable def T_X6_owedBy_13 (v0 : Nat) (v1 : Int32) (v2 : Int32) (v4 : Int32) (v5 : Int32) (v6 : Int32) (σ : sS) : Option (sZ Int32) :=
  (s_fr σ v0 6 0).bind fun x1 =>
  (s_fi σ x1 1 9).bind fun x2 =>
  if x2 ≤ v6 then (some (.inr (v5, σ)))
  else (if v2 = (-1) then (some (.inl (44, [.ref v0, .int v1, .int v2, .int v4, .int v5, .int v6], σ)))
  else ((s_fr σ v0 6 0).bind fun x3 =>
  (F_X1_ofReceipt x3 v6 1 σ).bind fun q4 =>
  if q4.1 = v2 then (some (.inl (44, [.ref v0, .int v1, .int v2, .int v4, .int v5, .int v6], q4.2)))
  else (some (.inl (49, [.ref v0, .int v1, .int v2, .int v4, .int v5, .int v6, .int 0], q4.2)))))
noncomputable def U_X6_owedBy_13 (vs : List Value) (σ : sS) : Option (sZ Int32) := (g_r vs).bind fun a0 => (g_i a0.2).bind fun a1 => (g_i a1.2).bind fun a2 => (g_i a2.2).bind fun a3 => (g_i a3.2).bind fun a4 => (g_i a4.2).bind fun a5 => (g_e a5.2).bind fun _ => T_X6_owedBy_13 a0.1 a1.1 a2.1 a3.1 a4.1 a5.1 σ
noncomputable def T_X6_owedBy_44 (v0 : Nat) (v1 : Int32) (v2 : Int32) (v4 : Int32) (v5 : Int32) (v6 : Int32) (σ : sS) : Option (sZ Int32) :=
  some (.inl (49, [.ref v0, .int v1, .int v2, .int v4, .int v5, .int v6, .int 1], σ))
noncomputable def U_X6_owedBy_44 (vs : List Value) (σ : sS) : Option (sZ Int32) := (g_r vs).bind fun a0 => (g_i a0.2).bind fun a1 => (g_i a1.2).bind fun a2 => (g_i a2.2).bind fun a3 => (g_i a3.2).bind fun a4 => (g_i a4.2).bind fun a5 => (g_e a5.2).bind fun _ => T_X6_owedBy_44 a0.1 a1.1 a2.1 a3.1 a4.1 a5.1 σ
noncomputable def T_X6_owedBy_49 (v0 : Nat) (v1 : Int32) (v2 : Int32) (v4 : Int32) (v5 : Int32) (v6 : Int32) (w0 : Int32) (σ : sS) : Option (sZ Int32) :=
  if ((v4 >>> (v6 &&& 31)) &&& 1) = 0 then (some (.inl (91, [.ref v0, .int v1, .int v2, .int v4, .int v5, .int v6], σ)))
  else (if w0 = 0 then (some (.inl (91, [.ref v0, .int v1, .int v2, .int v4, .int v5, .int v6], σ)))
  else ((F_X6_sellerOf v0 v6 σ).bind fun q1 =>
  if q1.1 = v1 then ((s_fr q1.2 v0 6 0).bind fun x2 =>
  (F_X1_ofReceipt x2 v6 2 q1.2).bind fun q3 =>
  some (.inl (91, [.ref v0, .int v1, .int v2, .int v4, .int (v5 + q3.1), .int v6], q3.2)))
  else (some (.inl (91, [.ref v0, .int v1, .int v2, .int v4, .int v5, .int v6], q1.2)))))
noncomputable def U_X6_owedBy_49 (vs : List Value) (σ : sS) : Option (sZ Int32) := (g_r vs).bind fun a0 => (g_i a0.2).bind fun a1 => (g_i a1.2).bind fun a2 => (g_i a2.2).bind fun a3 => (g_i a3.2).bind fun a4 => (g_i a4.2).bind fun a5 => (g_i a5.2).bind fun a6 => (g_e a6.2).bind fun _ => T_X6_owedBy_49 a0.1 a1.1 a2.1 a3.1 a4.1 a5.1 a6.1 σ
noncomputable def T_X6_owedBy_91 (v0 : Nat) (v1 : Int32) (v2 : Int32) (v4 : Int32) (v5 : Int32) (v6 : Int32) (σ : sS) : Option (sZ Int32) :=
  some (.inl (13, [.ref v0, .int v1, .int v2, .int v4, .int v5, .int (v6 + 1)], σ))
noncomputable def U_X6_owedBy_91 (vs : List Value) (σ : sS) : Option (sZ Int32) := (g_r vs).bind fun a0 => (g_i a0.2).bind fun a1 => (g_i a1.2).bind fun a2 => (g_i a2.2).bind fun a3 => (g_i a3.2).bind fun a4 => (g_i a4.2).bind fun a5 => (g_e a5.2).bind fun _ => T_X6_owedBy_91 a0.1 a1.1 a2.1 a3.1 a4.1 a5.1 σ
noncomputable def S_X6_owedBy (x : sL) : Option (sZ Int32) := if x.1 = 0 then U_X6_owedBy_0 x.2.1 x.2.2 else if x.1 = 13 then U_X6_owedBy_13 x.2.1 x.2.2 else if x.1 = 44 then U_X6_owedBy_44 x.2.1 x.2.2 else if x.1 = 49 then U_X6_owedBy_49 x.2.1 x.2.2 else if x.1 = 91 then U_X6_owedBy_91 x.2.1 x.2.2 else none
def Y_X6_owedBy (pc : Nat) : List Nat := if pc = 0 then [0, 1, 2, 3] else if pc = 13 then [0, 1, 2, 4, 5, 6] else if pc = 44 then [0, 1, 2, 4, 5, 6] else if pc = 49 then [0, 1, 2, 4, 5, 6] else if pc = 91 then [0, 1, 2, 4, 5, 6] else []
noncomputable def F_X6_owedBy (v0 : Nat) (v1 : Int32) (v2 : Int32) (v3 : Int32) (σ : sS) : Option (Int32 × sS) := (s_is σ v0 6).bind fun _ => s_run S_X6_owedBy (0, [.ref v0, .int v1, .int v2, .int v3], σ)
theorem l_X6_owedBy_0 {v0 : Nat} {v1 : Int32} {v2 : Int32} {v3 : Int32} {σ : sS} {z : sZ Int32} (hf : T_X6_owedBy_0 v0 v1 v2 v3 σ = some z) : s_lz σ z := by
  unfold T_X6_owedBy_0 at hf
  obtain ⟨q1, hh, hf⟩ := s_bind hf
  refine s_lz.tr (l_X6_refunded hh) ?_
  cases hf
  exact s_le.rf
theorem l_X6_owedBy_13 {v0 : Nat} {v1 : Int32} {v2 : Int32} {v4 : Int32} {v5 : Int32} {v6 : Int32} {σ : sS} {z : sZ Int32} (hf : T_X6_owedBy_13 v0 v1 v2 v4 v5 v6 σ = some z) : s_lz σ z := by
  unfold T_X6_owedBy_13 at hf
  obtain ⟨x1, -, hf⟩ := s_bind hf
  obtain ⟨x2, -, hf⟩ := s_bind hf
  rcases s_ite hf with ⟨-, hf⟩ | ⟨-, hf⟩
  · cases hf
    exact s_le.rf
  · rcases s_ite hf with ⟨-, hf⟩ | ⟨-, hf⟩
    · cases hf
      exact s_le.rf
    · obtain ⟨x3, -, hf⟩ := s_bind hf
      obtain ⟨q4, hh, hf⟩ := s_bind hf
      refine s_lz.tr (l_X1_ofReceipt hh) ?_
      rcases s_ite hf with ⟨-, hf⟩ | ⟨-, hf⟩
      · cases hf
        exact s_le.rf
      · cases hf
        exact s_le.rf
theorem l_X6_owedBy_44 {v0 : Nat} {v1 : Int32} {v2 : Int32} {v4 : Int32} {v5 : Int32} {v6 : Int32} {σ : sS} {z : sZ Int32} (hf : T_X6_owedBy_44 v0 v1 v2 v4 v5 v6 σ = some z) : s_lz σ z := by
  unfold T_X6_owedBy_44 at hf
  cases hf
  exact s_le.rf
theorem l_X6_owedBy_49 {v0 : Nat} {v1 : Int32} {v2 : Int32} {v4 : Int32} {v5 : Int32} {v6 : Int32} {w0 : Int32} {σ : sS} {z : sZ Int32} (hf : T_X6_owedBy_49 v0 v1 v2 v4 v5 v6 w0 σ = some z) : s_lz σ z := by
  unfold T_X6_owedBy_49 at hf
  rcases s_ite hf with ⟨-, hf⟩ | ⟨-, hf⟩
  · cases hf
    exact s_le.rf
  · rcases s_ite hf with ⟨-, hf⟩ | ⟨-, hf⟩
    · cases hf
      exact s_le.rf
    · obtain ⟨q1, hh, hf⟩ := s_bind hf
      refine s_lz.tr (l_X6_sellerOf hh) ?_
      rcases s_ite hf with ⟨-, hf⟩ | ⟨-, hf⟩
      · obtain ⟨x2, -, hf⟩ := s_bind hf
        obtain ⟨q3, hh, hf⟩ := s_bind hf
        refine s_lz.tr (l_X1_ofReceipt hh) ?_
        cases hf
        exact s_le.rf
      · cases hf
        exact s_le.rf
theorem l_X6_owedBy_91 {v0 : Nat} {v1 : Int32} {v2 : Int32} {v4 : Int32} {v5 : Int32} {v6 : Int32} {σ : sS} {z : sZ Int32} (hf : T_X6_owedBy_91 v0 v1 v2 v4 v5 v6 σ = some z) : s_lz σ z := by
  unfold T_X6_owedBy_91 at hf
  cases hf
  exact s_le.rf
theorem l_X6_owedBy_s {x : sL} {z : sZ Int32} (hs : S_X6_owedBy x = some z) : s_lz x.2.2 z := by
  obtain ⟨pc, vs, σ⟩ := x
  unfold S_X6_owedBy at hs
  dsimp only at hs ⊢
  rcases s_ite hs with ⟨c, hs⟩ | ⟨-, hs⟩
  · subst c
    unfold U_X6_owedBy_0 at hs
    obtain ⟨a0, g0, hs⟩ := s_bind hs
    obtain ⟨a1, g1, hs⟩ := s_bind hs
    obtain ⟨a2, g2, hs⟩ := s_bind hs
    obtain ⟨a3, g3, hs⟩ := s_bind hs
    obtain ⟨u9, ge, hs⟩ := s_bind hs
    exact l_X6_owedBy_0 hs
  rcases s_ite hs with ⟨c, hs⟩ | ⟨-, hs⟩
  · subst c
    unfold U_X6_owedBy_13 at hs
    obtain ⟨a0, g0, hs⟩ := s_bind hs
    obtain ⟨a1, g1, hs⟩ := s_bind hs
    obtain ⟨a2, g2, hs⟩ := s_bind hs
    obtain ⟨a3, g3, hs⟩ := s_bind hs
    obtain ⟨a4, g4, hs⟩ := s_bind hs
    obtain ⟨a5, g5, hs⟩ := s_bind hs
    obtain ⟨u9, ge, hs⟩ := s_bind hs
    exact l_X6_owedBy_13 hs
  rcases s_ite hs with ⟨c, hs⟩ | ⟨-, hs⟩
  · subst c
    unfold U_X6_owedBy_44 at hs
    obtain ⟨a0, g0, hs⟩ := s_bind hs
    obtain ⟨a1, g1, hs⟩ := s_bind hs
    obtain ⟨a2, g2, hs⟩ := s_bind hs
    obtain ⟨a3, g3, hs⟩ := s_bind hs
    obtain ⟨a4, g4, hs⟩ := s_bind hs
    obtain ⟨a5, g5, hs⟩ := s_bind hs
    obtain ⟨u9, ge, hs⟩ := s_bind hs
    exact l_X6_owedBy_44 hs
  rcases s_ite hs with ⟨c, hs⟩ | ⟨-, hs⟩
  · subst c
    unfold U_X6_owedBy_49 at hs
    obtain ⟨a0, g0, hs⟩ := s_bind hs
    obtain ⟨a1, g1, hs⟩ := s_bind hs
    obtain ⟨a2, g2, hs⟩ := s_bind hs
    obtain ⟨a3, g3, hs⟩ := s_bind hs
    obtain ⟨a4, g4, hs⟩ := s_bind hs
    obtain ⟨a5, g5, hs⟩ := s_bind hs
    obtain ⟨a6, g6, hs⟩ := s_bind hs
    obtain ⟨u9, ge, hs⟩ := s_bind hs
    exact l_X6_owedBy_49 hs
  rcases s_ite hs with ⟨c, hs⟩ | ⟨-, hs⟩
  · subst c
    unfold U_X6_owedBy_91 at hs
    obtain ⟨a0, g0, hs⟩ := s_bind hs
    obtain ⟨a1, g1, hs⟩ := s_bind hs
    obtain ⟨a2, g2, hs⟩ := s_bind hs
    obtain ⟨a3, g3, hs⟩ := s_bind hs
    obtain ⟨a4, g4, hs⟩ := s_bind hs
    obtain ⟨a5, g5, hs⟩ := s_bind hs
    obtain ⟨u9, ge, hs⟩ := s_bind hs
    exact l_X6_owedBy_91 hs
  cases hs
theorem l_X6_owedBy {v0 : Nat} {v1 : Int32} {v2 : Int32} {v3 : Int32} {σ : sS} {q : Int32 × sS} (h : F_X6_owedBy v0 v1 v2 v3 σ = some q) : s_le σ q.2 := by
  unfold F_X6_owedBy at h
  obtain ⟨-, -, h⟩ := s_bind h
  exact s_run_ind (V := fun x r => s_le x.2.2 r.2) (fun x z r hs hk => by
    have h9 := l_X6_owedBy_s hs
    cases z with
    | inl y => exact s_le.tr h9 hk
    | inr q => cases hk; exact h9) h
theorem b_X6_owedBy {v0 : Nat} {v1 : Int32} {v2 : Int32} {v3 : Int32} {σ : sS} {q : Int32 × sS} (h : F_X6_owedBy v0 v1 v2 v3 σ = some q) : ∃ fs, σ.1 v0 = some (.inr (6, fs)) := by
  unfold F_X6_owedBy at h
  obtain ⟨u, hu, -⟩ := s_bind h
  exact s_is_to hu
set_option maxRecDepth 100000 in
set_option maxHeartbeats 4000000 in
theorem v_X6_owedBy_0 {G : sG} {d : Nat} {vs0 : List Value} {σ0 : sS} {v0 : Nat} {v1 : Int32} {v2 : Int32} {v3 : Int32} {σ : sS} {z : sZ Int32} {r : Int32 × sS} (hf : T_X6_owedBy_0 v0 v1 v2 v3 σ = some z) (k : s_K G (d + 7) M_X6_owedBy vs0 σ0 Y_X6_owedBy e_I z r) : s_V G (d + 7) M_X6_owedBy vs0 σ0 Y_X6_owedBy (0, [.ref v0, .int v1, .int v2, .int v3], σ) (e_I r) := by
  have le0 : s_le σ (e_I r).2 := s_lek hem_I (l_X6_owedBy_0 hf) k
  refine ⟨le0, ?_⟩
  intro p e s m below meth c H locs cells slots ls X I hn1 hn2 hl
  have hn : cells + σ0.2.1 ≤ σ.2.1 ∧ slots + σ0.2.2.1 ≤ σ.2.2.1 := ⟨hn1, hn2⟩
  have hl : lv_has ls 8 [(0, .ref v0), (1, .int v1), (2, .int v2), (3, .int v3)] := hl
  have hx := X.1
  have hb : c.code = cX6_owedBy := X.2.1
  have hown : s.vm.findClass RX6 = some m.cls := X.2.2.2.2.2.1
  have hts := X.2.2.2.2.2.2.1
  refine W.eq (g2 := F0 m 0 ls []) rfl ?_
  unfold T_X6_owedBy_0 at hf
  obtain ⟨q1, h1, hf⟩ := s_bind hf
  cases hf
  have k : s_V G (d + 7) M_X6_owedBy vs0 σ0 Y_X6_owedBy (13, [.ref v0, .int v1, .int v2, .int q1.1, .int 0, .int 0], q1.2) (e_I r) := k
  have le2 : s_le q1.2 (e_I r).2 := k.1
  refine lv_aload_n hx hb dX6_owedBy_0 rfl (lv_at hl 0 rfl) ?_
  refine lv_iload_n hx hb dX6_owedBy_1 rfl (lv_at hl 3 rfl) ?_
  refine r_callV (Y := M_X6_refunded) (v := some (.int q1.1)) X I w_1596 my_X6_refunded (by omega) (t_X6_refunded (G := G) (d := d + 0) h1) (b_X6_refunded h1) rfl rfl hl.1 rfl (Nat.le_of_ble_eq_true rfl) hn le2 dX6_owedBy_2 (fun H locs cells slots I hn1 hn2 => ?_)
  have I : s_I G q1.2 s H locs := I
  have hn : cells + σ0.2.1 ≤ q1.2.2.1 ∧ slots + σ0.2.2.1 ≤ q1.2.2.2.1 := ⟨hn1, hn2⟩
  refine lv_istore (lv' := [(4, .int q1.1), (0, .ref v0), (1, .int v1), (2, .int v2), (3, .int v3)]) hx hb dX6_owedBy_5 hl (by decide) rfl (fun ls hl => ?_)
  refine lv_iconst (v := 0) hx hb dX6_owedBy_7 (by decide) ?_
  refine lv_istore (lv' := [(5, .int 0), (4, .int q1.1), (0, .ref v0), (1, .int v1), (2, .int v2), (3, .int v3)]) hx hb dX6_owedBy_8 hl (by decide) rfl (fun ls hl => ?_)
  refine lv_iconst (v := 0) hx hb dX6_owedBy_10 (by decide) ?_
  refine lv_istore (lv' := [(6, .int 0), (5, .int 0), (4, .int q1.1), (0, .ref v0), (1, .int v1), (2, .int v2), (3, .int v3)]) hx hb dX6_owedBy_11 hl (by decide) rfl (fun ls hl => ?_)
  exact k.2 p e s m below meth c _ _ _ _ _ X I hn.1 hn.2 (lv_sub hl [3, 4, 5, 2, 1, 0] rfl)
set_option maxRecDepth 100000 in
set_option maxHeartbeats 4000000 in
theorem v_X6_owedBy_13 {G : sG} {d : Nat} {vs0 : List Value} {σ0 : sS} {v0 : Nat} {v1 : Int32} {v2 : Int32} {v4 : Int32} {v5 : Int32} {v6 : Int32} {σ : sS} {z : sZ Int32} {r : Int32 × sS} (hf : T_X6_owedBy_13 v0 v1 v2 v4 v5 v6 σ = some z) (k : s_K G (d + 7) M_X6_owedBy vs0 σ0 Y_X6_owedBy e_I z r) : s_V G (d + 7) M_X6_owedBy vs0 σ0 Y_X6_owedBy (13, [.ref v0, .int v1, .int v2, .int v4, .int v5, .int v6], σ) (e_I r) := by
  have le0 : s_le σ (e_I r).2 := s_lek hem_I (l_X6_owedBy_13 hf) k
  refine ⟨le0, ?_⟩
  intro p e s m below meth c H locs cells slots ls X I hn1 hn2 hl
  have hn : cells + σ0.2.1 ≤ σ.2.1 ∧ slots + σ0.2.2.1 ≤ σ.2.2.1 := ⟨hn1, hn2⟩
  have hl : lv_has ls 8 [(0, .ref v0), (1, .int v1), (2, .int v2), (4, .int v4), (5, .int v5), (6, .int v6)] := hl
  have hx := X.1
  have hb : c.code = cX6_owedBy := X.2.1
  have hown : s.vm.findClass RX6 = some m.cls := X.2.2.2.2.2.1
  have hts := X.2.2.2.2.2.2.1
  refine W.eq (g2 := F0 m 13 ls []) rfl ?_
  unfold T_X6_owedBy_13 at hf
  obtain ⟨x1, h1, hf⟩ := s_bind hf
  obtain ⟨x2, h2, hf⟩ := s_bind hf
  refine lv_iload hx hb dX6_owedBy_13 (lv_at hl 5 rfl) ?_
  refine lv_aload_n hx hb dX6_owedBy_15 rfl (lv_at hl 0 rfl) ?_
  refine r_gr X I fl_X6_9 h1 dX6_owedBy_16 ?_
  refine r_gi X I fl_X6_19 h2 dX6_owedBy_19 ?_
  rcases s_ite hf with ⟨c3, hf⟩ | ⟨c3, hf⟩
  · refine lv_icmp_ge (tgt := 97) hx hb dX6_owedBy_22 (by decide) (fun _ => ?_) (fun n => absurd c3 n)
    cases hf
    have k : _ = r := k
    subst k
    refine lv_iload hx hb dX6_owedBy_97 (lv_at hl 4 rfl) ?_
    exact r_iret X I rfl rfl rfl hn dX6_owedBy_99
  · refine lv_icmp_ge (tgt := 97) hx hb dX6_owedBy_22 (by decide) (fun n => absurd n c3) (fun _ => ?_)
    refine lv_iload_n hx hb dX6_owedBy_25 rfl (lv_at hl 2 rfl) ?_
    refine lv_iconst (v := (-1)) hx hb dX6_owedBy_26 (by decide) ?_
    rcases s_ite hf with ⟨c4, hf⟩ | ⟨c4, hf⟩
    · refine lv_icmp_eq (tgt := 44) hx hb dX6_owedBy_27 (by decide) (fun _ => ?_) (fun n => absurd c4 n)
      cases hf
      have k : s_V G (d + 7) M_X6_owedBy vs0 σ0 Y_X6_owedBy (44, [.ref v0, .int v1, .int v2, .int v4, .int v5, .int v6], σ) (e_I r) := k
      exact k.2 p e s m below meth c _ _ _ _ _ X I hn.1 hn.2 (lv_sub hl [0, 1, 2, 3, 4, 5] rfl)
    · refine lv_icmp_eq (tgt := 44) hx hb dX6_owedBy_27 (by decide) (fun n => absurd n c4) (fun _ => ?_)
      obtain ⟨x3, h5, hf⟩ := s_bind hf
      obtain ⟨q4, h6, hf⟩ := s_bind hf
      have le7 : s_le q4.2 (e_I r).2 := by
        refine s_lek hem_I ?_ k
        rcases s_ite hf with ⟨-, hf⟩ | ⟨-, hf⟩
        · cases hf
          exact s_le.rf
        · cases hf
          exact s_le.rf
      refine lv_aload_n hx hb dX6_owedBy_30 rfl (lv_at hl 0 rfl) ?_
      refine r_gr X I fl_X6_9 h5 dX6_owedBy_31 ?_
      refine lv_iload hx hb dX6_owedBy_34 (lv_at hl 5 rfl) ?_
      refine lv_iconst (v := 1) hx hb dX6_owedBy_36 (by decide) ?_
      refine r_callV (Y := M_X1_ofReceipt) (v := some (.int q4.1)) X I w_620 my_X1_ofReceipt (by omega) (t_X1_ofReceipt (G := G) (d := d + 5) h6) (b_X1_ofReceipt h6) rfl rfl hl.1 rfl (Nat.le_of_ble_eq_true rfl) hn le7 dX6_owedBy_37 (fun H locs cells slots I hn1 hn2 => ?_)
      have I : s_I G q4.2 s H locs := I
      have hn : cells + σ0.2.1 ≤ q4.2.2.1 ∧ slots + σ0.2.2.1 ≤ q4.2.2.2.1 := ⟨hn1, hn2⟩
      refine lv_iload_n hx hb dX6_owedBy_40 rfl (lv_at hl 2 rfl) ?_
      rcases s_ite hf with ⟨c8, hf⟩ | ⟨c8, hf⟩
      · refine lv_icmp_ne (tgt := 48) hx hb dX6_owedBy_41 (by decide) (fun n => absurd c8 n) (fun _ => ?_)
        cases hf
        have k : s_V G (d + 7) M_X6_owedBy vs0 σ0 Y_X6_owedBy (44, [.ref v0, .int v1, .int v2, .int v4, .int v5, .int v6], q4.2) (e_I r) := k
        exact k.2 p e s m below meth c _ _ _ _ _ X I hn.1 hn.2 (lv_sub hl [0, 1, 2, 3, 4, 5] rfl)
      · refine lv_icmp_ne (tgt := 48) hx hb dX6_owedBy_41 (by decide) (fun _ => ?_) (fun n => absurd n c8)
        cases hf
        have k : s_V G (d + 7) M_X6_owedBy vs0 σ0 Y_X6_owedBy (49, [.ref v0, .int v1, .int v2, .int v4, .int v5, .int v6, .int 0], q4.2) (e_I r) := k
        refine lv_iconst (v := 0) hx hb dX6_owedBy_48 (by decide) ?_
        exact k.2 p e s m below meth c _ _ _ _ _ X I hn.1 hn.2 (lv_sub hl [0, 1, 2, 3, 4, 5] rfl)
set_option maxRecDepth 100000 in
set_option maxHeartbeats 4000000 in
theorem v_X6_owedBy_44 {G : sG} {d : Nat} {vs0 : List Value} {σ0 : sS} {v0 : Nat} {v1 : Int32} {v2 : Int32} {v4 : Int32} {v5 : Int32} {v6 : Int32} {σ : sS} {z : sZ Int32} {r : Int32 × sS} (hf : T_X6_owedBy_44 v0 v1 v2 v4 v5 v6 σ = some z) (k : s_K G (d + 7) M_X6_owedBy vs0 σ0 Y_X6_owedBy e_I z r) : s_V G (d + 7) M_X6_owedBy vs0 σ0 Y_X6_owedBy (44, [.ref v0, .int v1, .int v2, .int v4, .int v5, .int v6], σ) (e_I r) := by
  have le0 : s_le σ (e_I r).2 := s_lek hem_I (l_X6_owedBy_44 hf) k
  refine ⟨le0, ?_⟩
  intro p e s m below meth c H locs cells slots ls X I hn1 hn2 hl
  have hn : cells + σ0.2.1 ≤ σ.2.1 ∧ slots + σ0.2.2.1 ≤ σ.2.2.1 := ⟨hn1, hn2⟩
  have hl : lv_has ls 8 [(0, .ref v0), (1, .int v1), (2, .int v2), (4, .int v4), (5, .int v5), (6, .int v6)] := hl
  have hx := X.1
  have hb : c.code = cX6_owedBy := X.2.1
  have hown : s.vm.findClass RX6 = some m.cls := X.2.2.2.2.2.1
  have hts := X.2.2.2.2.2.2.1
  refine W.eq (g2 := F0 m 44 ls []) rfl ?_
  unfold T_X6_owedBy_44 at hf
  cases hf
  have k : s_V G (d + 7) M_X6_owedBy vs0 σ0 Y_X6_owedBy (49, [.ref v0, .int v1, .int v2, .int v4, .int v5, .int v6, .int 1], σ) (e_I r) := k
  refine lv_iconst (v := 1) hx hb dX6_owedBy_44 (by decide) ?_
  refine lv_goto (tgt := 49) hx hb dX6_owedBy_45 (by decide) ?_
  exact k.2 p e s m below meth c _ _ _ _ _ X I hn.1 hn.2 (lv_sub hl [0, 1, 2, 3, 4, 5] rfl)
set_option maxRecDepth 100000 in
set_option maxHeartbeats 4000000 in
theorem v_X6_owedBy_49 {G : sG} {d : Nat} {vs0 : List Value} {σ0 : sS} {v0 : Nat} {v1 : Int32} {v2 : Int32} {v4 : Int32} {v5 : Int32} {v6 : Int32} {w0 : Int32} {σ : sS} {z : sZ Int32} {r : Int32 × sS} (hf : T_X6_owedBy_49 v0 v1 v2 v4 v5 v6 w0 σ = some z) (k : s_K G (d + 7) M_X6_owedBy vs0 σ0 Y_X6_owedBy e_I z r) : s_V G (d + 7) M_X6_owedBy vs0 σ0 Y_X6_owedBy (49, [.ref v0, .int v1, .int v2, .int v4, .int v5, .int v6, .int w0], σ) (e_I r) := by
  have le0 : s_le σ (e_I r).2 := s_lek hem_I (l_X6_owedBy_49 hf) k
  refine ⟨le0, ?_⟩
  intro p e s m below meth c H locs cells slots ls X I hn1 hn2 hl
  have hn : cells + σ0.2.1 ≤ σ.2.1 ∧ slots + σ0.2.2.1 ≤ σ.2.2.1 := ⟨hn1, hn2⟩
  have hl : lv_has ls 8 [(0, .ref v0), (1, .int v1), (2, .int v2), (4, .int v4), (5, .int v5), (6, .int v6)] := hl
  have hx := X.1
  have hb : c.code = cX6_owedBy := X.2.1
  have hown : s.vm.findClass RX6 = some m.cls := X.2.2.2.2.2.1
  have hts := X.2.2.2.2.2.2.1
  refine W.eq (g2 := F0 m 49 ls [.int w0]) rfl ?_
  unfold T_X6_owedBy_49 at hf
  refine lv_istore (lv' := [(7, .int w0), (0, .ref v0), (1, .int v1), (2, .int v2), (4, .int v4), (5, .int v5), (6, .int v6)]) hx hb dX6_owedBy_49 hl (by decide) rfl (fun ls hl => ?_)
  refine lv_iload hx hb dX6_owedBy_51 (lv_at hl 4 rfl) ?_
  refine lv_iload hx hb dX6_owedBy_53 (lv_at hl 6 rfl) ?_
  refine lv_ishr hx hb dX6_owedBy_55 ?_
  refine lv_iconst (v := 1) hx hb dX6_owedBy_56 (by decide) ?_
  refine lv_iand hx hb dX6_owedBy_57 ?_
  rcases s_ite hf with ⟨c1, hf⟩ | ⟨c1, hf⟩
  · refine lv_if_eq (tgt := 91) hx hb dX6_owedBy_58 (by decide) (fun _ => ?_) (fun n => absurd c1 n)
    cases hf
    have k : s_V G (d + 7) M_X6_owedBy vs0 σ0 Y_X6_owedBy (91, [.ref v0, .int v1, .int v2, .int v4, .int v5, .int v6], σ) (e_I r) := k
    exact k.2 p e s m below meth c _ _ _ _ _ X I hn.1 hn.2 (lv_sub hl [1, 2, 3, 4, 5, 6] rfl)
  · refine lv_if_eq (tgt := 91) hx hb dX6_owedBy_58 (by decide) (fun n => absurd n c1) (fun _ => ?_)
    refine lv_iload hx hb dX6_owedBy_61 (lv_at hl 0 rfl) ?_
    rcases s_ite hf with ⟨c2, hf⟩ | ⟨c2, hf⟩
    · refine lv_if_eq (tgt := 91) hx hb dX6_owedBy_63 (by decide) (fun _ => ?_) (fun n => absurd c2 n)
      cases hf
      have k : s_V G (d + 7) M_X6_owedBy vs0 σ0 Y_X6_owedBy (91, [.ref v0, .int v1, .int v2, .int v4, .int v5, .int v6], σ) (e_I r) := k
      exact k.2 p e s m below meth c _ _ _ _ _ X I hn.1 hn.2 (lv_sub hl [1, 2, 3, 4, 5, 6] rfl)
    · refine lv_if_eq (tgt := 91) hx hb dX6_owedBy_63 (by decide) (fun n => absurd n c2) (fun _ => ?_)
      obtain ⟨q1, h3, hf⟩ := s_bind hf
      have le4 : s_le q1.2 (e_I r).2 := by
        refine s_lek hem_I ?_ k
        rcases s_ite hf with ⟨-, hf⟩ | ⟨-, hf⟩
        · obtain ⟨x2, -, hf⟩ := s_bind hf
          obtain ⟨q3, hh, hf⟩ := s_bind hf
          refine s_lz.tr (l_X1_ofReceipt hh) ?_
          cases hf
          exact s_le.rf
        · cases hf
          exact s_le.rf
      refine lv_aload_n hx hb dX6_owedBy_66 rfl (lv_at hl 1 rfl) ?_
      refine lv_iload hx hb dX6_owedBy_67 (lv_at hl 6 rfl) ?_
      refine r_callV (Y := M_X6_sellerOf) (v := some (.int q1.1)) X I w_1614 my_X6_sellerOf (by omega) (t_X6_sellerOf (G := G) (d := d + 4) h3) (b_X6_sellerOf h3) rfl rfl hl.1 rfl (Nat.le_of_ble_eq_true rfl) hn le4 dX6_owedBy_69 (fun H locs cells slots I hn1 hn2 => ?_)
      have I : s_I G q1.2 s H locs := I
      have hn : cells + σ0.2.1 ≤ q1.2.2.1 ∧ slots + σ0.2.2.1 ≤ q1.2.2.2.1 := ⟨hn1, hn2⟩
      refine lv_iload_n hx hb dX6_owedBy_72 rfl (lv_at hl 2 rfl) ?_
      rcases s_ite hf with ⟨c5, hf⟩ | ⟨c5, hf⟩
      · refine lv_icmp_ne (tgt := 91) hx hb dX6_owedBy_73 (by decide) (fun n => absurd c5 n) (fun _ => ?_)
        obtain ⟨x2, h6, hf⟩ := s_bind hf
        obtain ⟨q3, h7, hf⟩ := s_bind hf
        cases hf
        have k : s_V G (d + 7) M_X6_owedBy vs0 σ0 Y_X6_owedBy (91, [.ref v0, .int v1, .int v2, .int v4, .int (v5 + q3.1), .int v6], q3.2) (e_I r) := k
        have le8 : s_le q3.2 (e_I r).2 := k.1
        refine lv_iload hx hb dX6_owedBy_76 (lv_at hl 5 rfl) ?_
        refine lv_aload_n hx hb dX6_owedBy_78 rfl (lv_at hl 1 rfl) ?_
        refine r_gr X I fl_X6_9 h6 dX6_owedBy_79 ?_
        refine lv_iload hx hb dX6_owedBy_82 (lv_at hl 6 rfl) ?_
        refine lv_iconst (v := 2) hx hb dX6_owedBy_84 (by decide) ?_
        refine r_callV (Y := M_X1_ofReceipt) (v := some (.int q3.1)) X I w_620 my_X1_ofReceipt (by omega) (t_X1_ofReceipt (G := G) (d := d + 5) h7) (b_X1_ofReceipt h7) rfl rfl hl.1 rfl (Nat.le_of_ble_eq_true rfl) hn le8 dX6_owedBy_85 (fun H locs cells slots I hn1 hn2 => ?_)
        have I : s_I G q3.2 s H locs := I
        have hn : cells + σ0.2.1 ≤ q3.2.2.1 ∧ slots + σ0.2.2.1 ≤ q3.2.2.2.1 := ⟨hn1, hn2⟩
        refine lv_iadd hx hb dX6_owedBy_88 ?_
        refine lv_istore (lv' := [(5, .int (v5 + q3.1)), (7, .int w0), (0, .ref v0), (1, .int v1), (2, .int v2), (4, .int v4), (6, .int v6)]) hx hb dX6_owedBy_89 hl (by decide) rfl (fun ls hl => ?_)
        exact k.2 p e s m below meth c _ _ _ _ _ X I hn.1 hn.2 (lv_sub hl [2, 3, 4, 5, 0, 6] rfl)
      · refine lv_icmp_ne (tgt := 91) hx hb dX6_owedBy_73 (by decide) (fun _ => ?_) (fun n => absurd n c5)
        cases hf
        have k : s_V G (d + 7) M_X6_owedBy vs0 σ0 Y_X6_owedBy (91, [.ref v0, .int v1, .int v2, .int v4, .int v5, .int v6], q1.2) (e_I r) := k
        exact k.2 p e s m below meth c _ _ _ _ _ X I hn.1 hn.2 (lv_sub hl [1, 2, 3, 4, 5, 6] rfl)
set_option maxRecDepth 100000 in
set_option maxHeartbeats 4000000 in
theorem v_X6_owedBy_91 {G : sG} {d : Nat} {vs0 : List Value} {σ0 : sS} {v0 : Nat} {v1 : Int32} {v2 : Int32} {v4 : Int32} {v5 : Int32} {v6 : Int32} {σ : sS} {z : sZ Int32} {r : Int32 × sS} (hf : T_X6_owedBy_91 v0 v1 v2 v4 v5 v6 σ = some z) (k : s_K G (d + 7) M_X6_owedBy vs0 σ0 Y_X6_owedBy e_I z r) : s_V G (d + 7) M_X6_owedBy vs0 σ0 Y_X6_owedBy (91, [.ref v0, .int v1, .int v2, .int v4, .int v5, .int v6], σ) (e_I r) := by
  have le0 : s_le σ (e_I r).2 := s_lek hem_I (l_X6_owedBy_91 hf) k
  refine ⟨le0, ?_⟩
  intro p e s m below meth c H locs cells slots ls X I hn1 hn2 hl
  have hn : cells + σ0.2.1 ≤ σ.2.1 ∧ slots + σ0.2.2.1 ≤ σ.2.2.1 := ⟨hn1, hn2⟩
  have hl : lv_has ls 8 [(0, .ref v0), (1, .int v1), (2, .int v2), (4, .int v4), (5, .int v5), (6, .int v6)] := hl
  have hx := X.1
  have hb : c.code = cX6_owedBy := X.2.1
  have hown : s.vm.findClass RX6 = some m.cls := X.2.2.2.2.2.1
  have hts := X.2.2.2.2.2.2.1
  refine W.eq (g2 := F0 m 91 ls []) rfl ?_
  unfold T_X6_owedBy_91 at hf
  cases hf
  have k : s_V G (d + 7) M_X6_owedBy vs0 σ0 Y_X6_owedBy (13, [.ref v0, .int v1, .int v2, .int v4, .int v5, .int (v6 + 1)], σ) (e_I r) := k
  refine lv_iinc (v := (v6 + 1)) (lv' := [(6, .int (v6 + 1)), (0, .ref v0), (1, .int v1), (2, .int v2), (4, .int v4), (5, .int v5)]) hx hb dX6_owedBy_91 hl (k := 5) rfl rfl (by decide) rfl (fun ls hl => ?_)
  refine lv_goto (tgt := 13) hx hb dX6_owedBy_94 (by decide) ?_
  exact k.2 p e s m below meth c _ _ _ _ _ X I hn.1 hn.2 (lv_sub hl [1, 2, 3, 4, 5, 0] rfl)
theorem v_X6_owedBy {G : sG} {d : Nat} {vs0 : List Value} {σ0 : sS} {x : sL} {z : sZ Int32} {r : Int32 × sS} (hs : S_X6_owedBy x = some z) (k : s_K G (d + 7) M_X6_owedBy vs0 σ0 Y_X6_owedBy e_I z r) : s_V G (d + 7) M_X6_owedBy vs0 σ0 Y_X6_owedBy x (e_I r) := by
  obtain ⟨pc, vs, σ⟩ := x
  unfold S_X6_owedBy at hs
  dsimp only at hs
  rcases s_ite hs with ⟨c, hs⟩ | ⟨-, hs⟩
  · subst c
    unfold U_X6_owedBy_0 at hs
    obtain ⟨a0, g0, hs⟩ := s_bind hs
    obtain ⟨a1, g1, hs⟩ := s_bind hs
    obtain ⟨a2, g2, hs⟩ := s_bind hs
    obtain ⟨a3, g3, hs⟩ := s_bind hs
    obtain ⟨u9, ge, hs⟩ := s_bind hs
    rw [g_r_to g0, g_i_to g1, g_i_to g2, g_i_to g3, g_e_to ge]
    exact v_X6_owedBy_0 hs k
  rcases s_ite hs with ⟨c, hs⟩ | ⟨-, hs⟩
  · subst c
    unfold U_X6_owedBy_13 at hs
    obtain ⟨a0, g0, hs⟩ := s_bind hs
    obtain ⟨a1, g1, hs⟩ := s_bind hs
    obtain ⟨a2, g2, hs⟩ := s_bind hs
    obtain ⟨a3, g3, hs⟩ := s_bind hs
    obtain ⟨a4, g4, hs⟩ := s_bind hs
    obtain ⟨a5, g5, hs⟩ := s_bind hs
    obtain ⟨u9, ge, hs⟩ := s_bind hs
    rw [g_r_to g0, g_i_to g1, g_i_to g2, g_i_to g3, g_i_to g4, g_i_to g5, g_e_to ge]
    exact v_X6_owedBy_13 hs k
  rcases s_ite hs with ⟨c, hs⟩ | ⟨-, hs⟩
  · subst c
    unfold U_X6_owedBy_44 at hs
    obtain ⟨a0, g0, hs⟩ := s_bind hs
    obtain ⟨a1, g1, hs⟩ := s_bind hs
    obtain ⟨a2, g2, hs⟩ := s_bind hs
    obtain ⟨a3, g3, hs⟩ := s_bind hs
    obtain ⟨a4, g4, hs⟩ := s_bind hs
    obtain ⟨a5, g5, hs⟩ := s_bind hs
    obtain ⟨u9, ge, hs⟩ := s_bind hs
    rw [g_r_to g0, g_i_to g1, g_i_to g2, g_i_to g3, g_i_to g4, g_i_to g5, g_e_to ge]
    exact v_X6_owedBy_44 hs k
  rcases s_ite hs with ⟨c, hs⟩ | ⟨-, hs⟩
  · subst c
    unfold U_X6_owedBy_49 at hs
    obtain ⟨a0, g0, hs⟩ := s_bind hs
    obtain ⟨a1, g1, hs⟩ := s_bind hs
    obtain ⟨a2, g2, hs⟩ := s_bind hs
    obtain ⟨a3, g3, hs⟩ := s_bind hs
    obtain ⟨a4, g4, hs⟩ := s_bind hs
    obtain ⟨a5, g5, hs⟩ := s_bind hs
    obtain ⟨a6, g6, hs⟩ := s_bind hs
    obtain ⟨u9, ge, hs⟩ := s_bind hs
    rw [g_r_to g0, g_i_to g1, g_i_to g2, g_i_to g3, g_i_to g4, g_i_to g5, g_i_to g6, g_e_to ge]
    exact v_X6_owedBy_49 hs k
  rcases s_ite hs with ⟨c, hs⟩ | ⟨-, hs⟩
  · subst c
    unfold U_X6_owedBy_91 at hs
    obtain ⟨a0, g0, hs⟩ := s_bind hs
    obtain ⟨a1, g1, hs⟩ := s_bind hs
    obtain ⟨a2, g2, hs⟩ := s_bind hs
    obtain ⟨a3, g3, hs⟩ := s_bind hs
    obtain ⟨a4, g4, hs⟩ := s_bind hs
    obtain ⟨a5, g5, hs⟩ := s_bind hs
    obtain ⟨u9, ge, hs⟩ := s_bind hs
    rw [g_r_to g0, g_i_to g1, g_i_to g2, g_i_to g3, g_i_to g4, g_i_to g5, g_e_to ge]
    exact v_X6_owedBy_91 hs k
  cases hs
theorem t_X6_owedBy {G : sG} {d : Nat} {v0 : Nat} {v1 : Int32} {v2 : Int32} {v3 : Int32} {σ : sS} {q : Int32 × sS} (h : F_X6_owedBy v0 v1 v2 v3 σ = some q) : s_T G (d + 7) M_X6_owedBy [.ref v0, .int v1, .int v2, .int v3] σ (e_I q) := by
  unfold F_X6_owedBy at h
  obtain ⟨-, -, h⟩ := s_bind h
  exact s_ofV rfl (by decide) (Nat.le_of_ble_eq_true rfl) rfl rfl (s_run_ind (V := fun x r => s_V G (d + 7) M_X6_owedBy [.ref v0, .int v1, .int v2, .int v3] σ Y_X6_owedBy x (e_I r)) (fun x z r hs hk => v_X6_owedBy hs (by cases z <;> exact hk)) h)
/-! X7_owes -/
noncomputable def T_X7_owes_0 (v0 : Nat) (v1 : Int32) (v2 : Int32) (v3 : Int32) (σ : sS) : Option (sZ (Int32 ⊕ String)) :=
  (F_X7_needHouse v0 v1 σ).bind fun q1 => s_sum q1.1 (fun x2 => (F_X7_needLaw v0 v3 q1.2).bind fun q4 => s_sum q4.1 (fun x5 => if v2 = (-1) then (some (.inl (36, [.ref v0, .int v1, .int v2, .int v3], q4.2)))
  else (if v2 < 0 then (some (.inr (.inr "java/lang/IllegalArgumentException", s_ex q4.2)))
  else (if v2 < 7 then (some (.inl (36, [.ref v0, .int v1, .int v2, .int v3], q4.2)))
  else (some (.inr (.inr "java/lang/IllegalArgumentException", s_ex q4.2)))))) (fun E6 => some (.inr (.inr E6, q4.2)))) (fun E3 => some (.inr (.inr E3, q1.2)))
noncomputable def U_X7_owes_0 (vs : List Value) (σ : sS) : Option (sZ (Int32 ⊕ String)) := (g_r vs).bind fun a0 => (g_i a0.2).bind fun a1 => (g_i a1.2).bind fun a2 => (g_i a2.2).bind fun a3 => (g_e a3.2).bind fun _ => T_X7_owes_0 a0.1 a1.1 a2.1 a3.1 σ
noncomputable def T_X7_owes_36 (v0 : Nat) (v1 : Int32) (v2 : Int32) (v3 : Int32) (σ : sS) : Option (sZ (Int32 ⊕ String)) :=
  (s_fr σ v0 7 5).bind fun x1 =>
  (F_X0_audit x1 σ).bind fun q2 =>
  (s_fr q2.2 v0 7 7).bind fun x3 =>
  (F_X6_owedBy x3 v1 v2 v3 q2.2).bind fun q4 =>
  some (.inr (.inl q4.1, q4.2))
noncomputable def U_X7_owes_36 (vs : List Value) (σ : sS) : Option (sZ (Int32 ⊕ String)) := (g_r vs).bind fun a0 => (g_i a0.2).bind fun a1 => (g_i a1.2).bind fun a2 => (g_i a2.2).bind fun a3 => (g_e a3.2).bind fun _ => T_X7_owes_36 a0.1 a1.1 a2.1 a3.1 σ
noncomputable def S_X7_owes (x : sL) : Option (sZ (Int32 ⊕ String)) := if x.1 = 0 then U_X7_owes_0 x.2.1 x.2.2 else if x.1 = 36 then U_X7_owes_36 x.2.1 x.2.2 else none
def Y_X7_owes (pc : Nat) : List Nat := if pc = 0 then [0, 1, 2, 3] else if pc = 36 then [0, 1, 2, 3] else []
noncomputable def F_X7_owes (v0 : Nat) (v1 : Int32) (v2 : Int32) (v3 : Int32) (σ : sS) : Option ((Int32 ⊕ String) × sS) := (s_is σ v0 7).bind fun _ => s_run S_X7_owes (0, [.ref v0, .int v1, .int v2, .int v3], σ)
theorem l_X7_owes_0 {v0 : Nat} {v1 : Int32} {v2 : Int32} {v3 : Int32} {σ : sS} {z : sZ (Int32 ⊕ String)} (hf : T_X7_owes_0 v0 v1 v2 v3 σ = some z) : s_lz σ z := by
  unfold T_X7_owes_0 at hf
  obtain ⟨q1, hh, hf⟩ := s_bind hf
  refine s_lz.tr (l_X7_needHouse hh) ?_
  rcases s_sum_some hf with ⟨x2, -, hf⟩ | ⟨E3, -, hf⟩
  · obtain ⟨q4, hh, hf⟩ := s_bind hf
    refine s_lz.tr (l_X7_needLaw hh) ?_
    rcases s_sum_some hf with ⟨x5, -, hf⟩ | ⟨E6, -, hf⟩
    · rcases s_ite hf with ⟨-, hf⟩ | ⟨-, hf⟩
      · cases hf
        exact s_le.rf
      · rcases s_ite hf with ⟨-, hf⟩ | ⟨-, hf⟩
        · cases hf
          exact s_ex_le
        · rcases s_ite hf with ⟨-, hf⟩ | ⟨-, hf⟩
          · cases hf
            exact s_le.rf
          · cases hf
            exact s_ex_le
    · cases hf
      exact s_le.rf
  · cases hf
    exact s_le.rf
theorem l_X7_owes_36 {v0 : Nat} {v1 : Int32} {v2 : Int32} {v3 : Int32} {σ : sS} {z : sZ (Int32 ⊕ String)} (hf : T_X7_owes_36 v0 v1 v2 v3 σ = some z) : s_lz σ z := by
  unfold T_X7_owes_36 at hf
  obtain ⟨x1, -, hf⟩ := s_bind hf
  obtain ⟨q2, hh, hf⟩ := s_bind hf
  refine s_lz.tr (l_X0_audit hh) ?_
  obtain ⟨x3, -, hf⟩ := s_bind hf
  obtain ⟨q4, hh, hf⟩ := s_bind hf
  refine s_lz.tr (l_X6_owedBy hh) ?_
  cases hf
  exact s_le.rf
theorem l_X7_owes_s {x : sL} {z : sZ (Int32 ⊕ String)} (hs : S_X7_owes x = some z) : s_lz x.2.2 z := by
  obtain ⟨pc, vs, σ⟩ := x
  unfold S_X7_owes at hs
  dsimp only at hs ⊢
  rcases s_ite hs with ⟨c, hs⟩ | ⟨-, hs⟩
  · subst c
    unfold U_X7_owes_0 at hs
    obtain ⟨a0, g0, hs⟩ := s_bind hs
    obtain ⟨a1, g1, hs⟩ := s_bind hs
    obtain ⟨a2, g2, hs⟩ := s_bind hs
    obtain ⟨a3, g3, hs⟩ := s_bind hs
    obtain ⟨u9, ge, hs⟩ := s_bind hs
    exact l_X7_owes_0 hs
  rcases s_ite hs with ⟨c, hs⟩ | ⟨-, hs⟩
  · subst c
    unfold U_X7_owes_36 at hs
    obtain ⟨a0, g0, hs⟩ := s_bind hs
    obtain ⟨a1, g1, hs⟩ := s_bind hs
    obtain ⟨a2, g2, hs⟩ := s_bind hs
    obtain ⟨a3, g3, hs⟩ := s_bind hs
    obtain ⟨u9, ge, hs⟩ := s_bind hs
    exact l_X7_owes_36 hs
  cases hs
theorem l_X7_owes {v0 : Nat} {v1 : Int32} {v2 : Int32} {v3 : Int32} {σ : sS} {q : (Int32 ⊕ String) × sS} (h : F_X7_owes v0 v1 v2 v3 σ = some q) : s_le σ q.2 := by
  unfold F_X7_owes at h
  obtain ⟨-, -, h⟩ := s_bind h
  exact s_run_ind (V := fun x r => s_le x.2.2 r.2) (fun x z r hs hk => by
    have h9 := l_X7_owes_s hs
    cases z with
    | inl y => exact s_le.tr h9 hk
    | inr q => cases hk; exact h9) h
theorem b_X7_owes {v0 : Nat} {v1 : Int32} {v2 : Int32} {v3 : Int32} {σ : sS} {q : (Int32 ⊕ String) × sS} (h : F_X7_owes v0 v1 v2 v3 σ = some q) : ∃ fs, σ.1 v0 = some (.inr (7, fs)) := by
  unfold F_X7_owes at h
  obtain ⟨u, hu, -⟩ := s_bind h
  exact s_is_to hu
set_option maxRecDepth 100000 in
set_option maxHeartbeats 4000000 in
theorem v_X7_owes_0 {G : sG} {d : Nat} {vs0 : List Value} {σ0 : sS} {v0 : Nat} {v1 : Int32} {v2 : Int32} {v3 : Int32} {σ : sS} {z : sZ (Int32 ⊕ String)} {r : (Int32 ⊕ String) × sS} (hf : T_X7_owes_0 v0 v1 v2 v3 σ = some z) (k : s_K G (d + 8) M_X7_owes vs0 σ0 Y_X7_owes e_IX z r) : s_V G (d + 8) M_X7_owes vs0 σ0 Y_X7_owes (0, [.ref v0, .int v1, .int v2, .int v3], σ) (e_IX r) := by
  have le0 : s_le σ (e_IX r).2 := s_lek hem_IX (l_X7_owes_0 hf) k
  refine ⟨le0, ?_⟩
  intro p e s m below meth c H locs cells slots ls X I hn1 hn2 hl
  have hn : cells + σ0.2.1 ≤ σ.2.1 ∧ slots + σ0.2.2.1 ≤ σ.2.2.1 := ⟨hn1, hn2⟩
  have hl : lv_has ls 4 [(0, .ref v0), (1, .int v1), (2, .int v2), (3, .int v3)] := hl
  have hx := X.1
  have hb : c.code = cX7_owes := X.2.1
  have hown : s.vm.findClass RX7 = some m.cls := X.2.2.2.2.2.1
  have hts := X.2.2.2.2.2.2.1
  refine W.eq (g2 := F0 m 0 ls []) rfl ?_
  unfold T_X7_owes_0 at hf
  obtain ⟨q1, h1, hf⟩ := s_bind hf
  refine lv_aload_n hx hb dX7_owes_0 rfl (lv_at hl 0 rfl) ?_
  refine lv_iload_n hx hb dX7_owes_1 rfl (lv_at hl 1 rfl) ?_
  rcases s_sum_some hf with ⟨x2, hq2, hf⟩ | ⟨E3, hq2, hf⟩
  · have le3 : s_le q1.2 (e_IX r).2 := by
      refine s_lek hem_IX ?_ k
      obtain ⟨q4, hh, hf⟩ := s_bind hf
      refine s_lz.tr (l_X7_needLaw hh) ?_
      rcases s_sum_some hf with ⟨x5, -, hf⟩ | ⟨E6, -, hf⟩
      · rcases s_ite hf with ⟨-, hf⟩ | ⟨-, hf⟩
        · cases hf
          exact s_le.rf
        · rcases s_ite hf with ⟨-, hf⟩ | ⟨-, hf⟩
          · cases hf
            exact s_ex_le
          · rcases s_ite hf with ⟨-, hf⟩ | ⟨-, hf⟩
            · cases hf
              exact s_le.rf
            · cases hf
              exact s_ex_le
      · cases hf
        exact s_le.rf
    refine r_callV (Y := M_X7_needHouse) (v := none) X I w_1087 my_X7_needHouse (by omega) (t_X7_needHouse (G := G) (d := d + 6) h1) (b_X7_needHouse h1) (e_VX_l hq2) rfl hl.1 rfl (Nat.le_of_ble_eq_true rfl) hn le3 dX7_owes_2 (fun H locs cells slots I hn1 hn2 => ?_)
    have I : s_I G q1.2 s H locs := I
    have hn : cells + σ0.2.1 ≤ q1.2.2.1 ∧ slots + σ0.2.2.1 ≤ q1.2.2.2.1 := ⟨hn1, hn2⟩
    obtain ⟨q4, h4, hf⟩ := s_bind hf
    refine lv_aload_n hx hb dX7_owes_5 rfl (lv_at hl 0 rfl) ?_
    refine lv_iload_n hx hb dX7_owes_6 rfl (lv_at hl 3 rfl) ?_
    rcases s_sum_some hf with ⟨x5, hq5, hf⟩ | ⟨E6, hq5, hf⟩
    · have le6 : s_le q4.2 (e_IX r).2 := by
        refine s_lek hem_IX ?_ k
        rcases s_ite hf with ⟨-, hf⟩ | ⟨-, hf⟩
        · cases hf
          exact s_le.rf
        · rcases s_ite hf with ⟨-, hf⟩ | ⟨-, hf⟩
          · cases hf
            exact s_ex_le
          · rcases s_ite hf with ⟨-, hf⟩ | ⟨-, hf⟩
            · cases hf
              exact s_le.rf
            · cases hf
              exact s_ex_le
      refine r_callV (Y := M_X7_needLaw) (v := none) X I w_1587 my_X7_needLaw (by omega) (t_X7_needLaw (G := G) (d := d + 6) h4) (b_X7_needLaw h4) (e_VX_l hq5) rfl hl.1 rfl (Nat.le_of_ble_eq_true rfl) hn le6 dX7_owes_7 (fun H locs cells slots I hn1 hn2 => ?_)
      have I : s_I G q4.2 s H locs := I
      have hn : cells + σ0.2.1 ≤ q4.2.2.1 ∧ slots + σ0.2.2.1 ≤ q4.2.2.2.1 := ⟨hn1, hn2⟩
      refine lv_iload_n hx hb dX7_owes_10 rfl (lv_at hl 2 rfl) ?_
      refine lv_iconst (v := (-1)) hx hb dX7_owes_11 (by decide) ?_
      rcases s_ite hf with ⟨c7, hf⟩ | ⟨c7, hf⟩
      · refine lv_icmp_eq (tgt := 36) hx hb dX7_owes_12 (by decide) (fun _ => ?_) (fun n => absurd c7 n)
        cases hf
        have k : s_V G (d + 8) M_X7_owes vs0 σ0 Y_X7_owes (36, [.ref v0, .int v1, .int v2, .int v3], q4.2) (e_IX r) := k
        exact k.2 p e s m below meth c _ _ _ _ _ X I hn.1 hn.2 (lv_sub hl [0, 1, 2, 3] rfl)
      · refine lv_icmp_eq (tgt := 36) hx hb dX7_owes_12 (by decide) (fun n => absurd n c7) (fun _ => ?_)
        refine lv_iload_n hx hb dX7_owes_15 rfl (lv_at hl 2 rfl) ?_
        rcases s_ite hf with ⟨c8, hf⟩ | ⟨c8, hf⟩
        · refine lv_if_lt (tgt := 25) hx hb dX7_owes_16 (by decide) (fun _ => ?_) (fun n => absurd c8 n)
          cases hf
          have k : _ = r := k
          subst k
          exact r_throwW X I rfl th_X7_96_288 hl.1 (Nat.le_of_ble_eq_true rfl) hn rfl dX7_owes_25 dX7_owes_28 dX7_owes_29 dX7_owes_32 dX7_owes_35
        · refine lv_if_lt (tgt := 25) hx hb dX7_owes_16 (by decide) (fun n => absurd n c8) (fun _ => ?_)
          refine lv_iload_n hx hb dX7_owes_19 rfl (lv_at hl 2 rfl) ?_
          refine lv_bipush (v := 7) hx hb dX7_owes_20 (by decide) ?_
          rcases s_ite hf with ⟨c9, hf⟩ | ⟨c9, hf⟩
          · refine lv_icmp_lt (tgt := 36) hx hb dX7_owes_22 (by decide) (fun _ => ?_) (fun n => absurd c9 n)
            cases hf
            have k : s_V G (d + 8) M_X7_owes vs0 σ0 Y_X7_owes (36, [.ref v0, .int v1, .int v2, .int v3], q4.2) (e_IX r) := k
            exact k.2 p e s m below meth c _ _ _ _ _ X I hn.1 hn.2 (lv_sub hl [0, 1, 2, 3] rfl)
          · refine lv_icmp_lt (tgt := 36) hx hb dX7_owes_22 (by decide) (fun n => absurd n c9) (fun _ => ?_)
            cases hf
            have k : _ = r := k
            subst k
            exact r_throwW X I rfl th_X7_96_288 hl.1 (Nat.le_of_ble_eq_true rfl) hn rfl dX7_owes_25 dX7_owes_28 dX7_owes_29 dX7_owes_32 dX7_owes_35
    · cases hf
      have k : _ = r := k
      subst k
      exact r_callVx (Y := M_X7_needLaw) X I rfl w_1587 my_X7_needLaw (by omega) (t_X7_needLaw (G := G) (d := d + 6) h4) (b_X7_needLaw h4) (e_VX_r hq5) rfl hl.1 rfl (Nat.le_of_ble_eq_true rfl) hn rfl dX7_owes_7
  · cases hf
    have k : _ = r := k
    subst k
    exact r_callVx (Y := M_X7_needHouse) X I rfl w_1087 my_X7_needHouse (by omega) (t_X7_needHouse (G := G) (d := d + 6) h1) (b_X7_needHouse h1) (e_VX_r hq2) rfl hl.1 rfl (Nat.le_of_ble_eq_true rfl) hn rfl dX7_owes_2
set_option maxRecDepth 100000 in
set_option maxHeartbeats 4000000 in
theorem v_X7_owes_36 {G : sG} {d : Nat} {vs0 : List Value} {σ0 : sS} {v0 : Nat} {v1 : Int32} {v2 : Int32} {v3 : Int32} {σ : sS} {z : sZ (Int32 ⊕ String)} {r : (Int32 ⊕ String) × sS} (hf : T_X7_owes_36 v0 v1 v2 v3 σ = some z) (k : s_K G (d + 8) M_X7_owes vs0 σ0 Y_X7_owes e_IX z r) : s_V G (d + 8) M_X7_owes vs0 σ0 Y_X7_owes (36, [.ref v0, .int v1, .int v2, .int v3], σ) (e_IX r) := by
  have le0 : s_le σ (e_IX r).2 := s_lek hem_IX (l_X7_owes_36 hf) k
  refine ⟨le0, ?_⟩
  intro p e s m below meth c H locs cells slots ls X I hn1 hn2 hl
  have hn : cells + σ0.2.1 ≤ σ.2.1 ∧ slots + σ0.2.2.1 ≤ σ.2.2.1 := ⟨hn1, hn2⟩
  have hl : lv_has ls 4 [(0, .ref v0), (1, .int v1), (2, .int v2), (3, .int v3)] := hl
  have hx := X.1
  have hb : c.code = cX7_owes := X.2.1
  have hown : s.vm.findClass RX7 = some m.cls := X.2.2.2.2.2.1
  have hts := X.2.2.2.2.2.2.1
  refine W.eq (g2 := F0 m 36 ls []) rfl ?_
  unfold T_X7_owes_36 at hf
  obtain ⟨x1, h1, hf⟩ := s_bind hf
  obtain ⟨q2, h2, hf⟩ := s_bind hf
  obtain ⟨x3, h3, hf⟩ := s_bind hf
  obtain ⟨q4, h4, hf⟩ := s_bind hf
  cases hf
  have k : _ = r := k
  subst k
  have le5 : s_le q4.2 q4.2 := s_le.rf
  have le6 := s_le.tr (l_X6_owedBy h4) le5
  refine lv_aload_n hx hb dX7_owes_36 rfl (lv_at hl 0 rfl) ?_
  refine r_gr X I fl_X7_49 h1 dX7_owes_37 ?_
  refine r_callV (Y := M_X0_audit) (v := none) X I w_509 my_X0_audit (by omega) (t_X0_audit (G := G) (d := d + 1) h2) (b_X0_audit h2) rfl rfl hl.1 rfl (Nat.le_of_ble_eq_true rfl) hn le6 dX7_owes_40 (fun H locs cells slots I hn1 hn2 => ?_)
  have I : s_I G q2.2 s H locs := I
  have hn : cells + σ0.2.1 ≤ q2.2.2.1 ∧ slots + σ0.2.2.1 ≤ q2.2.2.2.1 := ⟨hn1, hn2⟩
  refine lv_aload_n hx hb dX7_owes_43 rfl (lv_at hl 0 rfl) ?_
  refine r_gr X I fl_X7_65 h3 dX7_owes_44 ?_
  refine lv_iload_n hx hb dX7_owes_47 rfl (lv_at hl 1 rfl) ?_
  refine lv_iload_n hx hb dX7_owes_48 rfl (lv_at hl 2 rfl) ?_
  refine lv_iload_n hx hb dX7_owes_49 rfl (lv_at hl 3 rfl) ?_
  refine r_callV (Y := M_X6_owedBy) (v := some (.int q4.1)) X I w_1648 my_X6_owedBy (by omega) (t_X6_owedBy (G := G) (d := d + 0) h4) (b_X6_owedBy h4) rfl rfl hl.1 rfl (Nat.le_of_ble_eq_true rfl) hn le5 dX7_owes_50 (fun H locs cells slots I hn1 hn2 => ?_)
  have I : s_I G q4.2 s H locs := I
  have hn : cells + σ0.2.1 ≤ q4.2.2.1 ∧ slots + σ0.2.2.1 ≤ q4.2.2.2.1 := ⟨hn1, hn2⟩
  exact r_iret X I rfl rfl rfl hn dX7_owes_53
theorem v_X7_owes {G : sG} {d : Nat} {vs0 : List Value} {σ0 : sS} {x : sL} {z : sZ (Int32 ⊕ String)} {r : (Int32 ⊕ String) × sS} (hs : S_X7_owes x = some z) (k : s_K G (d + 8) M_X7_owes vs0 σ0 Y_X7_owes e_IX z r) : s_V G (d + 8) M_X7_owes vs0 σ0 Y_X7_owes x (e_IX r) := by
  obtain ⟨pc, vs, σ⟩ := x
  unfold S_X7_owes at hs
  dsimp only at hs
  rcases s_ite hs with ⟨c, hs⟩ | ⟨-, hs⟩
  · subst c
    unfold U_X7_owes_0 at hs
    obtain ⟨a0, g0, hs⟩ := s_bind hs
    obtain ⟨a1, g1, hs⟩ := s_bind hs
    obtain ⟨a2, g2, hs⟩ := s_bind hs
    obtain ⟨a3, g3, hs⟩ := s_bind hs
    obtain ⟨u9, ge, hs⟩ := s_bind hs
    rw [g_r_to g0, g_i_to g1, g_i_to g2, g_i_to g3, g_e_to ge]
    exact v_X7_owes_0 hs k
  rcases s_ite hs with ⟨c, hs⟩ | ⟨-, hs⟩
  · subst c
    unfold U_X7_owes_36 at hs
    obtain ⟨a0, g0, hs⟩ := s_bind hs
    obtain ⟨a1, g1, hs⟩ := s_bind hs
    obtain ⟨a2, g2, hs⟩ := s_bind hs
    obtain ⟨a3, g3, hs⟩ := s_bind hs
    obtain ⟨u9, ge, hs⟩ := s_bind hs
    rw [g_r_to g0, g_i_to g1, g_i_to g2, g_i_to g3, g_e_to ge]
    exact v_X7_owes_36 hs k
  cases hs
theorem t_X7_owes {G : sG} {d : Nat} {v0 : Nat} {v1 : Int32} {v2 : Int32} {v3 : Int32} {σ : sS} {q : (Int32 ⊕ String) × sS} (h : F_X7_owes v0 v1 v2 v3 σ = some q) : s_T G (d + 8) M_X7_owes [.ref v0, .int v1, .int v2, .int v3] σ (e_IX q) := by
  unfold F_X7_owes at h
  obtain ⟨-, -, h⟩ := s_bind h
  exact s_ofV rfl (by decide) (Nat.le_of_ble_eq_true rfl) rfl rfl (s_run_ind (V := fun x r => s_V G (d + 8) M_X7_owes [.ref v0, .int v1, .int v2, .int v3] σ Y_X7_owes x (e_IX r)) (fun x z r hs hk => v_X7_owes hs (by cases z <;> exact hk)) h)
/-! L_owes -/
noncomputable def T_L_owes_0 (v0 : Nat) (v1 : Int32) (v2 : Int32) (v3 : Int32) (v4 : Nat) (σ : sS) : Option (sZ Int32) :=
  (F_X7_owes v0 v1 v2 v3 σ).bind fun q1 => s_sum q1.1 (fun x2 => (s_sl q1.2 v4 0 ((x2 : Int32).toInt64)).bind fun σ4 =>
  some (.inr (0, σ4))) (fun E3 => if E3 = "java/lang/IndexOutOfBoundsException" then (some (.inr (1, q1.2))) else if E3 = "java/lang/IllegalArgumentException" then (some (.inr (2, q1.2))) else none)
noncomputable def U_L_owes_0 (vs : List Value) (σ : sS) : Option (sZ Int32) := (g_r vs).bind fun a0 => (g_i a0.2).bind fun a1 => (g_i a1.2).bind fun a2 => (g_i a2.2).bind fun a3 => (g_r a3.2).bind fun a4 => (g_e a4.2).bind fun _ => T_L_owes_0 a0.1 a1.1 a2.1 a3.1 a4.1 σ
noncomputable def S_L_owes (x : sL) : Option (sZ Int32) := if x.1 = 0 then U_L_owes_0 x.2.1 x.2.2 else none
def Y_L_owes (pc : Nat) : List Nat := if pc = 0 then [0, 1, 2, 3, 4] else []
noncomputable def F_L_owes (v0 : Nat) (v1 : Int32) (v2 : Int32) (v3 : Int32) (v4 : Nat) (σ : sS) : Option (Int32 × sS) := s_run S_L_owes (0, [.ref v0, .int v1, .int v2, .int v3, .ref v4], σ)
theorem hp_L_owes_7_1 : s_pass RL "java/lang/IllegalArgumentException" 7 [(0, 12, 15, 27)] := fun z hz => by
  simp only [List.mem_cons, List.not_mem_nil, or_false] at hz
  rcases hz with rfl
  · exact ⟨rfl, by decide, "java/lang/IndexOutOfBoundsException", w_1011, by decide +kernel⟩
theorem l_L_owes_0 {v0 : Nat} {v1 : Int32} {v2 : Int32} {v3 : Int32} {v4 : Nat} {σ : sS} {z : sZ Int32} (hf : T_L_owes_0 v0 v1 v2 v3 v4 σ = some z) : s_lz σ z := by
  unfold T_L_owes_0 at hf
  obtain ⟨q1, hh, hf⟩ := s_bind hf
  refine s_lz.tr (l_X7_owes hh) ?_
  rcases s_sum_some hf with ⟨x2, -, hf⟩ | ⟨E3, -, hf⟩
  · obtain ⟨σ4, hh, hf⟩ := s_bind hf
    refine s_lz.tr (s_le2 (s_sl_2 hh)) ?_
    cases hf
    exact s_le.rf
  · rcases s_ite hf with ⟨-, hf⟩ | ⟨-, hf⟩
    · cases hf
      exact s_le.rf
    rcases s_ite hf with ⟨-, hf⟩ | ⟨-, hf⟩
    · cases hf
      exact s_le.rf
    cases hf
theorem l_L_owes_s {x : sL} {z : sZ Int32} (hs : S_L_owes x = some z) : s_lz x.2.2 z := by
  obtain ⟨pc, vs, σ⟩ := x
  unfold S_L_owes at hs
  dsimp only at hs ⊢
  rcases s_ite hs with ⟨c, hs⟩ | ⟨-, hs⟩
  · subst c
    unfold U_L_owes_0 at hs
    obtain ⟨a0, g0, hs⟩ := s_bind hs
    obtain ⟨a1, g1, hs⟩ := s_bind hs
    obtain ⟨a2, g2, hs⟩ := s_bind hs
    obtain ⟨a3, g3, hs⟩ := s_bind hs
    obtain ⟨a4, g4, hs⟩ := s_bind hs
    obtain ⟨u9, ge, hs⟩ := s_bind hs
    exact l_L_owes_0 hs
  cases hs
theorem l_L_owes {v0 : Nat} {v1 : Int32} {v2 : Int32} {v3 : Int32} {v4 : Nat} {σ : sS} {q : Int32 × sS} (h : F_L_owes v0 v1 v2 v3 v4 σ = some q) : s_le σ q.2 := by
  unfold F_L_owes at h
  exact s_run_ind (V := fun x r => s_le x.2.2 r.2) (fun x z r hs hk => by
    have h9 := l_L_owes_s hs
    cases z with
    | inl y => exact s_le.tr h9 hk
    | inr q => cases hk; exact h9) h
set_option maxRecDepth 100000 in
set_option maxHeartbeats 4000000 in
theorem v_L_owes_0 {G : sG} {d : Nat} {vs0 : List Value} {σ0 : sS} {v0 : Nat} {v1 : Int32} {v2 : Int32} {v3 : Int32} {v4 : Nat} {σ : sS} {z : sZ Int32} {r : Int32 × sS} (hf : T_L_owes_0 v0 v1 v2 v3 v4 σ = some z) (k : s_K G (d + 9) M_L_owes vs0 σ0 Y_L_owes e_I z r) : s_V G (d + 9) M_L_owes vs0 σ0 Y_L_owes (0, [.ref v0, .int v1, .int v2, .int v3, .ref v4], σ) (e_I r) := by
  have le0 : s_le σ (e_I r).2 := s_lek hem_I (l_L_owes_0 hf) k
  refine ⟨le0, ?_⟩
  intro p e s m below meth c H locs cells slots ls X I hn1 hn2 hl
  have hn : cells + σ0.2.1 ≤ σ.2.1 ∧ slots + σ0.2.2.1 ≤ σ.2.2.1 := ⟨hn1, hn2⟩
  have hl : lv_has ls 6 [(0, .ref v0), (1, .int v1), (2, .int v2), (3, .int v3), (4, .ref v4)] := hl
  have hx := X.1
  have hb : c.code = cL_owes := X.2.1
  have hown : s.vm.findClass RL = some m.cls := X.2.2.2.2.2.1
  have hts := X.2.2.2.2.2.2.1
  refine W.eq (g2 := F0 m 0 ls []) rfl ?_
  unfold T_L_owes_0 at hf
  obtain ⟨q1, h1, hf⟩ := s_bind hf
  refine lv_aload hx hb dL_owes_0 (lv_at hl 4 rfl) ?_
  refine lv_iconst (v := 0) hx hb dL_owes_2 (by decide) ?_
  refine lv_aload_n hx hb dL_owes_3 rfl (lv_at hl 0 rfl) ?_
  refine lv_iload_n hx hb dL_owes_4 rfl (lv_at hl 1 rfl) ?_
  refine lv_iload_n hx hb dL_owes_5 rfl (lv_at hl 2 rfl) ?_
  refine lv_iload_n hx hb dL_owes_6 rfl (lv_at hl 3 rfl) ?_
  rcases s_sum_some hf with ⟨x2, hq2, hf⟩ | ⟨E3, hq2, hf⟩
  · have le3 : s_le q1.2 (e_I r).2 := by
      refine s_lek hem_I ?_ k
      obtain ⟨σ4, hh, hf⟩ := s_bind hf
      refine s_lz.tr (s_le2 (s_sl_2 hh)) ?_
      cases hf
      exact s_le.rf
    refine r_callV (Y := M_X7_owes) (v := some (.int x2)) X I w_1644 my_X7_owes (by omega) (t_X7_owes (G := G) (d := d + 0) h1) (b_X7_owes h1) (e_IX_l hq2) rfl hl.1 rfl (Nat.le_of_ble_eq_true rfl) hn le3 dL_owes_7 (fun H locs cells slots I hn1 hn2 => ?_)
    have I : s_I G q1.2 s H locs := I
    have hn : cells + σ0.2.1 ≤ q1.2.2.1 ∧ slots + σ0.2.2.1 ≤ q1.2.2.2.1 := ⟨hn1, hn2⟩
    obtain ⟨σ4, h4, hf⟩ := s_bind hf
    cases hf
    have k : _ = r := k
    subst k
    have le5 : s_le σ4 σ4 := s_le.rf
    refine lv_i2l hx hb dL_owes_10 rfl ?_
    refine r_last X I h4 dL_owes_11 (fun H locs I => ?_)
    have hn := s_k2 (s_sl_2 h4) hn
    refine lv_goto (tgt := 23) hx hb dL_owes_12 (by decide) ?_
    refine lv_iconst (v := 0) hx hb dL_owes_23 (by decide) ?_
    exact r_iret X I rfl rfl rfl hn dL_owes_24
  · rcases s_ite hf with ⟨c6, hf⟩ | ⟨c6, hf⟩
    · subst c6
      have le7 : s_le q1.2 (e_I r).2 := by
        refine s_lek hem_I ?_ k
        cases hf
        exact s_le.rf
      refine r_callVh (x := (0, 12, 15, 27)) (Y := M_X7_owes) (E := "java/lang/IndexOutOfBoundsException") (name := "java/lang/IndexOutOfBoundsException") X I [] [(0, 12, 19, 13)] rfl (fun z hz => by cases hz) rfl (by decide) w_1011 (by decide +kernel) w_1644 my_X7_owes (by omega) (t_X7_owes (G := G) (d := d + 0) h1) (b_X7_owes h1) (e_IX_r hq2) rfl hl.1 rfl (Nat.le_of_ble_eq_true rfl) hn le7 dL_owes_7 (fun a5 H locs cells slots I hn1 hn2 => ?_)
      have I : s_I G q1.2 s H locs := I
      have hn : cells + σ0.2.1 ≤ q1.2.2.1 ∧ slots + σ0.2.2.1 ≤ q1.2.2.2.1 := ⟨hn1, hn2⟩
      cases hf
      have k : _ = r := k
      subst k
      refine lv_astore (lv' := [(5, .ref a5), (0, .ref v0), (1, .int v1), (2, .int v2), (3, .int v3), (4, .ref v4)]) hx hb dL_owes_15 hl (by decide) rfl (fun ls hl => ?_)
      refine lv_iconst (v := 1) hx hb dL_owes_17 (by decide) ?_
      exact r_iret X I rfl rfl rfl hn dL_owes_18
    rcases s_ite hf with ⟨c8, hf⟩ | ⟨c8, hf⟩
    · subst c8
      have le9 : s_le q1.2 (e_I r).2 := by
        refine s_lek hem_I ?_ k
        cases hf
        exact s_le.rf
      refine r_callVh (x := (0, 12, 19, 13)) (Y := M_X7_owes) (E := "java/lang/IllegalArgumentException") (name := "java/lang/IllegalArgumentException") X I [(0, 12, 15, 27)] [] rfl hp_L_owes_7_1 rfl (by decide) w_691 (by decide +kernel) w_1644 my_X7_owes (by omega) (t_X7_owes (G := G) (d := d + 0) h1) (b_X7_owes h1) (e_IX_r hq2) rfl hl.1 rfl (Nat.le_of_ble_eq_true rfl) hn le9 dL_owes_7 (fun a6 H locs cells slots I hn1 hn2 => ?_)
      have I : s_I G q1.2 s H locs := I
      have hn : cells + σ0.2.1 ≤ q1.2.2.1 ∧ slots + σ0.2.2.1 ≤ q1.2.2.2.1 := ⟨hn1, hn2⟩
      cases hf
      have k : _ = r := k
      subst k
      refine lv_astore (lv' := [(5, .ref a6), (0, .ref v0), (1, .int v1), (2, .int v2), (3, .int v3), (4, .ref v4)]) hx hb dL_owes_19 hl (by decide) rfl (fun ls hl => ?_)
      refine lv_iconst (v := 2) hx hb dL_owes_21 (by decide) ?_
      exact r_iret X I rfl rfl rfl hn dL_owes_22
    cases hf
theorem v_L_owes {G : sG} {d : Nat} {vs0 : List Value} {σ0 : sS} {x : sL} {z : sZ Int32} {r : Int32 × sS} (hs : S_L_owes x = some z) (k : s_K G (d + 9) M_L_owes vs0 σ0 Y_L_owes e_I z r) : s_V G (d + 9) M_L_owes vs0 σ0 Y_L_owes x (e_I r) := by
  obtain ⟨pc, vs, σ⟩ := x
  unfold S_L_owes at hs
  dsimp only at hs
  rcases s_ite hs with ⟨c, hs⟩ | ⟨-, hs⟩
  · subst c
    unfold U_L_owes_0 at hs
    obtain ⟨a0, g0, hs⟩ := s_bind hs
    obtain ⟨a1, g1, hs⟩ := s_bind hs
    obtain ⟨a2, g2, hs⟩ := s_bind hs
    obtain ⟨a3, g3, hs⟩ := s_bind hs
    obtain ⟨a4, g4, hs⟩ := s_bind hs
    obtain ⟨u9, ge, hs⟩ := s_bind hs
    rw [g_r_to g0, g_i_to g1, g_i_to g2, g_i_to g3, g_r_to g4, g_e_to ge]
    exact v_L_owes_0 hs k
  cases hs
theorem t_L_owes {G : sG} {d : Nat} {v0 : Nat} {v1 : Int32} {v2 : Int32} {v3 : Int32} {v4 : Nat} {σ : sS} {q : Int32 × sS} (h : F_L_owes v0 v1 v2 v3 v4 σ = some q) : s_T G (d + 9) M_L_owes [.ref v0, .int v1, .int v2, .int v3, .ref v4] σ (e_I q) := by
  unfold F_L_owes at h
  exact s_ofVH rfl (by decide) (Nat.le_of_ble_eq_true rfl) rfl rfl (s_run_ind (V := fun x r => s_V G (d + 9) M_L_owes [.ref v0, .int v1, .int v2, .int v3, .ref v4] σ Y_L_owes x (e_I r)) (fun x z r hs hk => v_L_owes hs (by cases z <;> exact hk)) h)
/-! X8_owes -/
noncomputable def T_X8_owes_0 (v0 : Nat) (v1 : Int32) (v2 : Int32) (v3 : Int32) (σ : sS) : Option (sZ Int32) :=
  (s_pf σ v0 8 0 (.int 0)).bind fun σ1 =>
  (F_X8_noHouse v1 σ1).bind fun q2 =>
  (F_X8_throwsIf v0 q2.1 1 q2.2).bind fun q3 =>
  if q3.1 = 0 then ((F_X8_in v3 0 31 q3.2).bind fun q4 =>
  if q4.1 = 0 then (some (.inl (43, [.ref v0, .int v1, .int v2, .int v3, .ref v0], q4.2)))
  else (if v2 = (-1) then (some (.inl (47, [.ref v0, .int v1, .int v2, .int v3, .ref v0], q4.2)))
  else ((F_X8_in v2 0 6 q4.2).bind fun q5 =>
  if q5.1 = 0 then (some (.inl (43, [.ref v0, .int v1, .int v2, .int v3, .ref v0], q5.2)))
  else (some (.inl (47, [.ref v0, .int v1, .int v2, .int v3, .ref v0], q5.2))))))
  else (some (.inr (0, q3.2)))
noncomputable def U_X8_owes_0 (vs : List Value) (σ : sS) : Option (sZ Int32) := (g_r vs).bind fun a0 => (g_i a0.2).bind fun a1 => (g_i a1.2).bind fun a2 => (g_i a2.2).bind fun a3 => (g_e a3.2).bind fun _ => T_X8_owes_0 a0.1 a1.1 a2.1 a3.1 σ
noncomputable def T_X8_owes_43 (v0 : Nat) (v1 : Int32) (v2 : Int32) (v3 : Int32) (w0 : Nat) (σ : sS) : Option (sZ Int32) :=
  some (.inl (48, [.ref v0, .int v1, .int v2, .int v3, .int 1, .ref w0], σ))
noncomputable def U_X8_owes_43 (vs : List Value) (σ : sS) : Option (sZ Int32) := (g_r vs).bind fun a0 => (g_i a0.2).bind fun a1 => (g_i a1.2).bind fun a2 => (g_i a2.2).bind fun a3 => (g_r a3.2).bind fun a4 => (g_e a4.2).bind fun _ => T_X8_owes_43 a0.1 a1.1 a2.1 a3.1 a4.1 σ
noncomputable def T_X8_owes_47 (v0 : Nat) (v1 : Int32) (v2 : Int32) (v3 : Int32) (w0 : Nat) (σ : sS) : Option (sZ Int32) :=
  some (.inl (48, [.ref v0, .int v1, .int v2, .int v3, .int 0, .ref w0], σ))
noncomputable def U_X8_owes_47 (vs : List Value) (σ : sS) : Option (sZ Int32) := (g_r vs).bind fun a0 => (g_i a0.2).bind fun a1 => (g_i a1.2).bind fun a2 => (g_i a2.2).bind fun a3 => (g_r a3.2).bind fun a4 => (g_e a4.2).bind fun _ => T_X8_owes_47 a0.1 a1.1 a2.1 a3.1 a4.1 σ
noncomputable def T_X8_owes_48 (v0 : Nat) (v1 : Int32) (v2 : Int32) (v3 : Int32) (w0 : Int32) (w1 : Nat) (σ : sS) : Option (sZ Int32) :=
  (F_X8_throwsIf w1 w0 2 σ).bind fun q1 =>
  if q1.1 = 0 then ((F_X8_goesThrough v0 q1.2).bind fun q2 =>
  some (.inl (67, [.ref v0, .int v1, .int v2, .int v3, .int 0, .int 0], q2.2)))
  else (some (.inr (0, q1.2)))
noncomputable def U_X8_owes_48 (vs : List Value) (σ : sS) : Option (sZ Int32) := (g_r vs).bind fun a0 => (g_i a0.2).bind fun a1 => (g_i a1.2).bind fun a2 => (g_i a2.2).bind fun a3 => (g_i a3.2).bind fun a4 => (g_r a4.2).bind fun a5 => (g_e a5.2).bind fun _ => T_X8_owes_48 a0.1 a1.1 a2.1 a3.1 a4.1 a5.1 σ
noncomputable def T_X8_owes_67 (v0 : Nat) (v1 : Int32) (v2 : Int32) (v3 : Int32) (v4 : Int32) (v5 : Int32) (σ : sS) : Option (sZ Int32) :=
  (F_X8_receipts v0 σ).bind fun q1 =>
  if q1.1 ≤ v5 then (some (.inr (v4, q1.2)))
  else ((F_X8_seller v0 v5 q1.2).bind fun q2 =>
  if q2.1 = v1 then (if v2 = (-1) then (some (.inl (104, [.ref v0, .int v1, .int v2, .int v3, .int v5, .int v4], q2.2)))
  else ((F_X8_ofReceipt v0 v5 1 q2.2).bind fun q3 =>
  if q3.1 = v2 then (some (.inl (104, [.ref v0, .int v1, .int v2, .int v3, .int v5, .int v4], q3.2)))
  else (some (.inl (124, [.ref v0, .int v1, .int v2, .int v3, .int v5, .int v4], q3.2)))))
  else (some (.inl (124, [.ref v0, .int v1, .int v2, .int v3, .int v5, .int v4], q2.2))))
noncomputable def U_X8_owes_67 (vs : List Value) (σ : sS) : Option (sZ Int32) := (g_r vs).bind fun a0 => (g_i a0.2).bind fun a1 => (g_i a1.2).bind fun a2 => (g_i a2.2).bind fun a3 => (g_i a3.2).bind fun a4 => (g_i a4.2).bind fun a5 => (g_e a5.2).bind fun _ => T_X8_owes_67 a0.1 a1.1 a2.1 a3.1 a4.1 a5.1 σ
noncomputable def T_X8_owes_104 (v0 : Nat) (v1 : Int32) (v2 : Int32) (v3 : Int32) (v5 : Int32) (w0 : Int32) (σ : sS) : Option (sZ Int32) :=
  (F_X8_isBack v0 v5 v3 σ).bind fun q1 =>
  if q1.1 = 0 then (some (.inl (124, [.ref v0, .int v1, .int v2, .int v3, .int v5, .int w0], q1.2)))
  else ((F_X8_ofReceipt v0 v5 2 q1.2).bind fun q2 =>
  some (.inl (125, [.ref v0, .int v1, .int v2, .int v3, .int v5, .int q2.1, .int w0], q2.2)))
noncomputable def U_X8_owes_104 (vs : List Value) (σ : sS) : Option (sZ Int32) := (g_r vs).bind fun a0 => (g_i a0.2).bind fun a1 => (g_i a1.2).bind fun a2 => (g_i a2.2).bind fun a3 => (g_i a3.2).bind fun a4 => (g_i a4.2).bind fun a5 => (g_e a5.2).bind fun _ => T_X8_owes_104 a0.1 a1.1 a2.1 a3.1 a4.1 a5.1 σ
noncomputable def T_X8_owes_124 (v0 : Nat) (v1 : Int32) (v2 : Int32) (v3 : Int32) (v5 : Int32) (w0 : Int32) (σ : sS) : Option (sZ Int32) :=
  some (.inl (125, [.ref v0, .int v1, .int v2, .int v3, .int v5, .int 0, .int w0], σ))
noncomputable def U_X8_owes_124 (vs : List Value) (σ : sS) : Option (sZ Int32) := (g_r vs).bind fun a0 => (g_i a0.2).bind fun a1 => (g_i a1.2).bind fun a2 => (g_i a2.2).bind fun a3 => (g_i a3.2).bind fun a4 => (g_i a4.2).bind fun a5 => (g_e a5.2).bind fun _ => T_X8_owes_124 a0.1 a1.1 a2.1 a3.1 a4.1 a5.1 σ
noncomputable def T_X8_owes_125 (v0 : Nat) (v1 : Int32) (v2 : Int32) (v3 : Int32) (v5 : Int32) (w0 : Int32) (w1 : Int32) (σ : sS) : Option (sZ Int32) :=
  some (.inl (67, [.ref v0, .int v1, .int v2, .int v3, .int (w1 + w0), .int (v5 + 1)], σ))
noncomputable def U_X8_owes_125 (vs : List Value) (σ : sS) : Option (sZ Int32) := (g_r vs).bind fun a0 => (g_i a0.2).bind fun a1 => (g_i a1.2).bind fun a2 => (g_i a2.2).bind fun a3 => (g_i a3.2).bind fun a4 => (g_i a4.2).bind fun a5 => (g_i a5.2).bind fun a6 => (g_e a6.2).bind fun _ => T_X8_owes_125 a0.1 a1.1 a2.1 a3.1 a4.1 a5.1 a6.1 σ
noncomputable def S_X8_owes (x : sL) : Option (sZ Int32) := if x.1 = 0 then U_X8_owes_0 x.2.1 x.2.2 else if x.1 = 43 then U_X8_owes_43 x.2.1 x.2.2 else if x.1 = 47 then U_X8_owes_47 x.2.1 x.2.2 else if x.1 = 48 then U_X8_owes_48 x.2.1 x.2.2 else if x.1 = 67 then U_X8_owes_67 x.2.1 x.2.2 else if x.1 = 104 then U_X8_owes_104 x.2.1 x.2.2 else if x.1 = 124 then U_X8_owes_124 x.2.1 x.2.2 else if x.1 = 125 then U_X8_owes_125 x.2.1 x.2.2 else none
def Y_X8_owes (pc : Nat) : List Nat := if pc = 0 then [0, 1, 2, 3] else if pc = 43 then [0, 1, 2, 3] else if pc = 47 then [0, 1, 2, 3] else if pc = 48 then [0, 1, 2, 3] else if pc = 67 then [0, 1, 2, 3, 4, 5] else if pc = 104 then [0, 1, 2, 3, 5] else if pc = 124 then [0, 1, 2, 3, 5] else if pc = 125 then [0, 1, 2, 3, 5] else []
noncomputable def F_X8_owes (v0 : Nat) (v1 : Int32) (v2 : Int32) (v3 : Int32) (σ : sS) : Option (Int32 × sS) := (s_is σ v0 8).bind fun _ => s_run S_X8_owes (0, [.ref v0, .int v1, .int v2, .int v3], σ)
theorem l_X8_owes_0 {v0 : Nat} {v1 : Int32} {v2 : Int32} {v3 : Int32} {σ : sS} {z : sZ Int32} (hf : T_X8_owes_0 v0 v1 v2 v3 σ = some z) : s_lz σ z := by
  unfold T_X8_owes_0 at hf
  obtain ⟨σ1, hh, hf⟩ := s_bind hf
  refine s_lz.tr (s_le2 (s_pf_2 hh)) ?_
  obtain ⟨q2, hh, hf⟩ := s_bind hf
  refine s_lz.tr (l_X8_noHouse hh) ?_
  obtain ⟨q3, hh, hf⟩ := s_bind hf
  refine s_lz.tr (l_X8_throwsIf hh) ?_
  rcases s_ite hf with ⟨-, hf⟩ | ⟨-, hf⟩
  · obtain ⟨q4, hh, hf⟩ := s_bind hf
    refine s_lz.tr (l_X8_in hh) ?_
    rcases s_ite hf with ⟨-, hf⟩ | ⟨-, hf⟩
    · cases hf
      exact s_le.rf
    · rcases s_ite hf with ⟨-, hf⟩ | ⟨-, hf⟩
      · cases hf
        exact s_le.rf
      · obtain ⟨q5, hh, hf⟩ := s_bind hf
        refine s_lz.tr (l_X8_in hh) ?_
        rcases s_ite hf with ⟨-, hf⟩ | ⟨-, hf⟩
        · cases hf
          exact s_le.rf
        · cases hf
          exact s_le.rf
  · cases hf
    exact s_le.rf
theorem l_X8_owes_43 {v0 : Nat} {v1 : Int32} {v2 : Int32} {v3 : Int32} {w0 : Nat} {σ : sS} {z : sZ Int32} (hf : T_X8_owes_43 v0 v1 v2 v3 w0 σ = some z) : s_lz σ z := by
  unfold T_X8_owes_43 at hf
  cases hf
  exact s_le.rf
theorem l_X8_owes_47 {v0 : Nat} {v1 : Int32} {v2 : Int32} {v3 : Int32} {w0 : Nat} {σ : sS} {z : sZ Int32} (hf : T_X8_owes_47 v0 v1 v2 v3 w0 σ = some z) : s_lz σ z := by
  unfold T_X8_owes_47 at hf
  cases hf
  exact s_le.rf
theorem l_X8_owes_48 {v0 : Nat} {v1 : Int32} {v2 : Int32} {v3 : Int32} {w0 : Int32} {w1 : Nat} {σ : sS} {z : sZ Int32} (hf : T_X8_owes_48 v0 v1 v2 v3 w0 w1 σ = some z) : s_lz σ z := by
  unfold T_X8_owes_48 at hf
  obtain ⟨q1, hh, hf⟩ := s_bind hf
  refine s_lz.tr (l_X8_throwsIf hh) ?_
  rcases s_ite hf with ⟨-, hf⟩ | ⟨-, hf⟩
  · obtain ⟨q2, hh, hf⟩ := s_bind hf
    refine s_lz.tr (l_X8_goesThrough hh) ?_
    cases hf
    exact s_le.rf
  · cases hf
    exact s_le.rf
theorem l_X8_owes_67 {v0 : Nat} {v1 : Int32} {v2 : Int32} {v3 : Int32} {v4 : Int32} {v5 : Int32} {σ : sS} {z : sZ Int32} (hf : T_X8_owes_67 v0 v1 v2 v3 v4 v5 σ = some z) : s_lz σ z := by
  unfold T_X8_owes_67 at hf
  obtain ⟨q1, hh, hf⟩ := s_bind hf
  refine s_lz.tr (l_X8_receipts hh) ?_
  rcases s_ite hf with ⟨-, hf⟩ | ⟨-, hf⟩
  · cases hf
    exact s_le.rf
  · obtain ⟨q2, hh, hf⟩ := s_bind hf
    refine s_lz.tr (l_X8_seller hh) ?_
    rcases s_ite hf with ⟨-, hf⟩ | ⟨-, hf⟩
    · rcases s_ite hf with ⟨-, hf⟩ | ⟨-, hf⟩
      · cases hf
        exact s_le.rf
      · obtain ⟨q3, hh, hf⟩ := s_bind hf
        refine s_lz.tr (l_X8_ofReceipt hh) ?_
        rcases s_ite hf with ⟨-, hf⟩ | ⟨-, hf⟩
        · cases hf
          exact s_le.rf
        · cases hf
          exact s_le.rf
    · cases hf
      exact s_le.rf
theorem l_X8_owes_104 {v0 : Nat} {v1 : Int32} {v2 : Int32} {v3 : Int32} {v5 : Int32} {w0 : Int32} {σ : sS} {z : sZ Int32} (hf : T_X8_owes_104 v0 v1 v2 v3 v5 w0 σ = some z) : s_lz σ z := by
  unfold T_X8_owes_104 at hf
  obtain ⟨q1, hh, hf⟩ := s_bind hf
  refine s_lz.tr (l_X8_isBack hh) ?_
  rcases s_ite hf with ⟨-, hf⟩ | ⟨-, hf⟩
  · cases hf
    exact s_le.rf
  · obtain ⟨q2, hh, hf⟩ := s_bind hf
    refine s_lz.tr (l_X8_ofReceipt hh) ?_
    cases hf
    exact s_le.rf
theorem l_X8_owes_124 {v0 : Nat} {v1 : Int32} {v2 : Int32} {v3 : Int32} {v5 : Int32} {w0 : Int32} {σ : sS} {z : sZ Int32} (hf : T_X8_owes_124 v0 v1 v2 v3 v5 w0 σ = some z) : s_lz σ z := by
  unfold T_X8_owes_124 at hf
  cases hf
  exact s_le.rf
theorem l_X8_owes_125 {v0 : Nat} {v1 : Int32} {v2 : Int32} {v3 : Int32} {v5 : Int32} {w0 : Int32} {w1 : Int32} {σ : sS} {z : sZ Int32} (hf : T_X8_owes_125 v0 v1 v2 v3 v5 w0 w1 σ = some z) : s_lz σ z := by
  unfold T_X8_owes_125 at hf
  cases hf
  exact s_le.rf
theorem l_X8_owes_s {x : sL} {z : sZ Int32} (hs : S_X8_owes x = some z) : s_lz x.2.2 z := by
  obtain ⟨pc, vs, σ⟩ := x
  unfold S_X8_owes at hs
  dsimp only at hs ⊢
  rcases s_ite hs with ⟨c, hs⟩ | ⟨-, hs⟩
  · subst c
    unfold U_X8_owes_0 at hs
    obtain ⟨a0, g0, hs⟩ := s_bind hs
    obtain ⟨a1, g1, hs⟩ := s_bind hs
    obtain ⟨a2, g2, hs⟩ := s_bind hs
    obtain ⟨a3, g3, hs⟩ := s_bind hs
    obtain ⟨u9, ge, hs⟩ := s_bind hs
    exact l_X8_owes_0 hs
  rcases s_ite hs with ⟨c, hs⟩ | ⟨-, hs⟩
  · subst c
    unfold U_X8_owes_43 at hs
    obtain ⟨a0, g0, hs⟩ := s_bind hs
    obtain ⟨a1, g1, hs⟩ := s_bind hs
    obtain ⟨a2, g2, hs⟩ := s_bind hs
    obtain ⟨a3, g3, hs⟩ := s_bind hs
    obtain ⟨a4, g4, hs⟩ := s_bind hs
    obtain ⟨u9, ge, hs⟩ := s_bind hs
    exact l_X8_owes_43 hs
  rcases s_ite hs with ⟨c, hs⟩ | ⟨-, hs⟩
  · subst c
    unfold U_X8_owes_47 at hs
    obtain ⟨a0, g0, hs⟩ := s_bind hs
    obtain ⟨a1, g1, hs⟩ := s_bind hs
    obtain ⟨a2, g2, hs⟩ := s_bind hs
    obtain ⟨a3, g3, hs⟩ := s_bind hs
    obtain ⟨a4, g4, hs⟩ := s_bind hs
    obtain ⟨u9, ge, hs⟩ := s_bind hs
    exact l_X8_owes_47 hs
  rcases s_ite hs with ⟨c, hs⟩ | ⟨-, hs⟩
  · subst c
    unfold U_X8_owes_48 at hs
    obtain ⟨a0, g0, hs⟩ := s_bind hs
    obtain ⟨a1, g1, hs⟩ := s_bind hs
    obtain ⟨a2, g2, hs⟩ := s_bind hs
    obtain ⟨a3, g3, hs⟩ := s_bind hs
    obtain ⟨a4, g4, hs⟩ := s_bind hs
    obtain ⟨a5, g5, hs⟩ := s_bind hs
    obtain ⟨u9, ge, hs⟩ := s_bind hs
    exact l_X8_owes_48 hs
  rcases s_ite hs with ⟨c, hs⟩ | ⟨-, hs⟩
  · subst c
    unfold U_X8_owes_67 at hs
    obtain ⟨a0, g0, hs⟩ := s_bind hs
    obtain ⟨a1, g1, hs⟩ := s_bind hs
    obtain ⟨a2, g2, hs⟩ := s_bind hs
    obtain ⟨a3, g3, hs⟩ := s_bind hs
    obtain ⟨a4, g4, hs⟩ := s_bind hs
    obtain ⟨a5, g5, hs⟩ := s_bind hs
    obtain ⟨u9, ge, hs⟩ := s_bind hs
    exact l_X8_owes_67 hs
  rcases s_ite hs with ⟨c, hs⟩ | ⟨-, hs⟩
  · subst c
    unfold U_X8_owes_104 at hs
    obtain ⟨a0, g0, hs⟩ := s_bind hs
    obtain ⟨a1, g1, hs⟩ := s_bind hs
    obtain ⟨a2, g2, hs⟩ := s_bind hs
    obtain ⟨a3, g3, hs⟩ := s_bind hs
    obtain ⟨a4, g4, hs⟩ := s_bind hs
    obtain ⟨a5, g5, hs⟩ := s_bind hs
    obtain ⟨u9, ge, hs⟩ := s_bind hs
    exact l_X8_owes_104 hs
  rcases s_ite hs with ⟨c, hs⟩ | ⟨-, hs⟩
  · subst c
    unfold U_X8_owes_124 at hs
    obtain ⟨a0, g0, hs⟩ := s_bind hs
    obtain ⟨a1, g1, hs⟩ := s_bind hs
    obtain ⟨a2, g2, hs⟩ := s_bind hs
    obtain ⟨a3, g3, hs⟩ := s_bind hs
    obtain ⟨a4, g4, hs⟩ := s_bind hs
    obtain ⟨a5, g5, hs⟩ := s_bind hs
    obtain ⟨u9, ge, hs⟩ := s_bind hs
    exact l_X8_owes_124 hs
  rcases s_ite hs with ⟨c, hs⟩ | ⟨-, hs⟩
  · subst c
    unfold U_X8_owes_125 at hs
    obtain ⟨a0, g0, hs⟩ := s_bind hs
    obtain ⟨a1, g1, hs⟩ := s_bind hs
    obtain ⟨a2, g2, hs⟩ := s_bind hs
    obtain ⟨a3, g3, hs⟩ := s_bind hs
    obtain ⟨a4, g4, hs⟩ := s_bind hs
    obtain ⟨a5, g5, hs⟩ := s_bind hs
    obtain ⟨a6, g6, hs⟩ := s_bind hs
    obtain ⟨u9, ge, hs⟩ := s_bind hs
    exact l_X8_owes_125 hs
  cases hs
theorem l_X8_owes {v0 : Nat} {v1 : Int32} {v2 : Int32} {v3 : Int32} {σ : sS} {q : Int32 × sS} (h : F_X8_owes v0 v1 v2 v3 σ = some q) : s_le σ q.2 := by
  unfold F_X8_owes at h
  obtain ⟨-, -, h⟩ := s_bind h
  exact s_run_ind (V := fun x r => s_le x.2.2 r.2) (fun x z r hs hk => by
    have h9 := l_X8_owes_s hs
    cases z with
    | inl y => exact s_le.tr h9 hk
    | inr q => cases hk; exact h9) h
theorem b_X8_owes {v0 : Nat} {v1 : Int32} {v2 : Int32} {v3 : Int32} {σ : sS} {q : Int32 × sS} (h : F_X8_owes v0 v1 v2 v3 σ = some q) : ∃ fs, σ.1 v0 = some (.inr (8, fs)) := by
  unfold F_X8_owes at h
  obtain ⟨u, hu, -⟩ := s_bind h
  exact s_is_to hu
set_option maxRecDepth 100000 in
set_option maxHeartbeats 4000000 in
theorem v_X8_owes_0 {G : sG} {d : Nat} {vs0 : List Value} {σ0 : sS} {v0 : Nat} {v1 : Int32} {v2 : Int32} {v3 : Int32} {σ : sS} {z : sZ Int32} {r : Int32 × sS} (hf : T_X8_owes_0 v0 v1 v2 v3 σ = some z) (k : s_K G (d + 8) M_X8_owes vs0 σ0 Y_X8_owes e_I z r) : s_V G (d + 8) M_X8_owes vs0 σ0 Y_X8_owes (0, [.ref v0, .int v1, .int v2, .int v3], σ) (e_I r) := by
  have le0 : s_le σ (e_I r).2 := s_lek hem_I (l_X8_owes_0 hf) k
  refine ⟨le0, ?_⟩
  intro p e s m below meth c H locs cells slots ls X I hn1 hn2 hl
  have hn : cells + σ0.2.1 ≤ σ.2.1 ∧ slots + σ0.2.2.1 ≤ σ.2.2.1 := ⟨hn1, hn2⟩
  have hl : lv_has ls 6 [(0, .ref v0), (1, .int v1), (2, .int v2), (3, .int v3)] := hl
  have hx := X.1
  have hb : c.code = cX8_owes := X.2.1
  have hown : s.vm.findClass RX8 = some m.cls := X.2.2.2.2.2.1
  have hts := X.2.2.2.2.2.2.1
  refine W.eq (g2 := F0 m 0 ls []) rfl ?_
  unfold T_X8_owes_0 at hf
  obtain ⟨σ1, h1, hf⟩ := s_bind hf
  obtain ⟨q2, h2, hf⟩ := s_bind hf
  obtain ⟨q3, h3, hf⟩ := s_bind hf
  have le4 : s_le q3.2 (e_I r).2 := by
    refine s_lek hem_I ?_ k
    rcases s_ite hf with ⟨-, hf⟩ | ⟨-, hf⟩
    · obtain ⟨q4, hh, hf⟩ := s_bind hf
      refine s_lz.tr (l_X8_in hh) ?_
      rcases s_ite hf with ⟨-, hf⟩ | ⟨-, hf⟩
      · cases hf
        exact s_le.rf
      · rcases s_ite hf with ⟨-, hf⟩ | ⟨-, hf⟩
        · cases hf
          exact s_le.rf
        · obtain ⟨q5, hh, hf⟩ := s_bind hf
          refine s_lz.tr (l_X8_in hh) ?_
          rcases s_ite hf with ⟨-, hf⟩ | ⟨-, hf⟩
          · cases hf
            exact s_le.rf
          · cases hf
            exact s_le.rf
    · cases hf
      exact s_le.rf
  have le5 := s_le.tr (l_X8_throwsIf h3) le4
  have le6 := s_le.tr (l_X8_noHouse h2) le5
  refine lv_aload_n hx hb dX8_owes_0 rfl (lv_at hl 0 rfl) ?_
  refine lv_iconst (v := 0) hx hb dX8_owes_1 (by decide) ?_
  refine r_put X I fp_X8_3 (fun h => by cases h) h1 rfl rfl dX8_owes_2 (fun H locs I => ?_)
  have hn := s_k2 (s_pf_2 h1) hn
  refine lv_aload_n hx hb dX8_owes_5 rfl (lv_at hl 0 rfl) ?_
  refine lv_iload_n hx hb dX8_owes_6 rfl (lv_at hl 1 rfl) ?_
  refine r_callS (Y := M_X8_noHouse) (v := some (.int q2.1)) X I w_1973 my_X8_noHouse (by omega) (t_X8_noHouse (G := G) (d := d + 5) h2) rfl rfl hl.1 rfl (Nat.le_of_ble_eq_true rfl) hn le5 dX8_owes_7 (fun H locs cells slots I hn1 hn2 => ?_)
  have I : s_I G q2.2 s H locs := I
  have hn : cells + σ0.2.1 ≤ q2.2.2.1 ∧ slots + σ0.2.2.1 ≤ q2.2.2.2.1 := ⟨hn1, hn2⟩
  refine lv_iconst (v := 1) hx hb dX8_owes_10 (by decide) ?_
  refine r_callV (Y := M_X8_throwsIf) (v := some (.int q3.1)) X I w_1897 my_X8_throwsIf (by omega) (t_X8_throwsIf (G := G) (d := d + 6) h3) (b_X8_throwsIf h3) rfl rfl hl.1 rfl (Nat.le_of_ble_eq_true rfl) hn le4 dX8_owes_11 (fun H locs cells slots I hn1 hn2 => ?_)
  have I : s_I G q3.2 s H locs := I
  have hn : cells + σ0.2.1 ≤ q3.2.2.1 ∧ slots + σ0.2.2.1 ≤ q3.2.2.2.1 := ⟨hn1, hn2⟩
  rcases s_ite hf with ⟨c7, hf⟩ | ⟨c7, hf⟩
  · refine lv_if_ne (tgt := 55) hx hb dX8_owes_14 (by decide) (fun n => absurd c7 n) (fun _ => ?_)
    obtain ⟨q4, h8, hf⟩ := s_bind hf
    have le9 : s_le q4.2 (e_I r).2 := by
      refine s_lek hem_I ?_ k
      rcases s_ite hf with ⟨-, hf⟩ | ⟨-, hf⟩
      · cases hf
        exact s_le.rf
      · rcases s_ite hf with ⟨-, hf⟩ | ⟨-, hf⟩
        · cases hf
          exact s_le.rf
        · obtain ⟨q5, hh, hf⟩ := s_bind hf
          refine s_lz.tr (l_X8_in hh) ?_
          rcases s_ite hf with ⟨-, hf⟩ | ⟨-, hf⟩
          · cases hf
            exact s_le.rf
          · cases hf
            exact s_le.rf
    refine lv_aload_n hx hb dX8_owes_17 rfl (lv_at hl 0 rfl) ?_
    refine lv_iload_n hx hb dX8_owes_18 rfl (lv_at hl 3 rfl) ?_
    refine lv_iconst (v := 0) hx hb dX8_owes_19 (by decide) ?_
    refine lv_bipush (v := 31) hx hb dX8_owes_20 (by decide) ?_
    refine r_callS (Y := M_X8_in) (v := some (.int q4.1)) X I w_1909 my_X8_in (by omega) (t_X8_in (G := G) (d := d + 6) h8) rfl rfl hl.1 rfl (Nat.le_of_ble_eq_true rfl) hn le9 dX8_owes_22 (fun H locs cells slots I hn1 hn2 => ?_)
    have I : s_I G q4.2 s H locs := I
    have hn : cells + σ0.2.1 ≤ q4.2.2.1 ∧ slots + σ0.2.2.1 ≤ q4.2.2.2.1 := ⟨hn1, hn2⟩
    rcases s_ite hf with ⟨c10, hf⟩ | ⟨c10, hf⟩
    · refine lv_if_eq (tgt := 43) hx hb dX8_owes_25 (by decide) (fun _ => ?_) (fun n => absurd c10 n)
      cases hf
      have k : s_V G (d + 8) M_X8_owes vs0 σ0 Y_X8_owes (43, [.ref v0, .int v1, .int v2, .int v3, .ref v0], q4.2) (e_I r) := k
      exact k.2 p e s m below meth c _ _ _ _ _ X I hn.1 hn.2 (lv_sub hl [0, 1, 2, 3] rfl)
    · refine lv_if_eq (tgt := 43) hx hb dX8_owes_25 (by decide) (fun n => absurd n c10) (fun _ => ?_)
      refine lv_iload_n hx hb dX8_owes_28 rfl (lv_at hl 2 rfl) ?_
      refine lv_iconst (v := (-1)) hx hb dX8_owes_29 (by decide) ?_
      rcases s_ite hf with ⟨c11, hf⟩ | ⟨c11, hf⟩
      · refine lv_icmp_eq (tgt := 47) hx hb dX8_owes_30 (by decide) (fun _ => ?_) (fun n => absurd c11 n)
        cases hf
        have k : s_V G (d + 8) M_X8_owes vs0 σ0 Y_X8_owes (47, [.ref v0, .int v1, .int v2, .int v3, .ref v0], q4.2) (e_I r) := k
        exact k.2 p e s m below meth c _ _ _ _ _ X I hn.1 hn.2 (lv_sub hl [0, 1, 2, 3] rfl)
      · refine lv_icmp_eq (tgt := 47) hx hb dX8_owes_30 (by decide) (fun n => absurd n c11) (fun _ => ?_)
        obtain ⟨q5, h12, hf⟩ := s_bind hf
        have le13 : s_le q5.2 (e_I r).2 := by
          refine s_lek hem_I ?_ k
          rcases s_ite hf with ⟨-, hf⟩ | ⟨-, hf⟩
          · cases hf
            exact s_le.rf
          · cases hf
            exact s_le.rf
        refine lv_iload_n hx hb dX8_owes_33 rfl (lv_at hl 2 rfl) ?_
        refine lv_iconst (v := 0) hx hb dX8_owes_34 (by decide) ?_
        refine lv_bipush (v := 6) hx hb dX8_owes_35 (by decide) ?_
        refine r_callS (Y := M_X8_in) (v := some (.int q5.1)) X I w_1909 my_X8_in (by omega) (t_X8_in (G := G) (d := d + 6) h12) rfl rfl hl.1 rfl (Nat.le_of_ble_eq_true rfl) hn le13 dX8_owes_37 (fun H locs cells slots I hn1 hn2 => ?_)
        have I : s_I G q5.2 s H locs := I
        have hn : cells + σ0.2.1 ≤ q5.2.2.1 ∧ slots + σ0.2.2.1 ≤ q5.2.2.2.1 := ⟨hn1, hn2⟩
        rcases s_ite hf with ⟨c14, hf⟩ | ⟨c14, hf⟩
        · refine lv_if_ne (tgt := 47) hx hb dX8_owes_40 (by decide) (fun n => absurd c14 n) (fun _ => ?_)
          cases hf
          have k : s_V G (d + 8) M_X8_owes vs0 σ0 Y_X8_owes (43, [.ref v0, .int v1, .int v2, .int v3, .ref v0], q5.2) (e_I r) := k
          exact k.2 p e s m below meth c _ _ _ _ _ X I hn.1 hn.2 (lv_sub hl [0, 1, 2, 3] rfl)
        · refine lv_if_ne (tgt := 47) hx hb dX8_owes_40 (by decide) (fun _ => ?_) (fun n => absurd n c14)
          cases hf
          have k : s_V G (d + 8) M_X8_owes vs0 σ0 Y_X8_owes (47, [.ref v0, .int v1, .int v2, .int v3, .ref v0], q5.2) (e_I r) := k
          exact k.2 p e s m below meth c _ _ _ _ _ X I hn.1 hn.2 (lv_sub hl [0, 1, 2, 3] rfl)
  · refine lv_if_ne (tgt := 55) hx hb dX8_owes_14 (by decide) (fun _ => ?_) (fun n => absurd n c7)
    cases hf
    have k : _ = r := k
    subst k
    refine lv_iconst (v := 0) hx hb dX8_owes_55 (by decide) ?_
    exact r_iret X I rfl rfl rfl hn dX8_owes_56
set_option maxRecDepth 100000 in
set_option maxHeartbeats 4000000 in
theorem v_X8_owes_43 {G : sG} {d : Nat} {vs0 : List Value} {σ0 : sS} {v0 : Nat} {v1 : Int32} {v2 : Int32} {v3 : Int32} {w0 : Nat} {σ : sS} {z : sZ Int32} {r : Int32 × sS} (hf : T_X8_owes_43 v0 v1 v2 v3 w0 σ = some z) (k : s_K G (d + 8) M_X8_owes vs0 σ0 Y_X8_owes e_I z r) : s_V G (d + 8) M_X8_owes vs0 σ0 Y_X8_owes (43, [.ref v0, .int v1, .int v2, .int v3, .ref w0], σ) (e_I r) := by
  have le0 : s_le σ (e_I r).2 := s_lek hem_I (l_X8_owes_43 hf) k
  refine ⟨le0, ?_⟩
  intro p e s m below meth c H locs cells slots ls X I hn1 hn2 hl
  have hn : cells + σ0.2.1 ≤ σ.2.1 ∧ slots + σ0.2.2.1 ≤ σ.2.2.1 := ⟨hn1, hn2⟩
  have hl : lv_has ls 6 [(0, .ref v0), (1, .int v1), (2, .int v2), (3, .int v3)] := hl
  have hx := X.1
  have hb : c.code = cX8_owes := X.2.1
  have hown : s.vm.findClass RX8 = some m.cls := X.2.2.2.2.2.1
  have hts := X.2.2.2.2.2.2.1
  refine W.eq (g2 := F0 m 43 ls [.ref w0]) rfl ?_
  unfold T_X8_owes_43 at hf
  cases hf
  have k : s_V G (d + 8) M_X8_owes vs0 σ0 Y_X8_owes (48, [.ref v0, .int v1, .int v2, .int v3, .int 1, .ref w0], σ) (e_I r) := k
  refine lv_iconst (v := 1) hx hb dX8_owes_43 (by decide) ?_
  refine lv_goto (tgt := 48) hx hb dX8_owes_44 (by decide) ?_
  exact k.2 p e s m below meth c _ _ _ _ _ X I hn.1 hn.2 (lv_sub hl [0, 1, 2, 3] rfl)
set_option maxRecDepth 100000 in
set_option maxHeartbeats 4000000 in
theorem v_X8_owes_47 {G : sG} {d : Nat} {vs0 : List Value} {σ0 : sS} {v0 : Nat} {v1 : Int32} {v2 : Int32} {v3 : Int32} {w0 : Nat} {σ : sS} {z : sZ Int32} {r : Int32 × sS} (hf : T_X8_owes_47 v0 v1 v2 v3 w0 σ = some z) (k : s_K G (d + 8) M_X8_owes vs0 σ0 Y_X8_owes e_I z r) : s_V G (d + 8) M_X8_owes vs0 σ0 Y_X8_owes (47, [.ref v0, .int v1, .int v2, .int v3, .ref w0], σ) (e_I r) := by
  have le0 : s_le σ (e_I r).2 := s_lek hem_I (l_X8_owes_47 hf) k
  refine ⟨le0, ?_⟩
  intro p e s m below meth c H locs cells slots ls X I hn1 hn2 hl
  have hn : cells + σ0.2.1 ≤ σ.2.1 ∧ slots + σ0.2.2.1 ≤ σ.2.2.1 := ⟨hn1, hn2⟩
  have hl : lv_has ls 6 [(0, .ref v0), (1, .int v1), (2, .int v2), (3, .int v3)] := hl
  have hx := X.1
  have hb : c.code = cX8_owes := X.2.1
  have hown : s.vm.findClass RX8 = some m.cls := X.2.2.2.2.2.1
  have hts := X.2.2.2.2.2.2.1
  refine W.eq (g2 := F0 m 47 ls [.ref w0]) rfl ?_
  unfold T_X8_owes_47 at hf
  cases hf
  have k : s_V G (d + 8) M_X8_owes vs0 σ0 Y_X8_owes (48, [.ref v0, .int v1, .int v2, .int v3, .int 0, .ref w0], σ) (e_I r) := k
  refine lv_iconst (v := 0) hx hb dX8_owes_47 (by decide) ?_
  exact k.2 p e s m below meth c _ _ _ _ _ X I hn.1 hn.2 (lv_sub hl [0, 1, 2, 3] rfl)
set_option maxRecDepth 100000 in
set_option maxHeartbeats 4000000 in
theorem v_X8_owes_48 {G : sG} {d : Nat} {vs0 : List Value} {σ0 : sS} {v0 : Nat} {v1 : Int32} {v2 : Int32} {v3 : Int32} {w0 : Int32} {w1 : Nat} {σ : sS} {z : sZ Int32} {r : Int32 × sS} (hf : T_X8_owes_48 v0 v1 v2 v3 w0 w1 σ = some z) (k : s_K G (d + 8) M_X8_owes vs0 σ0 Y_X8_owes e_I z r) : s_V G (d + 8) M_X8_owes vs0 σ0 Y_X8_owes (48, [.ref v0, .int v1, .int v2, .int v3, .int w0, .ref w1], σ) (e_I r) := by
  have le0 : s_le σ (e_I r).2 := s_lek hem_I (l_X8_owes_48 hf) k
  refine ⟨le0, ?_⟩
  intro p e s m below meth c H locs cells slots ls X I hn1 hn2 hl
  have hn : cells + σ0.2.1 ≤ σ.2.1 ∧ slots + σ0.2.2.1 ≤ σ.2.2.1 := ⟨hn1, hn2⟩
  have hl : lv_has ls 6 [(0, .ref v0), (1, .int v1), (2, .int v2), (3, .int v3)] := hl
  have hx := X.1
  have hb : c.code = cX8_owes := X.2.1
  have hown : s.vm.findClass RX8 = some m.cls := X.2.2.2.2.2.1
  have hts := X.2.2.2.2.2.2.1
  refine W.eq (g2 := F0 m 48 ls [.int w0, .ref w1]) rfl ?_
  unfold T_X8_owes_48 at hf
  obtain ⟨q1, h1, hf⟩ := s_bind hf
  have le2 : s_le q1.2 (e_I r).2 := by
    refine s_lek hem_I ?_ k
    rcases s_ite hf with ⟨-, hf⟩ | ⟨-, hf⟩
    · obtain ⟨q2, hh, hf⟩ := s_bind hf
      refine s_lz.tr (l_X8_goesThrough hh) ?_
      cases hf
      exact s_le.rf
    · cases hf
      exact s_le.rf
  refine lv_iconst (v := 2) hx hb dX8_owes_48 (by decide) ?_
  refine r_callV (Y := M_X8_throwsIf) (v := some (.int q1.1)) X I w_1897 my_X8_throwsIf (by omega) (t_X8_throwsIf (G := G) (d := d + 6) h1) (b_X8_throwsIf h1) rfl rfl hl.1 rfl (Nat.le_of_ble_eq_true rfl) hn le2 dX8_owes_49 (fun H locs cells slots I hn1 hn2 => ?_)
  have I : s_I G q1.2 s H locs := I
  have hn : cells + σ0.2.1 ≤ q1.2.2.1 ∧ slots + σ0.2.2.1 ≤ q1.2.2.2.1 := ⟨hn1, hn2⟩
  rcases s_ite hf with ⟨c3, hf⟩ | ⟨c3, hf⟩
  · refine lv_if_eq (tgt := 57) hx hb dX8_owes_52 (by decide) (fun _ => ?_) (fun n => absurd c3 n)
    obtain ⟨q2, h4, hf⟩ := s_bind hf
    cases hf
    have k : s_V G (d + 8) M_X8_owes vs0 σ0 Y_X8_owes (67, [.ref v0, .int v1, .int v2, .int v3, .int 0, .int 0], q2.2) (e_I r) := k
    have le5 : s_le q2.2 (e_I r).2 := k.1
    refine lv_aload_n hx hb dX8_owes_57 rfl (lv_at hl 0 rfl) ?_
    refine r_callV (Y := M_X8_goesThrough) (v := none) X I w_2027 my_X8_goesThrough (by omega) (t_X8_goesThrough (G := G) (d := d + 0) h4) (b_X8_goesThrough h4) rfl rfl hl.1 rfl (Nat.le_of_ble_eq_true rfl) hn le5 dX8_owes_58 (fun H locs cells slots I hn1 hn2 => ?_)
    have I : s_I G q2.2 s H locs := I
    have hn : cells + σ0.2.1 ≤ q2.2.2.1 ∧ slots + σ0.2.2.1 ≤ q2.2.2.2.1 := ⟨hn1, hn2⟩
    refine lv_iconst (v := 0) hx hb dX8_owes_61 (by decide) ?_
    refine lv_istore (lv' := [(4, .int 0), (0, .ref v0), (1, .int v1), (2, .int v2), (3, .int v3)]) hx hb dX8_owes_62 hl (by decide) rfl (fun ls hl => ?_)
    refine lv_iconst (v := 0) hx hb dX8_owes_64 (by decide) ?_
    refine lv_istore (lv' := [(5, .int 0), (4, .int 0), (0, .ref v0), (1, .int v1), (2, .int v2), (3, .int v3)]) hx hb dX8_owes_65 hl (by decide) rfl (fun ls hl => ?_)
    exact k.2 p e s m below meth c _ _ _ _ _ X I hn.1 hn.2 (lv_sub hl [2, 3, 4, 5, 1, 0] rfl)
  · refine lv_if_eq (tgt := 57) hx hb dX8_owes_52 (by decide) (fun n => absurd n c3) (fun _ => ?_)
    cases hf
    have k : _ = r := k
    subst k
    refine lv_iconst (v := 0) hx hb dX8_owes_55 (by decide) ?_
    exact r_iret X I rfl rfl rfl hn dX8_owes_56
set_option maxRecDepth 100000 in
set_option maxHeartbeats 4000000 in
theorem v_X8_owes_67 {G : sG} {d : Nat} {vs0 : List Value} {σ0 : sS} {v0 : Nat} {v1 : Int32} {v2 : Int32} {v3 : Int32} {v4 : Int32} {v5 : Int32} {σ : sS} {z : sZ Int32} {r : Int32 × sS} (hf : T_X8_owes_67 v0 v1 v2 v3 v4 v5 σ = some z) (k : s_K G (d + 8) M_X8_owes vs0 σ0 Y_X8_owes e_I z r) : s_V G (d + 8) M_X8_owes vs0 σ0 Y_X8_owes (67, [.ref v0, .int v1, .int v2, .int v3, .int v4, .int v5], σ) (e_I r) := by
  have le0 : s_le σ (e_I r).2 := s_lek hem_I (l_X8_owes_67 hf) k
  refine ⟨le0, ?_⟩
  intro p e s m below meth c H locs cells slots ls X I hn1 hn2 hl
  have hn : cells + σ0.2.1 ≤ σ.2.1 ∧ slots + σ0.2.2.1 ≤ σ.2.2.1 := ⟨hn1, hn2⟩
  have hl : lv_has ls 6 [(0, .ref v0), (1, .int v1), (2, .int v2), (3, .int v3), (4, .int v4), (5, .int v5)] := hl
  have hx := X.1
  have hb : c.code = cX8_owes := X.2.1
  have hown : s.vm.findClass RX8 = some m.cls := X.2.2.2.2.2.1
  have hts := X.2.2.2.2.2.2.1
  refine W.eq (g2 := F0 m 67 ls []) rfl ?_
  unfold T_X8_owes_67 at hf
  obtain ⟨q1, h1, hf⟩ := s_bind hf
  have le2 : s_le q1.2 (e_I r).2 := by
    refine s_lek hem_I ?_ k
    rcases s_ite hf with ⟨-, hf⟩ | ⟨-, hf⟩
    · cases hf
      exact s_le.rf
    · obtain ⟨q2, hh, hf⟩ := s_bind hf
      refine s_lz.tr (l_X8_seller hh) ?_
      rcases s_ite hf with ⟨-, hf⟩ | ⟨-, hf⟩
      · rcases s_ite hf with ⟨-, hf⟩ | ⟨-, hf⟩
        · cases hf
          exact s_le.rf
        · obtain ⟨q3, hh, hf⟩ := s_bind hf
          refine s_lz.tr (l_X8_ofReceipt hh) ?_
          rcases s_ite hf with ⟨-, hf⟩ | ⟨-, hf⟩
          · cases hf
            exact s_le.rf
          · cases hf
            exact s_le.rf
      · cases hf
        exact s_le.rf
  refine lv_iload hx hb dX8_owes_67 (lv_at hl 5 rfl) ?_
  refine lv_aload_n hx hb dX8_owes_69 rfl (lv_at hl 0 rfl) ?_
  refine r_callV (Y := M_X8_receipts) (v := some (.int q1.1)) X I w_2295 my_X8_receipts (by omega) (t_X8_receipts (G := G) (d := d + 6) h1) (b_X8_receipts h1) rfl rfl hl.1 rfl (Nat.le_of_ble_eq_true rfl) hn le2 dX8_owes_70 (fun H locs cells slots I hn1 hn2 => ?_)
  have I : s_I G q1.2 s H locs := I
  have hn : cells + σ0.2.1 ≤ q1.2.2.1 ∧ slots + σ0.2.2.1 ≤ q1.2.2.2.1 := ⟨hn1, hn2⟩
  rcases s_ite hf with ⟨c3, hf⟩ | ⟨c3, hf⟩
  · refine lv_icmp_ge (tgt := 134) hx hb dX8_owes_73 (by decide) (fun _ => ?_) (fun n => absurd c3 n)
    cases hf
    have k : _ = r := k
    subst k
    refine lv_iload hx hb dX8_owes_134 (lv_at hl 4 rfl) ?_
    exact r_iret X I rfl rfl rfl hn dX8_owes_136
  · refine lv_icmp_ge (tgt := 134) hx hb dX8_owes_73 (by decide) (fun n => absurd n c3) (fun _ => ?_)
    obtain ⟨q2, h4, hf⟩ := s_bind hf
    have le5 : s_le q2.2 (e_I r).2 := by
      refine s_lek hem_I ?_ k
      rcases s_ite hf with ⟨-, hf⟩ | ⟨-, hf⟩
      · rcases s_ite hf with ⟨-, hf⟩ | ⟨-, hf⟩
        · cases hf
          exact s_le.rf
        · obtain ⟨q3, hh, hf⟩ := s_bind hf
          refine s_lz.tr (l_X8_ofReceipt hh) ?_
          rcases s_ite hf with ⟨-, hf⟩ | ⟨-, hf⟩
          · cases hf
            exact s_le.rf
          · cases hf
            exact s_le.rf
      · cases hf
        exact s_le.rf
    refine lv_iload hx hb dX8_owes_76 (lv_at hl 4 rfl) ?_
    refine lv_aload_n hx hb dX8_owes_78 rfl (lv_at hl 0 rfl) ?_
    refine lv_iload hx hb dX8_owes_79 (lv_at hl 5 rfl) ?_
    refine r_callV (Y := M_X8_seller) (v := some (.int q2.1)) X I w_2315 my_X8_seller (by omega) (t_X8_seller (G := G) (d := d + 5) h4) (b_X8_seller h4) rfl rfl hl.1 rfl (Nat.le_of_ble_eq_true rfl) hn le5 dX8_owes_81 (fun H locs cells slots I hn1 hn2 => ?_)
    have I : s_I G q2.2 s H locs := I
    have hn : cells + σ0.2.1 ≤ q2.2.2.1 ∧ slots + σ0.2.2.1 ≤ q2.2.2.2.1 := ⟨hn1, hn2⟩
    refine lv_iload_n hx hb dX8_owes_84 rfl (lv_at hl 1 rfl) ?_
    rcases s_ite hf with ⟨c6, hf⟩ | ⟨c6, hf⟩
    · refine lv_icmp_ne (tgt := 124) hx hb dX8_owes_85 (by decide) (fun n => absurd c6 n) (fun _ => ?_)
      refine lv_iload_n hx hb dX8_owes_88 rfl (lv_at hl 2 rfl) ?_
      refine lv_iconst (v := (-1)) hx hb dX8_owes_89 (by decide) ?_
      rcases s_ite hf with ⟨c7, hf⟩ | ⟨c7, hf⟩
      · refine lv_icmp_eq (tgt := 104) hx hb dX8_owes_90 (by decide) (fun _ => ?_) (fun n => absurd c7 n)
        cases hf
        have k : s_V G (d + 8) M_X8_owes vs0 σ0 Y_X8_owes (104, [.ref v0, .int v1, .int v2, .int v3, .int v5, .int v4], q2.2) (e_I r) := k
        exact k.2 p e s m below meth c _ _ _ _ _ X I hn.1 hn.2 (lv_sub hl [0, 1, 2, 3, 5] rfl)
      · refine lv_icmp_eq (tgt := 104) hx hb dX8_owes_90 (by decide) (fun n => absurd n c7) (fun _ => ?_)
        obtain ⟨q3, h8, hf⟩ := s_bind hf
        have le9 : s_le q3.2 (e_I r).2 := by
          refine s_lek hem_I ?_ k
          rcases s_ite hf with ⟨-, hf⟩ | ⟨-, hf⟩
          · cases hf
            exact s_le.rf
          · cases hf
            exact s_le.rf
        refine lv_aload_n hx hb dX8_owes_93 rfl (lv_at hl 0 rfl) ?_
        refine lv_iload hx hb dX8_owes_94 (lv_at hl 5 rfl) ?_
        refine lv_iconst (v := 1) hx hb dX8_owes_96 (by decide) ?_
        refine r_callV (Y := M_X8_ofReceipt) (v := some (.int q3.1)) X I w_2307 my_X8_ofReceipt (by omega) (t_X8_ofReceipt (G := G) (d := d + 6) h8) (b_X8_ofReceipt h8) rfl rfl hl.1 rfl (Nat.le_of_ble_eq_true rfl) hn le9 dX8_owes_97 (fun H locs cells slots I hn1 hn2 => ?_)
        have I : s_I G q3.2 s H locs := I
        have hn : cells + σ0.2.1 ≤ q3.2.2.1 ∧ slots + σ0.2.2.1 ≤ q3.2.2.2.1 := ⟨hn1, hn2⟩
        refine lv_iload_n hx hb dX8_owes_100 rfl (lv_at hl 2 rfl) ?_
        rcases s_ite hf with ⟨c10, hf⟩ | ⟨c10, hf⟩
        · refine lv_icmp_ne (tgt := 124) hx hb dX8_owes_101 (by decide) (fun n => absurd c10 n) (fun _ => ?_)
          cases hf
          have k : s_V G (d + 8) M_X8_owes vs0 σ0 Y_X8_owes (104, [.ref v0, .int v1, .int v2, .int v3, .int v5, .int v4], q3.2) (e_I r) := k
          exact k.2 p e s m below meth c _ _ _ _ _ X I hn.1 hn.2 (lv_sub hl [0, 1, 2, 3, 5] rfl)
        · refine lv_icmp_ne (tgt := 124) hx hb dX8_owes_101 (by decide) (fun _ => ?_) (fun n => absurd n c10)
          cases hf
          have k : s_V G (d + 8) M_X8_owes vs0 σ0 Y_X8_owes (124, [.ref v0, .int v1, .int v2, .int v3, .int v5, .int v4], q3.2) (e_I r) := k
          exact k.2 p e s m below meth c _ _ _ _ _ X I hn.1 hn.2 (lv_sub hl [0, 1, 2, 3, 5] rfl)
    · refine lv_icmp_ne (tgt := 124) hx hb dX8_owes_85 (by decide) (fun _ => ?_) (fun n => absurd n c6)
      cases hf
      have k : s_V G (d + 8) M_X8_owes vs0 σ0 Y_X8_owes (124, [.ref v0, .int v1, .int v2, .int v3, .int v5, .int v4], q2.2) (e_I r) := k
      exact k.2 p e s m below meth c _ _ _ _ _ X I hn.1 hn.2 (lv_sub hl [0, 1, 2, 3, 5] rfl)
set_option maxRecDepth 100000 in
set_option maxHeartbeats 4000000 in
theorem v_X8_owes_104 {G : sG} {d : Nat} {vs0 : List Value} {σ0 : sS} {v0 : Nat} {v1 : Int32} {v2 : Int32} {v3 : Int32} {v5 : Int32} {w0 : Int32} {σ : sS} {z : sZ Int32} {r : Int32 × sS} (hf : T_X8_owes_104 v0 v1 v2 v3 v5 w0 σ = some z) (k : s_K G (d + 8) M_X8_owes vs0 σ0 Y_X8_owes e_I z r) : s_V G (d + 8) M_X8_owes vs0 σ0 Y_X8_owes (104, [.ref v0, .int v1, .int v2, .int v3, .int v5, .int w0], σ) (e_I r) := by
  have le0 : s_le σ (e_I r).2 := s_lek hem_I (l_X8_owes_104 hf) k
  refine ⟨le0, ?_⟩
  intro p e s m below meth c H locs cells slots ls X I hn1 hn2 hl
  have hn : cells + σ0.2.1 ≤ σ.2.1 ∧ slots + σ0.2.2.1 ≤ σ.2.2.1 := ⟨hn1, hn2⟩
  have hl : lv_has ls 6 [(0, .ref v0), (1, .int v1), (2, .int v2), (3, .int v3), (5, .int v5)] := hl
  have hx := X.1
  have hb : c.code = cX8_owes := X.2.1
  have hown : s.vm.findClass RX8 = some m.cls := X.2.2.2.2.2.1
  have hts := X.2.2.2.2.2.2.1
  refine W.eq (g2 := F0 m 104 ls [.int w0]) rfl ?_
  unfold T_X8_owes_104 at hf
  obtain ⟨q1, h1, hf⟩ := s_bind hf
  have le2 : s_le q1.2 (e_I r).2 := by
    refine s_lek hem_I ?_ k
    rcases s_ite hf with ⟨-, hf⟩ | ⟨-, hf⟩
    · cases hf
      exact s_le.rf
    · obtain ⟨q2, hh, hf⟩ := s_bind hf
      refine s_lz.tr (l_X8_ofReceipt hh) ?_
      cases hf
      exact s_le.rf
  refine lv_aload_n hx hb dX8_owes_104 rfl (lv_at hl 0 rfl) ?_
  refine lv_iload hx hb dX8_owes_105 (lv_at hl 4 rfl) ?_
  refine lv_iload_n hx hb dX8_owes_107 rfl (lv_at hl 3 rfl) ?_
  refine r_callV (Y := M_X8_isBack) (v := some (.int q1.1)) X I w_2319 my_X8_isBack (by omega) (t_X8_isBack (G := G) (d := d + 0) h1) (b_X8_isBack h1) rfl rfl hl.1 rfl (Nat.le_of_ble_eq_true rfl) hn le2 dX8_owes_108 (fun H locs cells slots I hn1 hn2 => ?_)
  have I : s_I G q1.2 s H locs := I
  have hn : cells + σ0.2.1 ≤ q1.2.2.1 ∧ slots + σ0.2.2.1 ≤ q1.2.2.2.1 := ⟨hn1, hn2⟩
  rcases s_ite hf with ⟨c3, hf⟩ | ⟨c3, hf⟩
  · refine lv_if_eq (tgt := 124) hx hb dX8_owes_111 (by decide) (fun _ => ?_) (fun n => absurd c3 n)
    cases hf
    have k : s_V G (d + 8) M_X8_owes vs0 σ0 Y_X8_owes (124, [.ref v0, .int v1, .int v2, .int v3, .int v5, .int w0], q1.2) (e_I r) := k
    exact k.2 p e s m below meth c _ _ _ _ _ X I hn.1 hn.2 (lv_sub hl [0, 1, 2, 3, 4] rfl)
  · refine lv_if_eq (tgt := 124) hx hb dX8_owes_111 (by decide) (fun n => absurd n c3) (fun _ => ?_)
    obtain ⟨q2, h4, hf⟩ := s_bind hf
    cases hf
    have k : s_V G (d + 8) M_X8_owes vs0 σ0 Y_X8_owes (125, [.ref v0, .int v1, .int v2, .int v3, .int v5, .int q2.1, .int w0], q2.2) (e_I r) := k
    have le5 : s_le q2.2 (e_I r).2 := k.1
    refine lv_aload_n hx hb dX8_owes_114 rfl (lv_at hl 0 rfl) ?_
    refine lv_iload hx hb dX8_owes_115 (lv_at hl 4 rfl) ?_
    refine lv_iconst (v := 2) hx hb dX8_owes_117 (by decide) ?_
    refine r_callV (Y := M_X8_ofReceipt) (v := some (.int q2.1)) X I w_2307 my_X8_ofReceipt (by omega) (t_X8_ofReceipt (G := G) (d := d + 6) h4) (b_X8_ofReceipt h4) rfl rfl hl.1 rfl (Nat.le_of_ble_eq_true rfl) hn le5 dX8_owes_118 (fun H locs cells slots I hn1 hn2 => ?_)
    have I : s_I G q2.2 s H locs := I
    have hn : cells + σ0.2.1 ≤ q2.2.2.1 ∧ slots + σ0.2.2.1 ≤ q2.2.2.2.1 := ⟨hn1, hn2⟩
    refine lv_goto (tgt := 125) hx hb dX8_owes_121 (by decide) ?_
    exact k.2 p e s m below meth c _ _ _ _ _ X I hn.1 hn.2 (lv_sub hl [0, 1, 2, 3, 4] rfl)
set_option maxRecDepth 100000 in
set_option maxHeartbeats 4000000 in
theorem v_X8_owes_124 {G : sG} {d : Nat} {vs0 : List Value} {σ0 : sS} {v0 : Nat} {v1 : Int32} {v2 : Int32} {v3 : Int32} {v5 : Int32} {w0 : Int32} {σ : sS} {z : sZ Int32} {r : Int32 × sS} (hf : T_X8_owes_124 v0 v1 v2 v3 v5 w0 σ = some z) (k : s_K G (d + 8) M_X8_owes vs0 σ0 Y_X8_owes e_I z r) : s_V G (d + 8) M_X8_owes vs0 σ0 Y_X8_owes (124, [.ref v0, .int v1, .int v2, .int v3, .int v5, .int w0], σ) (e_I r) := by
  have le0 : s_le σ (e_I r).2 := s_lek hem_I (l_X8_owes_124 hf) k
  refine ⟨le0, ?_⟩
  intro p e s m below meth c H locs cells slots ls X I hn1 hn2 hl
  have hn : cells + σ0.2.1 ≤ σ.2.1 ∧ slots + σ0.2.2.1 ≤ σ.2.2.1 := ⟨hn1, hn2⟩
  have hl : lv_has ls 6 [(0, .ref v0), (1, .int v1), (2, .int v2), (3, .int v3), (5, .int v5)] := hl
  have hx := X.1
  have hb : c.code = cX8_owes := X.2.1
  have hown : s.vm.findClass RX8 = some m.cls := X.2.2.2.2.2.1
  have hts := X.2.2.2.2.2.2.1
  refine W.eq (g2 := F0 m 124 ls [.int w0]) rfl ?_
  unfold T_X8_owes_124 at hf
  cases hf
  have k : s_V G (d + 8) M_X8_owes vs0 σ0 Y_X8_owes (125, [.ref v0, .int v1, .int v2, .int v3, .int v5, .int 0, .int w0], σ) (e_I r) := k
  refine lv_iconst (v := 0) hx hb dX8_owes_124 (by decide) ?_
  exact k.2 p e s m below meth c _ _ _ _ _ X I hn.1 hn.2 (lv_sub hl [0, 1, 2, 3, 4] rfl)
set_option maxRecDepth 100000 in
set_option maxHeartbeats 4000000 in
theorem v_X8_owes_125 {G : sG} {d : Nat} {vs0 : List Value} {σ0 : sS} {v0 : Nat} {v1 : Int32} {v2 : Int32} {v3 : Int32} {v5 : Int32} {w0 : Int32} {w1 : Int32} {σ : sS} {z : sZ Int32} {r : Int32 × sS} (hf : T_X8_owes_125 v0 v1 v2 v3 v5 w0 w1 σ = some z) (k : s_K G (d + 8) M_X8_owes vs0 σ0 Y_X8_owes e_I z r) : s_V G (d + 8) M_X8_owes vs0 σ0 Y_X8_owes (125, [.ref v0, .int v1, .int v2, .int v3, .int v5, .int w0, .int w1], σ) (e_I r) := by
  have le0 : s_le σ (e_I r).2 := s_lek hem_I (l_X8_owes_125 hf) k
  refine ⟨le0, ?_⟩
  intro p e s m below meth c H locs cells slots ls X I hn1 hn2 hl
  have hn : cells + σ0.2.1 ≤ σ.2.1 ∧ slots + σ0.2.2.1 ≤ σ.2.2.1 := ⟨hn1, hn2⟩
  have hl : lv_has ls 6 [(0, .ref v0), (1, .int v1), (2, .int v2), (3, .int v3), (5, .int v5)] := hl
  have hx := X.1
  have hb : c.code = cX8_owes := X.2.1
  have hown : s.vm.findClass RX8 = some m.cls := X.2.2.2.2.2.1
  have hts := X.2.2.2.2.2.2.1
  refine W.eq (g2 := F0 m 125 ls [.int w0, .int w1]) rfl ?_
  unfold T_X8_owes_125 at hf
  cases hf
  have k : s_V G (d + 8) M_X8_owes vs0 σ0 Y_X8_owes (67, [.ref v0, .int v1, .int v2, .int v3, .int (w1 + w0), .int (v5 + 1)], σ) (e_I r) := k
  refine lv_iadd hx hb dX8_owes_125 ?_
  refine lv_istore (lv' := [(4, .int (w1 + w0)), (0, .ref v0), (1, .int v1), (2, .int v2), (3, .int v3), (5, .int v5)]) hx hb dX8_owes_126 hl (by decide) rfl (fun ls hl => ?_)
  refine lv_iinc (v := (v5 + 1)) (lv' := [(5, .int (v5 + 1)), (4, .int (w1 + w0)), (0, .ref v0), (1, .int v1), (2, .int v2), (3, .int v3)]) hx hb dX8_owes_128 hl (k := 5) rfl rfl (by decide) rfl (fun ls hl => ?_)
  refine lv_goto (tgt := 67) hx hb dX8_owes_131 (by decide) ?_
  exact k.2 p e s m below meth c _ _ _ _ _ X I hn.1 hn.2 (lv_sub hl [2, 3, 4, 5, 1, 0] rfl)
theorem v_X8_owes {G : sG} {d : Nat} {vs0 : List Value} {σ0 : sS} {x : sL} {z : sZ Int32} {r : Int32 × sS} (hs : S_X8_owes x = some z) (k : s_K G (d + 8) M_X8_owes vs0 σ0 Y_X8_owes e_I z r) : s_V G (d + 8) M_X8_owes vs0 σ0 Y_X8_owes x (e_I r) := by
  obtain ⟨pc, vs, σ⟩ := x
  unfold S_X8_owes at hs
  dsimp only at hs
  rcases s_ite hs with ⟨c, hs⟩ | ⟨-, hs⟩
  · subst c
    unfold U_X8_owes_0 at hs
    obtain ⟨a0, g0, hs⟩ := s_bind hs
    obtain ⟨a1, g1, hs⟩ := s_bind hs
    obtain ⟨a2, g2, hs⟩ := s_bind hs
    obtain ⟨a3, g3, hs⟩ := s_bind hs
    obtain ⟨u9, ge, hs⟩ := s_bind hs
    rw [g_r_to g0, g_i_to g1, g_i_to g2, g_i_to g3, g_e_to ge]
    exact v_X8_owes_0 hs k
  rcases s_ite hs with ⟨c, hs⟩ | ⟨-, hs⟩
  · subst c
    unfold U_X8_owes_43 at hs
    obtain ⟨a0, g0, hs⟩ := s_bind hs
    obtain ⟨a1, g1, hs⟩ := s_bind hs
    obtain ⟨a2, g2, hs⟩ := s_bind hs
    obtain ⟨a3, g3, hs⟩ := s_bind hs
    obtain ⟨a4, g4, hs⟩ := s_bind hs
    obtain ⟨u9, ge, hs⟩ := s_bind hs
    rw [g_r_to g0, g_i_to g1, g_i_to g2, g_i_to g3, g_r_to g4, g_e_to ge]
    exact v_X8_owes_43 hs k
  rcases s_ite hs with ⟨c, hs⟩ | ⟨-, hs⟩
  · subst c
    unfold U_X8_owes_47 at hs
    obtain ⟨a0, g0, hs⟩ := s_bind hs
    obtain ⟨a1, g1, hs⟩ := s_bind hs
    obtain ⟨a2, g2, hs⟩ := s_bind hs
    obtain ⟨a3, g3, hs⟩ := s_bind hs
    obtain ⟨a4, g4, hs⟩ := s_bind hs
    obtain ⟨u9, ge, hs⟩ := s_bind hs
    rw [g_r_to g0, g_i_to g1, g_i_to g2, g_i_to g3, g_r_to g4, g_e_to ge]
    exact v_X8_owes_47 hs k
  rcases s_ite hs with ⟨c, hs⟩ | ⟨-, hs⟩
  · subst c
    unfold U_X8_owes_48 at hs
    obtain ⟨a0, g0, hs⟩ := s_bind hs
    obtain ⟨a1, g1, hs⟩ := s_bind hs
    obtain ⟨a2, g2, hs⟩ := s_bind hs
    obtain ⟨a3, g3, hs⟩ := s_bind hs
    obtain ⟨a4, g4, hs⟩ := s_bind hs
    obtain ⟨a5, g5, hs⟩ := s_bind hs
    obtain ⟨u9, ge, hs⟩ := s_bind hs
    rw [g_r_to g0, g_i_to g1, g_i_to g2, g_i_to g3, g_i_to g4, g_r_to g5, g_e_to ge]
    exact v_X8_owes_48 hs k
  rcases s_ite hs with ⟨c, hs⟩ | ⟨-, hs⟩
  · subst c
    unfold U_X8_owes_67 at hs
    obtain ⟨a0, g0, hs⟩ := s_bind hs
    obtain ⟨a1, g1, hs⟩ := s_bind hs
    obtain ⟨a2, g2, hs⟩ := s_bind hs
    obtain ⟨a3, g3, hs⟩ := s_bind hs
    obtain ⟨a4, g4, hs⟩ := s_bind hs
    obtain ⟨a5, g5, hs⟩ := s_bind hs
    obtain ⟨u9, ge, hs⟩ := s_bind hs
    rw [g_r_to g0, g_i_to g1, g_i_to g2, g_i_to g3, g_i_to g4, g_i_to g5, g_e_to ge]
    exact v_X8_owes_67 hs k
  rcases s_ite hs with ⟨c, hs⟩ | ⟨-, hs⟩
  · subst c
    unfold U_X8_owes_104 at hs
    obtain ⟨a0, g0, hs⟩ := s_bind hs
    obtain ⟨a1, g1, hs⟩ := s_bind hs
    obtain ⟨a2, g2, hs⟩ := s_bind hs
    obtain ⟨a3, g3, hs⟩ := s_bind hs
    obtain ⟨a4, g4, hs⟩ := s_bind hs
    obtain ⟨a5, g5, hs⟩ := s_bind hs
    obtain ⟨u9, ge, hs⟩ := s_bind hs
    rw [g_r_to g0, g_i_to g1, g_i_to g2, g_i_to g3, g_i_to g4, g_i_to g5, g_e_to ge]
    exact v_X8_owes_104 hs k
  rcases s_ite hs with ⟨c, hs⟩ | ⟨-, hs⟩
  · subst c
    unfold U_X8_owes_124 at hs
    obtain ⟨a0, g0, hs⟩ := s_bind hs
    obtain ⟨a1, g1, hs⟩ := s_bind hs
    obtain ⟨a2, g2, hs⟩ := s_bind hs
    obtain ⟨a3, g3, hs⟩ := s_bind hs
    obtain ⟨a4, g4, hs⟩ := s_bind hs
    obtain ⟨a5, g5, hs⟩ := s_bind hs
    obtain ⟨u9, ge, hs⟩ := s_bind hs
    rw [g_r_to g0, g_i_to g1, g_i_to g2, g_i_to g3, g_i_to g4, g_i_to g5, g_e_to ge]
    exact v_X8_owes_124 hs k
  rcases s_ite hs with ⟨c, hs⟩ | ⟨-, hs⟩
  · subst c
    unfold U_X8_owes_125 at hs
    obtain ⟨a0, g0, hs⟩ := s_bind hs
    obtain ⟨a1, g1, hs⟩ := s_bind hs
    obtain ⟨a2, g2, hs⟩ := s_bind hs
    obtain ⟨a3, g3, hs⟩ := s_bind hs
    obtain ⟨a4, g4, hs⟩ := s_bind hs
    obtain ⟨a5, g5, hs⟩ := s_bind hs
    obtain ⟨a6, g6, hs⟩ := s_bind hs
    obtain ⟨u9, ge, hs⟩ := s_bind hs
    rw [g_r_to g0, g_i_to g1, g_i_to g2, g_i_to g3, g_i_to g4, g_i_to g5, g_i_to g6, g_e_to ge]
    exact v_X8_owes_125 hs k
  cases hs
theorem t_X8_owes {G : sG} {d : Nat} {v0 : Nat} {v1 : Int32} {v2 : Int32} {v3 : Int32} {σ : sS} {q : Int32 × sS} (h : F_X8_owes v0 v1 v2 v3 σ = some q) : s_T G (d + 8) M_X8_owes [.ref v0, .int v1, .int v2, .int v3] σ (e_I q) := by
  unfold F_X8_owes at h
  obtain ⟨-, -, h⟩ := s_bind h
  exact s_ofV rfl (by decide) (Nat.le_of_ble_eq_true rfl) rfl rfl (s_run_ind (V := fun x r => s_V G (d + 8) M_X8_owes [.ref v0, .int v1, .int v2, .int v3] σ Y_X8_owes x (e_I r)) (fun x z r hs hk => v_X8_owes hs (by cases z <;> exact hk)) h)
/-! X7_refunds -/
noncomputable def T_X7_refunds_0 (v0 : Nat) (v1 : Int32) (σ : sS) : Option (sZ (Int32 ⊕ String)) :=
  (F_X7_needLaw v0 v1 σ).bind fun q1 => s_sum q1.1 (fun x2 => (s_fr q1.2 v0 7 5).bind fun x4 =>
  (F_X0_audit x4 q1.2).bind fun q5 =>
  (s_fr q5.2 v0 7 7).bind fun x6 =>
  (F_X6_refunded x6 v1 q5.2).bind fun q7 =>
  some (.inr (.inl q7.1, q7.2))) (fun E3 => some (.inr (.inr E3, q1.2)))
noncomputable def U_X7_refunds_0 (vs : List Value) (σ : sS) : Option (sZ (Int32 ⊕ String)) := (g_r vs).bind fun a0 => (g_i a0.2).bind fun a1 => (g_e a1.2).bind fun _ => T_X7_refunds_0 a0.1 a1.1 σ
noncomputable def S_X7_refunds (x : sL) : Option (sZ (Int32 ⊕ String)) := if x.1 = 0 then U_X7_refunds_0 x.2.1 x.2.2 else none
def Y_X7_refunds (pc : Nat) : List Nat := if pc = 0 then [0, 1] else []
noncomputable def F_X7_refunds (v0 : Nat) (v1 : Int32) (σ : sS) : Option ((Int32 ⊕ String) × sS) := (s_is σ v0 7).bind fun _ => s_run S_X7_refunds (0, [.ref v0, .int v1], σ)
theorem l_X7_refunds_0 {v0 : Nat} {v1 : Int32} {σ : sS} {z : sZ (Int32 ⊕ String)} (hf : T_X7_refunds_0 v0 v1 σ = some z) : s_lz σ z := by
  unfold T_X7_refunds_0 at hf
  obtain ⟨q1, hh, hf⟩ := s_bind hf
  refine s_lz.tr (l_X7_needLaw hh) ?_
  rcases s_sum_some hf with ⟨x2, -, hf⟩ | ⟨E3, -, hf⟩
  · obtain ⟨x4, -, hf⟩ := s_bind hf
    obtain ⟨q5, hh, hf⟩ := s_bind hf
    refine s_lz.tr (l_X0_audit hh) ?_
    obtain ⟨x6, -, hf⟩ := s_bind hf
    obtain ⟨q7, hh, hf⟩ := s_bind hf
    refine s_lz.tr (l_X6_refunded hh) ?_
    cases hf
    exact s_le.rf
  · cases hf
    exact s_le.rf
theorem l_X7_refunds_s {x : sL} {z : sZ (Int32 ⊕ String)} (hs : S_X7_refunds x = some z) : s_lz x.2.2 z := by
  obtain ⟨pc, vs, σ⟩ := x
  unfold S_X7_refunds at hs
  dsimp only at hs ⊢
  rcases s_ite hs with ⟨c, hs⟩ | ⟨-, hs⟩
  · subst c
    unfold U_X7_refunds_0 at hs
    obtain ⟨a0, g0, hs⟩ := s_bind hs
    obtain ⟨a1, g1, hs⟩ := s_bind hs
    obtain ⟨u9, ge, hs⟩ := s_bind hs
    exact l_X7_refunds_0 hs
  cases hs
theorem l_X7_refunds {v0 : Nat} {v1 : Int32} {σ : sS} {q : (Int32 ⊕ String) × sS} (h : F_X7_refunds v0 v1 σ = some q) : s_le σ q.2 := by
  unfold F_X7_refunds at h
  obtain ⟨-, -, h⟩ := s_bind h
  exact s_run_ind (V := fun x r => s_le x.2.2 r.2) (fun x z r hs hk => by
    have h9 := l_X7_refunds_s hs
    cases z with
    | inl y => exact s_le.tr h9 hk
    | inr q => cases hk; exact h9) h
theorem b_X7_refunds {v0 : Nat} {v1 : Int32} {σ : sS} {q : (Int32 ⊕ String) × sS} (h : F_X7_refunds v0 v1 σ = some q) : ∃ fs, σ.1 v0 = some (.inr (7, fs)) := by
  unfold F_X7_refunds at h
  obtain ⟨u, hu, -⟩ := s_bind h
  exact s_is_to hu
set_option maxRecDepth 100000 in
set_option maxHeartbeats 4000000 in
theorem v_X7_refunds_0 {G : sG} {d : Nat} {vs0 : List Value} {σ0 : sS} {v0 : Nat} {v1 : Int32} {σ : sS} {z : sZ (Int32 ⊕ String)} {r : (Int32 ⊕ String) × sS} (hf : T_X7_refunds_0 v0 v1 σ = some z) (k : s_K G (d + 7) M_X7_refunds vs0 σ0 Y_X7_refunds e_IX z r) : s_V G (d + 7) M_X7_refunds vs0 σ0 Y_X7_refunds (0, [.ref v0, .int v1], σ) (e_IX r) := by
  have le0 : s_le σ (e_IX r).2 := s_lek hem_IX (l_X7_refunds_0 hf) k
  refine ⟨le0, ?_⟩
  intro p e s m below meth c H locs cells slots ls X I hn1 hn2 hl
  have hn : cells + σ0.2.1 ≤ σ.2.1 ∧ slots + σ0.2.2.1 ≤ σ.2.2.1 := ⟨hn1, hn2⟩
  have hl : lv_has ls 2 [(0, .ref v0), (1, .int v1)] := hl
  have hx := X.1
  have hb : c.code = cX7_refunds := X.2.1
  have hown : s.vm.findClass RX7 = some m.cls := X.2.2.2.2.2.1
  have hts := X.2.2.2.2.2.2.1
  refine W.eq (g2 := F0 m 0 ls []) rfl ?_
  unfold T_X7_refunds_0 at hf
  obtain ⟨q1, h1, hf⟩ := s_bind hf
  refine lv_aload_n hx hb dX7_refunds_0 rfl (lv_at hl 0 rfl) ?_
  refine lv_iload_n hx hb dX7_refunds_1 rfl (lv_at hl 1 rfl) ?_
  rcases s_sum_some hf with ⟨x2, hq2, hf⟩ | ⟨E3, hq2, hf⟩
  · have le3 : s_le q1.2 (e_IX r).2 := by
      refine s_lek hem_IX ?_ k
      obtain ⟨x4, -, hf⟩ := s_bind hf
      obtain ⟨q5, hh, hf⟩ := s_bind hf
      refine s_lz.tr (l_X0_audit hh) ?_
      obtain ⟨x6, -, hf⟩ := s_bind hf
      obtain ⟨q7, hh, hf⟩ := s_bind hf
      refine s_lz.tr (l_X6_refunded hh) ?_
      cases hf
      exact s_le.rf
    refine r_callV (Y := M_X7_needLaw) (v := none) X I w_1587 my_X7_needLaw (by omega) (t_X7_needLaw (G := G) (d := d + 5) h1) (b_X7_needLaw h1) (e_VX_l hq2) rfl hl.1 rfl (Nat.le_of_ble_eq_true rfl) hn le3 dX7_refunds_2 (fun H locs cells slots I hn1 hn2 => ?_)
    have I : s_I G q1.2 s H locs := I
    have hn : cells + σ0.2.1 ≤ q1.2.2.1 ∧ slots + σ0.2.2.1 ≤ q1.2.2.2.1 := ⟨hn1, hn2⟩
    obtain ⟨x4, h4, hf⟩ := s_bind hf
    obtain ⟨q5, h5, hf⟩ := s_bind hf
    obtain ⟨x6, h6, hf⟩ := s_bind hf
    obtain ⟨q7, h7, hf⟩ := s_bind hf
    cases hf
    have k : _ = r := k
    subst k
    have le8 : s_le q7.2 q7.2 := s_le.rf
    have le9 := s_le.tr (l_X6_refunded h7) le8
    refine lv_aload_n hx hb dX7_refunds_5 rfl (lv_at hl 0 rfl) ?_
    refine r_gr X I fl_X7_49 h4 dX7_refunds_6 ?_
    refine r_callV (Y := M_X0_audit) (v := none) X I w_509 my_X0_audit (by omega) (t_X0_audit (G := G) (d := d + 0) h5) (b_X0_audit h5) rfl rfl hl.1 rfl (Nat.le_of_ble_eq_true rfl) hn le9 dX7_refunds_9 (fun H locs cells slots I hn1 hn2 => ?_)
    have I : s_I G q5.2 s H locs := I
    have hn : cells + σ0.2.1 ≤ q5.2.2.1 ∧ slots + σ0.2.2.1 ≤ q5.2.2.2.1 := ⟨hn1, hn2⟩
    refine lv_aload_n hx hb dX7_refunds_12 rfl (lv_at hl 0 rfl) ?_
    refine r_gr X I fl_X7_65 h6 dX7_refunds_13 ?_
    refine lv_iload_n hx hb dX7_refunds_16 rfl (lv_at hl 1 rfl) ?_
    refine r_callV (Y := M_X6_refunded) (v := some (.int q7.1)) X I w_1659 my_X6_refunded (by omega) (t_X6_refunded (G := G) (d := d + 0) h7) (b_X6_refunded h7) rfl rfl hl.1 rfl (Nat.le_of_ble_eq_true rfl) hn le8 dX7_refunds_17 (fun H locs cells slots I hn1 hn2 => ?_)
    have I : s_I G q7.2 s H locs := I
    have hn : cells + σ0.2.1 ≤ q7.2.2.1 ∧ slots + σ0.2.2.1 ≤ q7.2.2.2.1 := ⟨hn1, hn2⟩
    exact r_iret X I rfl rfl rfl hn dX7_refunds_20
  · cases hf
    have k : _ = r := k
    subst k
    exact r_callVx (Y := M_X7_needLaw) X I rfl w_1587 my_X7_needLaw (by omega) (t_X7_needLaw (G := G) (d := d + 5) h1) (b_X7_needLaw h1) (e_VX_r hq2) rfl hl.1 rfl (Nat.le_of_ble_eq_true rfl) hn rfl dX7_refunds_2
theorem v_X7_refunds {G : sG} {d : Nat} {vs0 : List Value} {σ0 : sS} {x : sL} {z : sZ (Int32 ⊕ String)} {r : (Int32 ⊕ String) × sS} (hs : S_X7_refunds x = some z) (k : s_K G (d + 7) M_X7_refunds vs0 σ0 Y_X7_refunds e_IX z r) : s_V G (d + 7) M_X7_refunds vs0 σ0 Y_X7_refunds x (e_IX r) := by
  obtain ⟨pc, vs, σ⟩ := x
  unfold S_X7_refunds at hs
  dsimp only at hs
  rcases s_ite hs with ⟨c, hs⟩ | ⟨-, hs⟩
  · subst c
    unfold U_X7_refunds_0 at hs
    obtain ⟨a0, g0, hs⟩ := s_bind hs
    obtain ⟨a1, g1, hs⟩ := s_bind hs
    obtain ⟨u9, ge, hs⟩ := s_bind hs
    rw [g_r_to g0, g_i_to g1, g_e_to ge]
    exact v_X7_refunds_0 hs k
  cases hs
theorem t_X7_refunds {G : sG} {d : Nat} {v0 : Nat} {v1 : Int32} {σ : sS} {q : (Int32 ⊕ String) × sS} (h : F_X7_refunds v0 v1 σ = some q) : s_T G (d + 7) M_X7_refunds [.ref v0, .int v1] σ (e_IX q) := by
  unfold F_X7_refunds at h
  obtain ⟨-, -, h⟩ := s_bind h
  exact s_ofV rfl (by decide) (Nat.le_of_ble_eq_true rfl) rfl rfl (s_run_ind (V := fun x r => s_V G (d + 7) M_X7_refunds [.ref v0, .int v1] σ Y_X7_refunds x (e_IX r)) (fun x z r hs hk => v_X7_refunds hs (by cases z <;> exact hk)) h)
