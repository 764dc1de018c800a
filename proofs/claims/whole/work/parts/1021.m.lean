/-! L_signs -/
noncomputable def T_L_signs_0 (v0 : Nat) (v1 : Int32) (v2 : Nat) (σ : sS) : Option (sZ Int32) :=
  (F_X7_signs v0 v1 σ).bind fun q1 => s_sum q1.1 (fun x2 => (s_sl q1.2 v2 0 ((x2 : Int32).toInt64)).bind fun σ4 =>
  some (.inr (0, σ4))) (fun E3 => if E3 = "java/lang/IndexOutOfBoundsException" then (some (.inr (1, q1.2))) else none)
noncomputable def U_L_signs_0 (vs : List Value) (σ : sS) : Option (sZ Int32) := (g_r vs).bind fun a0 => (g_i a0.2).bind fun a1 => (g_r a1.2).bind fun a2 => (g_e a2.2).bind fun _ => T_L_signs_0 a0.1 a1.1 a2.1 σ
noncomputable def S_L_signs (x : sL) : Option (sZ Int32) := if x.1 = 0 then U_L_signs_0 x.2.1 x.2.2 else none
def Y_L_signs (pc : Nat) : List Nat := if pc = 0 then [0, 1, 2] else []
noncomputable def F_L_signs (v0 : Nat) (v1 : Int32) (v2 : Nat) (σ : sS) : Option (Int32 × sS) := s_run S_L_signs (0, [.ref v0, .int v1, .ref v2], σ)
theorem l_L_signs_0 {v0 : Nat} {v1 : Int32} {v2 : Nat} {σ : sS} {z : sZ Int32} (hf : T_L_signs_0 v0 v1 v2 σ = some z) : s_lz σ z := by
  unfold T_L_signs_0 at hf
  obtain ⟨q1, hh, hf⟩ := s_bind hf
  refine s_lz.tr (l_X7_signs hh) ?_
  rcases s_sum_some hf with ⟨x2, -, hf⟩ | ⟨E3, -, hf⟩
  · obtain ⟨σ4, hh, hf⟩ := s_bind hf
    refine s_lz.tr (s_le2 (s_sl_2 hh)) ?_
    cases hf
    exact s_le.rf
  · rcases s_ite hf with ⟨-, hf⟩ | ⟨-, hf⟩
    · cases hf
      exact s_le.rf
    cases hf
theorem l_L_signs_s {x : sL} {z : sZ Int32} (hs : S_L_signs x = some z) : s_lz x.2.2 z := by
  obtain ⟨pc, vs, σ⟩ := x
  unfold S_L_signs at hs
  dsimp only at hs ⊢
  rcases s_ite hs with ⟨c, hs⟩ | ⟨-, hs⟩
  · subst c
    unfold U_L_signs_0 at hs
    obtain ⟨a0, g0, hs⟩ := s_bind hs
    obtain ⟨a1, g1, hs⟩ := s_bind hs
    obtain ⟨a2, g2, hs⟩ := s_bind hs
    obtain ⟨u9, ge, hs⟩ := s_bind hs
    exact l_L_signs_0 hs
  cases hs
theorem l_L_signs {v0 : Nat} {v1 : Int32} {v2 : Nat} {σ : sS} {q : Int32 × sS} (h : F_L_signs v0 v1 v2 σ = some q) : s_le σ q.2 := by
  unfold F_L_signs at h
  exact s_run_ind (V := fun x r => s_le x.2.2 r.2) (fun x z r hs hk => by
    have h9 := l_L_signs_s hs
    cases z with
    | inl y => exact s_le.tr h9 hk
    | inr q => cases hk; exact h9) h
set_option maxRecDepth 100000 in
set_option maxHeartbeats 4000000 in
theorem v_L_signs_0 {G : sG} {d : Nat} {vs0 : List Value} {σ0 : sS} {v0 : Nat} {v1 : Int32} {v2 : Nat} {σ : sS} {z : sZ Int32} {r : Int32 × sS} (hf : T_L_signs_0 v0 v1 v2 σ = some z) (k : s_K G (d + 3) M_L_signs vs0 σ0 Y_L_signs e_I z r) : s_V G (d + 3) M_L_signs vs0 σ0 Y_L_signs (0, [.ref v0, .int v1, .ref v2], σ) (e_I r) := by
  have le0 : s_le σ (e_I r).2 := s_lek hem_I (l_L_signs_0 hf) k
  refine ⟨le0, ?_⟩
  intro p e s m below meth c H locs cells slots ls X I hn1 hn2 hl
  have hn : cells + σ0.2.1 ≤ σ.2.1 ∧ slots + σ0.2.2.1 ≤ σ.2.2.1 := ⟨hn1, hn2⟩
  have hl : lv_has ls 4 [(0, .ref v0), (1, .int v1), (2, .ref v2)] := hl
  have hx := X.1
  have hb : c.code = cL_signs := X.2.1
  have hown : s.vm.findClass RL = some m.cls := X.2.2.2.2.2.1
  have hts := X.2.2.2.2.2.2.1
  refine W.eq (g2 := F0 m 0 ls []) rfl ?_
  unfold T_L_signs_0 at hf
  obtain ⟨q1, h1, hf⟩ := s_bind hf
  refine lv_aload_n hx hb dL_signs_0 rfl (lv_at hl 2 rfl) ?_
  refine lv_iconst (v := 0) hx hb dL_signs_1 (by decide) ?_
  refine lv_aload_n hx hb dL_signs_2 rfl (lv_at hl 0 rfl) ?_
  refine lv_iload_n hx hb dL_signs_3 rfl (lv_at hl 1 rfl) ?_
  rcases s_sum_some hf with ⟨x2, hq2, hf⟩ | ⟨E3, hq2, hf⟩
  · have le3 : s_le q1.2 (e_I r).2 := by
      refine s_lek hem_I ?_ k
      obtain ⟨σ4, hh, hf⟩ := s_bind hf
      refine s_lz.tr (s_le2 (s_sl_2 hh)) ?_
      cases hf
      exact s_le.rf
    refine r_callV (Y := M_X7_signs) (v := some (.int x2)) X I w_1012 my_X7_signs (by omega) (t_X7_signs (G := G) (d := d + 0) h1) (b_X7_signs h1) (e_IX_l hq2) rfl hl.1 rfl (Nat.le_of_ble_eq_true rfl) hn le3 dL_signs_4 (fun H locs cells slots I hn1 hn2 => ?_)
    have I : s_I G q1.2 s H locs := I
    have hn : cells + σ0.2.1 ≤ q1.2.2.1 ∧ slots + σ0.2.2.1 ≤ q1.2.2.2.1 := ⟨hn1, hn2⟩
    obtain ⟨σ4, h4, hf⟩ := s_bind hf
    cases hf
    have k : _ = r := k
    subst k
    have le5 : s_le σ4 σ4 := s_le.rf
    refine lv_i2l hx hb dL_signs_7 rfl ?_
    refine r_last X I h4 dL_signs_8 (fun H locs I => ?_)
    have hn := s_k2 (s_sl_2 h4) hn
    refine lv_goto (tgt := 15) hx hb dL_signs_9 (by decide) ?_
    refine lv_iconst (v := 0) hx hb dL_signs_15 (by decide) ?_
    exact r_iret X I rfl rfl rfl hn dL_signs_16
  · rcases s_ite hf with ⟨c6, hf⟩ | ⟨c6, hf⟩
    · subst c6
      have le7 : s_le q1.2 (e_I r).2 := by
        refine s_lek hem_I ?_ k
        cases hf
        exact s_le.rf
      refine r_callVh (x := (0, 9, 12, 27)) (Y := M_X7_signs) (E := "java/lang/IndexOutOfBoundsException") (name := "java/lang/IndexOutOfBoundsException") X I [] [] rfl (fun z hz => by cases hz) rfl (by decide) w_1011 (by decide +kernel) w_1012 my_X7_signs (by omega) (t_X7_signs (G := G) (d := d + 0) h1) (b_X7_signs h1) (e_IX_r hq2) rfl hl.1 rfl (Nat.le_of_ble_eq_true rfl) hn le7 dL_signs_4 (fun a5 H locs cells slots I hn1 hn2 => ?_)
      have I : s_I G q1.2 s H locs := I
      have hn : cells + σ0.2.1 ≤ q1.2.2.1 ∧ slots + σ0.2.2.1 ≤ q1.2.2.2.1 := ⟨hn1, hn2⟩
      cases hf
      have k : _ = r := k
      subst k
      refine lv_astore_n (lv' := [(3, .ref a5), (0, .ref v0), (1, .int v1), (2, .ref v2)]) hx hb dL_signs_12 rfl hl (by decide) rfl (fun ls hl => ?_)
      refine lv_iconst (v := 1) hx hb dL_signs_13 (by decide) ?_
      exact r_iret X I rfl rfl rfl hn dL_signs_14
    cases hf
theorem v_L_signs {G : sG} {d : Nat} {vs0 : List Value} {σ0 : sS} {x : sL} {z : sZ Int32} {r : Int32 × sS} (hs : S_L_signs x = some z) (k : s_K G (d + 3) M_L_signs vs0 σ0 Y_L_signs e_I z r) : s_V G (d + 3) M_L_signs vs0 σ0 Y_L_signs x (e_I r) := by
  obtain ⟨pc, vs, σ⟩ := x
  unfold S_L_signs at hs
  dsimp only at hs
  rcases s_ite hs with ⟨c, hs⟩ | ⟨-, hs⟩
  · subst c
    unfold U_L_signs_0 at hs
    obtain ⟨a0, g0, hs⟩ := s_bind hs
    obtain ⟨a1, g1, hs⟩ := s_bind hs
    obtain ⟨a2, g2, hs⟩ := s_bind hs
    obtain ⟨u9, ge, hs⟩ := s_bind hs
    rw [g_r_to g0, g_i_to g1, g_r_to g2, g_e_to ge]
    exact v_L_signs_0 hs k
  cases hs
theorem t_L_signs {G : sG} {d : Nat} {v0 : Nat} {v1 : Int32} {v2 : Nat} {σ : sS} {q : Int32 × sS} (h : F_L_signs v0 v1 v2 σ = some q) : s_T G (d + 3) M_L_signs [.ref v0, .int v1, .ref v2] σ (e_I q) := by
  unfold F_L_signs at h
  exact s_ofVH rfl (by decide) (Nat.le_of_ble_eq_true rfl) rfl rfl (s_run_ind (V := fun x r => s_V G (d + 3) M_L_signs [.ref v0, .int v1, .ref v2] σ Y_L_signs x (e_I r)) (fun x z r hs hk => v_L_signs hs (by cases z <;> exact hk)) h)
/-! X8_noFormula -/
noncomputable def T_X8_noFormula_0 (v0 : Nat) (v1 : Int32) (σ : sS) : Option (sZ Int32) :=
  (F_X8_formulas v0 σ).bind fun q1 =>
  (F_X8_in v1 0 (q1.1 - 1) q1.2).bind fun q2 =>
  if q2.1 = 0 then (some (.inr (1, q2.2)))
  else (some (.inr (0, q2.2)))
noncomputable def U_X8_noFormula_0 (vs : List Value) (σ : sS) : Option (sZ Int32) := (g_r vs).bind fun a0 => (g_i a0.2).bind fun a1 => (g_e a1.2).bind fun _ => T_X8_noFormula_0 a0.1 a1.1 σ
noncomputable def S_X8_noFormula (x : sL) : Option (sZ Int32) := if x.1 = 0 then U_X8_noFormula_0 x.2.1 x.2.2 else none
def Y_X8_noFormula (pc : Nat) : List Nat := if pc = 0 then [0, 1] else []
noncomputable def F_X8_noFormula (v0 : Nat) (v1 : Int32) (σ : sS) : Option (Int32 × sS) := (s_is σ v0 8).bind fun _ => s_run S_X8_noFormula (0, [.ref v0, .int v1], σ)
theorem l_X8_noFormula_0 {v0 : Nat} {v1 : Int32} {σ : sS} {z : sZ Int32} (hf : T_X8_noFormula_0 v0 v1 σ = some z) : s_lz σ z := by
  unfold T_X8_noFormula_0 at hf
  obtain ⟨q1, hh, hf⟩ := s_bind hf
  refine s_lz.tr (l_X8_formulas hh) ?_
  obtain ⟨q2, hh, hf⟩ := s_bind hf
  refine s_lz.tr (l_X8_in hh) ?_
  rcases s_ite hf with ⟨-, hf⟩ | ⟨-, hf⟩
  · cases hf
    exact s_le.rf
  · cases hf
    exact s_le.rf
theorem l_X8_noFormula_s {x : sL} {z : sZ Int32} (hs : S_X8_noFormula x = some z) : s_lz x.2.2 z := by
  obtain ⟨pc, vs, σ⟩ := x
  unfold S_X8_noFormula at hs
  dsimp only at hs ⊢
  rcases s_ite hs with ⟨c, hs⟩ | ⟨-, hs⟩
  · subst c
    unfold U_X8_noFormula_0 at hs
    obtain ⟨a0, g0, hs⟩ := s_bind hs
    obtain ⟨a1, g1, hs⟩ := s_bind hs
    obtain ⟨u9, ge, hs⟩ := s_bind hs
    exact l_X8_noFormula_0 hs
  cases hs
theorem l_X8_noFormula {v0 : Nat} {v1 : Int32} {σ : sS} {q : Int32 × sS} (h : F_X8_noFormula v0 v1 σ = some q) : s_le σ q.2 := by
  unfold F_X8_noFormula at h
  obtain ⟨-, -, h⟩ := s_bind h
  exact s_run_ind (V := fun x r => s_le x.2.2 r.2) (fun x z r hs hk => by
    have h9 := l_X8_noFormula_s hs
    cases z with
    | inl y => exact s_le.tr h9 hk
    | inr q => cases hk; exact h9) h
theorem b_X8_noFormula {v0 : Nat} {v1 : Int32} {σ : sS} {q : Int32 × sS} (h : F_X8_noFormula v0 v1 σ = some q) : ∃ fs, σ.1 v0 = some (.inr (8, fs)) := by
  unfold F_X8_noFormula at h
  obtain ⟨u, hu, -⟩ := s_bind h
  exact s_is_to hu
set_option maxRecDepth 100000 in
set_option maxHeartbeats 4000000 in
theorem v_X8_noFormula_0 {G : sG} {d : Nat} {vs0 : List Value} {σ0 : sS} {v0 : Nat} {v1 : Int32} {σ : sS} {z : sZ Int32} {r : Int32 × sS} (hf : T_X8_noFormula_0 v0 v1 σ = some z) (k : s_K G (d + 2) M_X8_noFormula vs0 σ0 Y_X8_noFormula e_I z r) : s_V G (d + 2) M_X8_noFormula vs0 σ0 Y_X8_noFormula (0, [.ref v0, .int v1], σ) (e_I r) := by
  have le0 : s_le σ (e_I r).2 := s_lek hem_I (l_X8_noFormula_0 hf) k
  refine ⟨le0, ?_⟩
  intro p e s m below meth c H locs cells slots ls X I hn1 hn2 hl
  have hn : cells + σ0.2.1 ≤ σ.2.1 ∧ slots + σ0.2.2.1 ≤ σ.2.2.1 := ⟨hn1, hn2⟩
  have hl : lv_has ls 2 [(0, .ref v0), (1, .int v1)] := hl
  have hx := X.1
  have hb : c.code = cX8_noFormula := X.2.1
  have hown : s.vm.findClass RX8 = some m.cls := X.2.2.2.2.2.1
  have hts := X.2.2.2.2.2.2.1
  refine W.eq (g2 := F0 m 0 ls []) rfl ?_
  unfold T_X8_noFormula_0 at hf
  obtain ⟨q1, h1, hf⟩ := s_bind hf
  obtain ⟨q2, h2, hf⟩ := s_bind hf
  have le3 : s_le q2.2 (e_I r).2 := by
    refine s_lek hem_I ?_ k
    rcases s_ite hf with ⟨-, hf⟩ | ⟨-, hf⟩
    · cases hf
      exact s_le.rf
    · cases hf
      exact s_le.rf
  have le4 := s_le.tr (l_X8_in h2) le3
  refine lv_iload_n hx hb dX8_noFormula_0 rfl (lv_at hl 1 rfl) ?_
  refine lv_iconst (v := 0) hx hb dX8_noFormula_1 (by decide) ?_
  refine lv_aload_n hx hb dX8_noFormula_2 rfl (lv_at hl 0 rfl) ?_
  refine r_callV (Y := M_X8_formulas) (v := some (.int q1.1)) X I w_1813 my_X8_formulas (by omega) (t_X8_formulas (G := G) (d := d + 0) h1) (b_X8_formulas h1) rfl rfl hl.1 rfl (Nat.le_of_ble_eq_true rfl) hn le4 dX8_noFormula_3 (fun H locs cells slots I hn1 hn2 => ?_)
  have I : s_I G q1.2 s H locs := I
  have hn : cells + σ0.2.1 ≤ q1.2.2.1 ∧ slots + σ0.2.2.1 ≤ q1.2.2.2.1 := ⟨hn1, hn2⟩
  refine lv_iconst (v := 1) hx hb dX8_noFormula_6 (by decide) ?_
  refine lv_isub hx hb dX8_noFormula_7 ?_
  refine r_callS (Y := M_X8_in) (v := some (.int q2.1)) X I w_1909 my_X8_in (by omega) (t_X8_in (G := G) (d := d + 0) h2) rfl rfl hl.1 rfl (Nat.le_of_ble_eq_true rfl) hn le3 dX8_noFormula_8 (fun H locs cells slots I hn1 hn2 => ?_)
  have I : s_I G q2.2 s H locs := I
  have hn : cells + σ0.2.1 ≤ q2.2.2.1 ∧ slots + σ0.2.2.1 ≤ q2.2.2.2.1 := ⟨hn1, hn2⟩
  rcases s_ite hf with ⟨c5, hf⟩ | ⟨c5, hf⟩
  · refine lv_if_ne (tgt := 18) hx hb dX8_noFormula_11 (by decide) (fun n => absurd c5 n) (fun _ => ?_)
    cases hf
    have k : _ = r := k
    subst k
    refine lv_iconst (v := 1) hx hb dX8_noFormula_14 (by decide) ?_
    refine lv_goto (tgt := 19) hx hb dX8_noFormula_15 (by decide) ?_
    exact r_iret X I rfl rfl rfl hn dX8_noFormula_19
  · refine lv_if_ne (tgt := 18) hx hb dX8_noFormula_11 (by decide) (fun _ => ?_) (fun n => absurd n c5)
    cases hf
    have k : _ = r := k
    subst k
    refine lv_iconst (v := 0) hx hb dX8_noFormula_18 (by decide) ?_
    exact r_iret X I rfl rfl rfl hn dX8_noFormula_19
theorem v_X8_noFormula {G : sG} {d : Nat} {vs0 : List Value} {σ0 : sS} {x : sL} {z : sZ Int32} {r : Int32 × sS} (hs : S_X8_noFormula x = some z) (k : s_K G (d + 2) M_X8_noFormula vs0 σ0 Y_X8_noFormula e_I z r) : s_V G (d + 2) M_X8_noFormula vs0 σ0 Y_X8_noFormula x (e_I r) := by
  obtain ⟨pc, vs, σ⟩ := x
  unfold S_X8_noFormula at hs
  dsimp only at hs
  rcases s_ite hs with ⟨c, hs⟩ | ⟨-, hs⟩
  · subst c
    unfold U_X8_noFormula_0 at hs
    obtain ⟨a0, g0, hs⟩ := s_bind hs
    obtain ⟨a1, g1, hs⟩ := s_bind hs
    obtain ⟨u9, ge, hs⟩ := s_bind hs
    rw [g_r_to g0, g_i_to g1, g_e_to ge]
    exact v_X8_noFormula_0 hs k
  cases hs
theorem t_X8_noFormula {G : sG} {d : Nat} {v0 : Nat} {v1 : Int32} {σ : sS} {q : Int32 × sS} (h : F_X8_noFormula v0 v1 σ = some q) : s_T G (d + 2) M_X8_noFormula [.ref v0, .int v1] σ (e_I q) := by
  unfold F_X8_noFormula at h
  obtain ⟨-, -, h⟩ := s_bind h
  exact s_ofV rfl (by decide) (Nat.le_of_ble_eq_true rfl) rfl rfl (s_run_ind (V := fun x r => s_V G (d + 2) M_X8_noFormula [.ref v0, .int v1] σ Y_X8_noFormula x (e_I r)) (fun x z r hs hk => v_X8_noFormula hs (by cases z <;> exact hk)) h)
/-! X8_signs -/
noncomputable def T_X8_signs_0 (v0 : Nat) (v1 : Int32) (σ : sS) : Option (sZ Int32) :=
  (s_pf σ v0 8 0 (.int 0)).bind fun σ1 =>
  (F_X8_noFormula v0 v1 σ1).bind fun q2 =>
  (F_X8_throwsIf v0 q2.1 1 q2.2).bind fun q3 =>
  if q3.1 = 0 then ((s_fr q3.2 v0 8 4).bind fun x4 =>
  (s_ai q3.2 x4 v1).bind fun x5 =>
  some (.inr (x5, q3.2)))
  else (some (.inr (0, q3.2)))
noncomputable def U_X8_signs_0 (vs : List Value) (σ : sS) : Option (sZ Int32) := (g_r vs).bind fun a0 => (g_i a0.2).bind fun a1 => (g_e a1.2).bind fun _ => T_X8_signs_0 a0.1 a1.1 σ
noncomputable def S_X8_signs (x : sL) : Option (sZ Int32) := if x.1 = 0 then U_X8_signs_0 x.2.1 x.2.2 else none
def Y_X8_signs (pc : Nat) : List Nat := if pc = 0 then [0, 1] else []
noncomputable def F_X8_signs (v0 : Nat) (v1 : Int32) (σ : sS) : Option (Int32 × sS) := (s_is σ v0 8).bind fun _ => s_run S_X8_signs (0, [.ref v0, .int v1], σ)
theorem l_X8_signs_0 {v0 : Nat} {v1 : Int32} {σ : sS} {z : sZ Int32} (hf : T_X8_signs_0 v0 v1 σ = some z) : s_lz σ z := by
  unfold T_X8_signs_0 at hf
  obtain ⟨σ1, hh, hf⟩ := s_bind hf
  refine s_lz.tr (s_le2 (s_pf_2 hh)) ?_
  obtain ⟨q2, hh, hf⟩ := s_bind hf
  refine s_lz.tr (l_X8_noFormula hh) ?_
  obtain ⟨q3, hh, hf⟩ := s_bind hf
  refine s_lz.tr (l_X8_throwsIf hh) ?_
  rcases s_ite hf with ⟨-, hf⟩ | ⟨-, hf⟩
  · obtain ⟨x4, -, hf⟩ := s_bind hf
    obtain ⟨x5, -, hf⟩ := s_bind hf
    cases hf
    exact s_le.rf
  · cases hf
    exact s_le.rf
theorem l_X8_signs_s {x : sL} {z : sZ Int32} (hs : S_X8_signs x = some z) : s_lz x.2.2 z := by
  obtain ⟨pc, vs, σ⟩ := x
  unfold S_X8_signs at hs
  dsimp only at hs ⊢
  rcases s_ite hs with ⟨c, hs⟩ | ⟨-, hs⟩
  · subst c
    unfold U_X8_signs_0 at hs
    obtain ⟨a0, g0, hs⟩ := s_bind hs
    obtain ⟨a1, g1, hs⟩ := s_bind hs
    obtain ⟨u9, ge, hs⟩ := s_bind hs
    exact l_X8_signs_0 hs
  cases hs
theorem l_X8_signs {v0 : Nat} {v1 : Int32} {σ : sS} {q : Int32 × sS} (h : F_X8_signs v0 v1 σ = some q) : s_le σ q.2 := by
  unfold F_X8_signs at h
  obtain ⟨-, -, h⟩ := s_bind h
  exact s_run_ind (V := fun x r => s_le x.2.2 r.2) (fun x z r hs hk => by
    have h9 := l_X8_signs_s hs
    cases z with
    | inl y => exact s_le.tr h9 hk
    | inr q => cases hk; exact h9) h
theorem b_X8_signs {v0 : Nat} {v1 : Int32} {σ : sS} {q : Int32 × sS} (h : F_X8_signs v0 v1 σ = some q) : ∃ fs, σ.1 v0 = some (.inr (8, fs)) := by
  unfold F_X8_signs at h
  obtain ⟨u, hu, -⟩ := s_bind h
  exact s_is_to hu
set_option maxRecDepth 100000 in
set_option maxHeartbeats 4000000 in
theorem v_X8_signs_0 {G : sG} {d : Nat} {vs0 : List Value} {σ0 : sS} {v0 : Nat} {v1 : Int32} {σ : sS} {z : sZ Int32} {r : Int32 × sS} (hf : T_X8_signs_0 v0 v1 σ = some z) (k : s_K G (d + 3) M_X8_signs vs0 σ0 Y_X8_signs e_I z r) : s_V G (d + 3) M_X8_signs vs0 σ0 Y_X8_signs (0, [.ref v0, .int v1], σ) (e_I r) := by
  have le0 : s_le σ (e_I r).2 := s_lek hem_I (l_X8_signs_0 hf) k
  refine ⟨le0, ?_⟩
  intro p e s m below meth c H locs cells slots ls X I hn1 hn2 hl
  have hn : cells + σ0.2.1 ≤ σ.2.1 ∧ slots + σ0.2.2.1 ≤ σ.2.2.1 := ⟨hn1, hn2⟩
  have hl : lv_has ls 2 [(0, .ref v0), (1, .int v1)] := hl
  have hx := X.1
  have hb : c.code = cX8_signs := X.2.1
  have hown : s.vm.findClass RX8 = some m.cls := X.2.2.2.2.2.1
  have hts := X.2.2.2.2.2.2.1
  refine W.eq (g2 := F0 m 0 ls []) rfl ?_
  unfold T_X8_signs_0 at hf
  obtain ⟨σ1, h1, hf⟩ := s_bind hf
  obtain ⟨q2, h2, hf⟩ := s_bind hf
  obtain ⟨q3, h3, hf⟩ := s_bind hf
  have le4 : s_le q3.2 (e_I r).2 := by
    refine s_lek hem_I ?_ k
    rcases s_ite hf with ⟨-, hf⟩ | ⟨-, hf⟩
    · obtain ⟨x4, -, hf⟩ := s_bind hf
      obtain ⟨x5, -, hf⟩ := s_bind hf
      cases hf
      exact s_le.rf
    · cases hf
      exact s_le.rf
  have le5 := s_le.tr (l_X8_throwsIf h3) le4
  have le6 := s_le.tr (l_X8_noFormula h2) le5
  refine lv_aload_n hx hb dX8_signs_0 rfl (lv_at hl 0 rfl) ?_
  refine lv_iconst (v := 0) hx hb dX8_signs_1 (by decide) ?_
  refine r_put X I fp_X8_3 (fun h => by cases h) h1 rfl rfl dX8_signs_2 (fun H locs I => ?_)
  have hn := s_k2 (s_pf_2 h1) hn
  refine lv_aload_n hx hb dX8_signs_5 rfl (lv_at hl 0 rfl) ?_
  refine lv_aload_n hx hb dX8_signs_6 rfl (lv_at hl 0 rfl) ?_
  refine lv_iload_n hx hb dX8_signs_7 rfl (lv_at hl 1 rfl) ?_
  refine r_callV (Y := M_X8_noFormula) (v := some (.int q2.1)) X I w_1916 my_X8_noFormula (by omega) (t_X8_noFormula (G := G) (d := d + 0) h2) (b_X8_noFormula h2) rfl rfl hl.1 rfl (Nat.le_of_ble_eq_true rfl) hn le5 dX8_signs_8 (fun H locs cells slots I hn1 hn2 => ?_)
  have I : s_I G q2.2 s H locs := I
  have hn : cells + σ0.2.1 ≤ q2.2.2.1 ∧ slots + σ0.2.2.1 ≤ q2.2.2.2.1 := ⟨hn1, hn2⟩
  refine lv_iconst (v := 1) hx hb dX8_signs_11 (by decide) ?_
  refine r_callV (Y := M_X8_throwsIf) (v := some (.int q3.1)) X I w_1897 my_X8_throwsIf (by omega) (t_X8_throwsIf (G := G) (d := d + 1) h3) (b_X8_throwsIf h3) rfl rfl hl.1 rfl (Nat.le_of_ble_eq_true rfl) hn le4 dX8_signs_12 (fun H locs cells slots I hn1 hn2 => ?_)
  have I : s_I G q3.2 s H locs := I
  have hn : cells + σ0.2.1 ≤ q3.2.2.1 ∧ slots + σ0.2.2.1 ≤ q3.2.2.2.1 := ⟨hn1, hn2⟩
  rcases s_ite hf with ⟨c7, hf⟩ | ⟨c7, hf⟩
  · refine lv_if_eq (tgt := 22) hx hb dX8_signs_15 (by decide) (fun _ => ?_) (fun n => absurd c7 n)
    obtain ⟨x4, h8, hf⟩ := s_bind hf
    obtain ⟨x5, h9, hf⟩ := s_bind hf
    cases hf
    have k : _ = r := k
    subst k
    refine lv_aload_n hx hb dX8_signs_22 rfl (lv_at hl 0 rfl) ?_
    refine r_gr X I fl_X8_20 h8 dX8_signs_23 ?_
    refine lv_iload_n hx hb dX8_signs_26 rfl (lv_at hl 1 rfl) ?_
    refine r_iald X I h9 dX8_signs_27 ?_
    exact r_iret X I rfl rfl rfl hn dX8_signs_28
  · refine lv_if_eq (tgt := 22) hx hb dX8_signs_15 (by decide) (fun n => absurd n c7) (fun _ => ?_)
    cases hf
    have k : _ = r := k
    subst k
    refine lv_iconst (v := 0) hx hb dX8_signs_18 (by decide) ?_
    refine lv_goto (tgt := 28) hx hb dX8_signs_19 (by decide) ?_
    exact r_iret X I rfl rfl rfl hn dX8_signs_28
theorem v_X8_signs {G : sG} {d : Nat} {vs0 : List Value} {σ0 : sS} {x : sL} {z : sZ Int32} {r : Int32 × sS} (hs : S_X8_signs x = some z) (k : s_K G (d + 3) M_X8_signs vs0 σ0 Y_X8_signs e_I z r) : s_V G (d + 3) M_X8_signs vs0 σ0 Y_X8_signs x (e_I r) := by
  obtain ⟨pc, vs, σ⟩ := x
  unfold S_X8_signs at hs
  dsimp only at hs
  rcases s_ite hs with ⟨c, hs⟩ | ⟨-, hs⟩
  · subst c
    unfold U_X8_signs_0 at hs
    obtain ⟨a0, g0, hs⟩ := s_bind hs
    obtain ⟨a1, g1, hs⟩ := s_bind hs
    obtain ⟨u9, ge, hs⟩ := s_bind hs
    rw [g_r_to g0, g_i_to g1, g_e_to ge]
    exact v_X8_signs_0 hs k
  cases hs
theorem t_X8_signs {G : sG} {d : Nat} {v0 : Nat} {v1 : Int32} {σ : sS} {q : Int32 × sS} (h : F_X8_signs v0 v1 σ = some q) : s_T G (d + 3) M_X8_signs [.ref v0, .int v1] σ (e_I q) := by
  unfold F_X8_signs at h
  obtain ⟨-, -, h⟩ := s_bind h
  exact s_ofV rfl (by decide) (Nat.le_of_ble_eq_true rfl) rfl rfl (s_run_ind (V := fun x r => s_V G (d + 3) M_X8_signs [.ref v0, .int v1] σ Y_X8_signs x (e_I r)) (fun x z r hs hk => v_X8_signs hs (by cases z <;> exact hk)) h)
/-! X7_same -/
noncomputable def T_X7_same_0 (v0 : Nat) (v1 : Int32) (v2 : Int32) (σ : sS) : Option (sZ (Int32 ⊕ String)) :=
  (F_X7_needFormula v0 v1 σ).bind fun q1 => s_sum q1.1 (fun x2 => (F_X7_needFormula v0 v2 q1.2).bind fun q4 => s_sum q4.1 (fun x5 => (s_fr q4.2 v0 7 1).bind fun x7 =>
  (F_X1_nodeOf x7 v1 q4.2).bind fun q8 =>
  (s_fr q8.2 v0 7 1).bind fun x9 =>
  (F_X1_nodeOf x9 v2 q8.2).bind fun q10 =>
  if q8.1 = q10.1 then (some (.inr (.inl 1, q10.2)))
  else (some (.inr (.inl 0, q10.2)))) (fun E6 => some (.inr (.inr E6, q4.2)))) (fun E3 => some (.inr (.inr E3, q1.2)))
noncomputable def U_X7_same_0 (vs : List Value) (σ : sS) : Option (sZ (Int32 ⊕ String)) := (g_r vs).bind fun a0 => (g_i a0.2).bind fun a1 => (g_i a1.2).bind fun a2 => (g_e a2.2).bind fun _ => T_X7_same_0 a0.1 a1.1 a2.1 σ
noncomputable def S_X7_same (x : sL) : Option (sZ (Int32 ⊕ String)) := if x.1 = 0 then U_X7_same_0 x.2.1 x.2.2 else none
def Y_X7_same (pc : Nat) : List Nat := if pc = 0 then [0, 1, 2] else []
noncomputable def F_X7_same (v0 : Nat) (v1 : Int32) (v2 : Int32) (σ : sS) : Option ((Int32 ⊕ String) × sS) := (s_is σ v0 7).bind fun _ => s_run S_X7_same (0, [.ref v0, .int v1, .int v2], σ)
theorem l_X7_same_0 {v0 : Nat} {v1 : Int32} {v2 : Int32} {σ : sS} {z : sZ (Int32 ⊕ String)} (hf : T_X7_same_0 v0 v1 v2 σ = some z) : s_lz σ z := by
  unfold T_X7_same_0 at hf
  obtain ⟨q1, hh, hf⟩ := s_bind hf
  refine s_lz.tr (l_X7_needFormula hh) ?_
  rcases s_sum_some hf with ⟨x2, -, hf⟩ | ⟨E3, -, hf⟩
  · obtain ⟨q4, hh, hf⟩ := s_bind hf
    refine s_lz.tr (l_X7_needFormula hh) ?_
    rcases s_sum_some hf with ⟨x5, -, hf⟩ | ⟨E6, -, hf⟩
    · obtain ⟨x7, -, hf⟩ := s_bind hf
      obtain ⟨q8, hh, hf⟩ := s_bind hf
      refine s_lz.tr (l_X1_nodeOf hh) ?_
      obtain ⟨x9, -, hf⟩ := s_bind hf
      obtain ⟨q10, hh, hf⟩ := s_bind hf
      refine s_lz.tr (l_X1_nodeOf hh) ?_
      rcases s_ite hf with ⟨-, hf⟩ | ⟨-, hf⟩
      · cases hf
        exact s_le.rf
      · cases hf
        exact s_le.rf
    · cases hf
      exact s_le.rf
  · cases hf
    exact s_le.rf
theorem l_X7_same_s {x : sL} {z : sZ (Int32 ⊕ String)} (hs : S_X7_same x = some z) : s_lz x.2.2 z := by
  obtain ⟨pc, vs, σ⟩ := x
  unfold S_X7_same at hs
  dsimp only at hs ⊢
  rcases s_ite hs with ⟨c, hs⟩ | ⟨-, hs⟩
  · subst c
    unfold U_X7_same_0 at hs
    obtain ⟨a0, g0, hs⟩ := s_bind hs
    obtain ⟨a1, g1, hs⟩ := s_bind hs
    obtain ⟨a2, g2, hs⟩ := s_bind hs
    obtain ⟨u9, ge, hs⟩ := s_bind hs
    exact l_X7_same_0 hs
  cases hs
theorem l_X7_same {v0 : Nat} {v1 : Int32} {v2 : Int32} {σ : sS} {q : (Int32 ⊕ String) × sS} (h : F_X7_same v0 v1 v2 σ = some q) : s_le σ q.2 := by
  unfold F_X7_same at h
  obtain ⟨-, -, h⟩ := s_bind h
  exact s_run_ind (V := fun x r => s_le x.2.2 r.2) (fun x z r hs hk => by
    have h9 := l_X7_same_s hs
    cases z with
    | inl y => exact s_le.tr h9 hk
    | inr q => cases hk; exact h9) h
theorem b_X7_same {v0 : Nat} {v1 : Int32} {v2 : Int32} {σ : sS} {q : (Int32 ⊕ String) × sS} (h : F_X7_same v0 v1 v2 σ = some q) : ∃ fs, σ.1 v0 = some (.inr (7, fs)) := by
  unfold F_X7_same at h
  obtain ⟨u, hu, -⟩ := s_bind h
  exact s_is_to hu
set_option maxRecDepth 100000 in
set_option maxHeartbeats 4000000 in
theorem v_X7_same_0 {G : sG} {d : Nat} {vs0 : List Value} {σ0 : sS} {v0 : Nat} {v1 : Int32} {v2 : Int32} {σ : sS} {z : sZ (Int32 ⊕ String)} {r : (Int32 ⊕ String) × sS} (hf : T_X7_same_0 v0 v1 v2 σ = some z) (k : s_K G (d + 2) M_X7_same vs0 σ0 Y_X7_same e_IX z r) : s_V G (d + 2) M_X7_same vs0 σ0 Y_X7_same (0, [.ref v0, .int v1, .int v2], σ) (e_IX r) := by
  have le0 : s_le σ (e_IX r).2 := s_lek hem_IX (l_X7_same_0 hf) k
  refine ⟨le0, ?_⟩
  intro p e s m below meth c H locs cells slots ls X I hn1 hn2 hl
  have hn : cells + σ0.2.1 ≤ σ.2.1 ∧ slots + σ0.2.2.1 ≤ σ.2.2.1 := ⟨hn1, hn2⟩
  have hl : lv_has ls 3 [(0, .ref v0), (1, .int v1), (2, .int v2)] := hl
  have hx := X.1
  have hb : c.code = cX7_same := X.2.1
  have hown : s.vm.findClass RX7 = some m.cls := X.2.2.2.2.2.1
  have hts := X.2.2.2.2.2.2.1
  refine W.eq (g2 := F0 m 0 ls []) rfl ?_
  unfold T_X7_same_0 at hf
  obtain ⟨q1, h1, hf⟩ := s_bind hf
  refine lv_aload_n hx hb dX7_same_0 rfl (lv_at hl 0 rfl) ?_
  refine lv_iload_n hx hb dX7_same_1 rfl (lv_at hl 1 rfl) ?_
  rcases s_sum_some hf with ⟨x2, hq2, hf⟩ | ⟨E3, hq2, hf⟩
  · have le3 : s_le q1.2 (e_IX r).2 := by
      refine s_lek hem_IX ?_ k
      obtain ⟨q4, hh, hf⟩ := s_bind hf
      refine s_lz.tr (l_X7_needFormula hh) ?_
      rcases s_sum_some hf with ⟨x5, -, hf⟩ | ⟨E6, -, hf⟩
      · obtain ⟨x7, -, hf⟩ := s_bind hf
        obtain ⟨q8, hh, hf⟩ := s_bind hf
        refine s_lz.tr (l_X1_nodeOf hh) ?_
        obtain ⟨x9, -, hf⟩ := s_bind hf
        obtain ⟨q10, hh, hf⟩ := s_bind hf
        refine s_lz.tr (l_X1_nodeOf hh) ?_
        rcases s_ite hf with ⟨-, hf⟩ | ⟨-, hf⟩
        · cases hf
          exact s_le.rf
        · cases hf
          exact s_le.rf
      · cases hf
        exact s_le.rf
    refine r_callV (Y := M_X7_needFormula) (v := none) X I w_1016 my_X7_needFormula (by omega) (t_X7_needFormula (G := G) (d := d + 0) h1) (b_X7_needFormula h1) (e_VX_l hq2) rfl hl.1 rfl (Nat.le_of_ble_eq_true rfl) hn le3 dX7_same_2 (fun H locs cells slots I hn1 hn2 => ?_)
    have I : s_I G q1.2 s H locs := I
    have hn : cells + σ0.2.1 ≤ q1.2.2.1 ∧ slots + σ0.2.2.1 ≤ q1.2.2.2.1 := ⟨hn1, hn2⟩
    obtain ⟨q4, h4, hf⟩ := s_bind hf
    refine lv_aload_n hx hb dX7_same_5 rfl (lv_at hl 0 rfl) ?_
    refine lv_iload_n hx hb dX7_same_6 rfl (lv_at hl 2 rfl) ?_
    rcases s_sum_some hf with ⟨x5, hq5, hf⟩ | ⟨E6, hq5, hf⟩
    · have le6 : s_le q4.2 (e_IX r).2 := by
        refine s_lek hem_IX ?_ k
        obtain ⟨x7, -, hf⟩ := s_bind hf
        obtain ⟨q8, hh, hf⟩ := s_bind hf
        refine s_lz.tr (l_X1_nodeOf hh) ?_
        obtain ⟨x9, -, hf⟩ := s_bind hf
        obtain ⟨q10, hh, hf⟩ := s_bind hf
        refine s_lz.tr (l_X1_nodeOf hh) ?_
        rcases s_ite hf with ⟨-, hf⟩ | ⟨-, hf⟩
        · cases hf
          exact s_le.rf
        · cases hf
          exact s_le.rf
      refine r_callV (Y := M_X7_needFormula) (v := none) X I w_1016 my_X7_needFormula (by omega) (t_X7_needFormula (G := G) (d := d + 0) h4) (b_X7_needFormula h4) (e_VX_l hq5) rfl hl.1 rfl (Nat.le_of_ble_eq_true rfl) hn le6 dX7_same_7 (fun H locs cells slots I hn1 hn2 => ?_)
      have I : s_I G q4.2 s H locs := I
      have hn : cells + σ0.2.1 ≤ q4.2.2.1 ∧ slots + σ0.2.2.1 ≤ q4.2.2.2.1 := ⟨hn1, hn2⟩
      obtain ⟨x7, h7, hf⟩ := s_bind hf
      obtain ⟨q8, h8, hf⟩ := s_bind hf
      obtain ⟨x9, h9, hf⟩ := s_bind hf
      obtain ⟨q10, h10, hf⟩ := s_bind hf
      have le11 : s_le q10.2 (e_IX r).2 := by
        refine s_lek hem_IX ?_ k
        rcases s_ite hf with ⟨-, hf⟩ | ⟨-, hf⟩
        · cases hf
          exact s_le.rf
        · cases hf
          exact s_le.rf
      have le12 := s_le.tr (l_X1_nodeOf h10) le11
      refine lv_aload_n hx hb dX7_same_10 rfl (lv_at hl 0 rfl) ?_
      refine r_gr X I fl_X7_19 h7 dX7_same_11 ?_
      refine lv_iload_n hx hb dX7_same_14 rfl (lv_at hl 1 rfl) ?_
      refine r_callV (Y := M_X1_nodeOf) (v := some (.int q8.1)) X I w_1036 my_X1_nodeOf (by omega) (t_X1_nodeOf (G := G) (d := d + 0) h8) (b_X1_nodeOf h8) rfl rfl hl.1 rfl (Nat.le_of_ble_eq_true rfl) hn le12 dX7_same_15 (fun H locs cells slots I hn1 hn2 => ?_)
      have I : s_I G q8.2 s H locs := I
      have hn : cells + σ0.2.1 ≤ q8.2.2.1 ∧ slots + σ0.2.2.1 ≤ q8.2.2.2.1 := ⟨hn1, hn2⟩
      refine lv_aload_n hx hb dX7_same_18 rfl (lv_at hl 0 rfl) ?_
      refine r_gr X I fl_X7_19 h9 dX7_same_19 ?_
      refine lv_iload_n hx hb dX7_same_22 rfl (lv_at hl 2 rfl) ?_
      refine r_callV (Y := M_X1_nodeOf) (v := some (.int q10.1)) X I w_1036 my_X1_nodeOf (by omega) (t_X1_nodeOf (G := G) (d := d + 0) h10) (b_X1_nodeOf h10) rfl rfl hl.1 rfl (Nat.le_of_ble_eq_true rfl) hn le11 dX7_same_23 (fun H locs cells slots I hn1 hn2 => ?_)
      have I : s_I G q10.2 s H locs := I
      have hn : cells + σ0.2.1 ≤ q10.2.2.1 ∧ slots + σ0.2.2.1 ≤ q10.2.2.2.1 := ⟨hn1, hn2⟩
      rcases s_ite hf with ⟨c13, hf⟩ | ⟨c13, hf⟩
      · refine lv_icmp_ne (tgt := 33) hx hb dX7_same_26 (by decide) (fun n => absurd c13 n) (fun _ => ?_)
        cases hf
        have k : _ = r := k
        subst k
        refine lv_iconst (v := 1) hx hb dX7_same_29 (by decide) ?_
        refine lv_goto (tgt := 34) hx hb dX7_same_30 (by decide) ?_
        exact r_iret X I rfl rfl rfl hn dX7_same_34
      · refine lv_icmp_ne (tgt := 33) hx hb dX7_same_26 (by decide) (fun _ => ?_) (fun n => absurd n c13)
        cases hf
        have k : _ = r := k
        subst k
        refine lv_iconst (v := 0) hx hb dX7_same_33 (by decide) ?_
        exact r_iret X I rfl rfl rfl hn dX7_same_34
    · cases hf
      have k : _ = r := k
      subst k
      exact r_callVx (Y := M_X7_needFormula) X I rfl w_1016 my_X7_needFormula (by omega) (t_X7_needFormula (G := G) (d := d + 0) h4) (b_X7_needFormula h4) (e_VX_r hq5) rfl hl.1 rfl (Nat.le_of_ble_eq_true rfl) hn rfl dX7_same_7
  · cases hf
    have k : _ = r := k
    subst k
    exact r_callVx (Y := M_X7_needFormula) X I rfl w_1016 my_X7_needFormula (by omega) (t_X7_needFormula (G := G) (d := d + 0) h1) (b_X7_needFormula h1) (e_VX_r hq2) rfl hl.1 rfl (Nat.le_of_ble_eq_true rfl) hn rfl dX7_same_2
theorem v_X7_same {G : sG} {d : Nat} {vs0 : List Value} {σ0 : sS} {x : sL} {z : sZ (Int32 ⊕ String)} {r : (Int32 ⊕ String) × sS} (hs : S_X7_same x = some z) (k : s_K G (d + 2) M_X7_same vs0 σ0 Y_X7_same e_IX z r) : s_V G (d + 2) M_X7_same vs0 σ0 Y_X7_same x (e_IX r) := by
  obtain ⟨pc, vs, σ⟩ := x
  unfold S_X7_same at hs
  dsimp only at hs
  rcases s_ite hs with ⟨c, hs⟩ | ⟨-, hs⟩
  · subst c
    unfold U_X7_same_0 at hs
    obtain ⟨a0, g0, hs⟩ := s_bind hs
    obtain ⟨a1, g1, hs⟩ := s_bind hs
    obtain ⟨a2, g2, hs⟩ := s_bind hs
    obtain ⟨u9, ge, hs⟩ := s_bind hs
    rw [g_r_to g0, g_i_to g1, g_i_to g2, g_e_to ge]
    exact v_X7_same_0 hs k
  cases hs
theorem t_X7_same {G : sG} {d : Nat} {v0 : Nat} {v1 : Int32} {v2 : Int32} {σ : sS} {q : (Int32 ⊕ String) × sS} (h : F_X7_same v0 v1 v2 σ = some q) : s_T G (d + 2) M_X7_same [.ref v0, .int v1, .int v2] σ (e_IX q) := by
  unfold F_X7_same at h
  obtain ⟨-, -, h⟩ := s_bind h
  exact s_ofV rfl (by decide) (Nat.le_of_ble_eq_true rfl) rfl rfl (s_run_ind (V := fun x r => s_V G (d + 2) M_X7_same [.ref v0, .int v1, .int v2] σ Y_X7_same x (e_IX r)) (fun x z r hs hk => v_X7_same hs (by cases z <;> exact hk)) h)
/-! L_same -/
noncomputable def T_L_same_0 (v0 : Nat) (v1 : Int32) (v2 : Int32) (v3 : Nat) (σ : sS) : Option (sZ Int32) :=
  (F_X7_same v0 v1 v2 σ).bind fun q1 => s_sum q1.1 (fun x2 => if x2 = 0 then (some (.inl (16, [.long 0, .int 0, .ref v3], q1.2)))
  else (some (.inl (16, [.long 1, .int 0, .ref v3], q1.2)))) (fun E3 => if E3 = "java/lang/IndexOutOfBoundsException" then (some (.inr (1, q1.2))) else none)
noncomputable def U_L_same_0 (vs : List Value) (σ : sS) : Option (sZ Int32) := (g_r vs).bind fun a0 => (g_i a0.2).bind fun a1 => (g_i a1.2).bind fun a2 => (g_r a2.2).bind fun a3 => (g_e a3.2).bind fun _ => T_L_same_0 a0.1 a1.1 a2.1 a3.1 σ
noncomputable def T_L_same_16 (w0 : Int64) (w1 : Int32) (w2 : Nat) (σ : sS) : Option (sZ Int32) :=
  (s_sl σ w2 w1 w0).bind fun σ1 =>
  some (.inr (0, σ1))
noncomputable def U_L_same_16 (vs : List Value) (σ : sS) : Option (sZ Int32) := (g_l vs).bind fun a0 => (g_i a0.2).bind fun a1 => (g_r a1.2).bind fun a2 => (g_e a2.2).bind fun _ => T_L_same_16 a0.1 a1.1 a2.1 σ
noncomputable def S_L_same (x : sL) : Option (sZ Int32) := if x.1 = 0 then U_L_same_0 x.2.1 x.2.2 else if x.1 = 16 then U_L_same_16 x.2.1 x.2.2 else none
def Y_L_same (pc : Nat) : List Nat := if pc = 0 then [0, 1, 2, 3] else if pc = 16 then [] else []
noncomputable def F_L_same (v0 : Nat) (v1 : Int32) (v2 : Int32) (v3 : Nat) (σ : sS) : Option (Int32 × sS) := s_run S_L_same (0, [.ref v0, .int v1, .int v2, .ref v3], σ)
theorem l_L_same_0 {v0 : Nat} {v1 : Int32} {v2 : Int32} {v3 : Nat} {σ : sS} {z : sZ Int32} (hf : T_L_same_0 v0 v1 v2 v3 σ = some z) : s_lz σ z := by
  unfold T_L_same_0 at hf
  obtain ⟨q1, hh, hf⟩ := s_bind hf
  refine s_lz.tr (l_X7_same hh) ?_
  rcases s_sum_some hf with ⟨x2, -, hf⟩ | ⟨E3, -, hf⟩
  · rcases s_ite hf with ⟨-, hf⟩ | ⟨-, hf⟩
    · cases hf
      exact s_le.rf
    · cases hf
      exact s_le.rf
  · rcases s_ite hf with ⟨-, hf⟩ | ⟨-, hf⟩
    · cases hf
      exact s_le.rf
    cases hf
theorem l_L_same_16 {w0 : Int64} {w1 : Int32} {w2 : Nat} {σ : sS} {z : sZ Int32} (hf : T_L_same_16 w0 w1 w2 σ = some z) : s_lz σ z := by
  unfold T_L_same_16 at hf
  obtain ⟨σ1, hh, hf⟩ := s_bind hf
  refine s_lz.tr (s_le2 (s_sl_2 hh)) ?_
  cases hf
  exact s_le.rf
theorem l_L_same_s {x : sL} {z : sZ Int32} (hs : S_L_same x = some z) : s_lz x.2.2 z := by
  obtain ⟨pc, vs, σ⟩ := x
  unfold S_L_same at hs
  dsimp only at hs ⊢
  rcases s_ite hs with ⟨c, hs⟩ | ⟨-, hs⟩
  · subst c
    unfold U_L_same_0 at hs
    obtain ⟨a0, g0, hs⟩ := s_bind hs
    obtain ⟨a1, g1, hs⟩ := s_bind hs
    obtain ⟨a2, g2, hs⟩ := s_bind hs
    obtain ⟨a3, g3, hs⟩ := s_bind hs
    obtain ⟨u9, ge, hs⟩ := s_bind hs
    exact l_L_same_0 hs
  rcases s_ite hs with ⟨c, hs⟩ | ⟨-, hs⟩
  · subst c
    unfold U_L_same_16 at hs
    obtain ⟨a0, g0, hs⟩ := s_bind hs
    obtain ⟨a1, g1, hs⟩ := s_bind hs
    obtain ⟨a2, g2, hs⟩ := s_bind hs
    obtain ⟨u9, ge, hs⟩ := s_bind hs
    exact l_L_same_16 hs
  cases hs
theorem l_L_same {v0 : Nat} {v1 : Int32} {v2 : Int32} {v3 : Nat} {σ : sS} {q : Int32 × sS} (h : F_L_same v0 v1 v2 v3 σ = some q) : s_le σ q.2 := by
  unfold F_L_same at h
  exact s_run_ind (V := fun x r => s_le x.2.2 r.2) (fun x z r hs hk => by
    have h9 := l_L_same_s hs
    cases z with
    | inl y => exact s_le.tr h9 hk
    | inr q => cases hk; exact h9) h
set_option maxRecDepth 100000 in
set_option maxHeartbeats 4000000 in
theorem v_L_same_0 {G : sG} {d : Nat} {vs0 : List Value} {σ0 : sS} {v0 : Nat} {v1 : Int32} {v2 : Int32} {v3 : Nat} {σ : sS} {z : sZ Int32} {r : Int32 × sS} (hf : T_L_same_0 v0 v1 v2 v3 σ = some z) (k : s_K G (d + 3) M_L_same vs0 σ0 Y_L_same e_I z r) : s_V G (d + 3) M_L_same vs0 σ0 Y_L_same (0, [.ref v0, .int v1, .int v2, .ref v3], σ) (e_I r) := by
  have le0 : s_le σ (e_I r).2 := s_lek hem_I (l_L_same_0 hf) k
  refine ⟨le0, ?_⟩
  intro p e s m below meth c H locs cells slots ls X I hn1 hn2 hl
  have hn : cells + σ0.2.1 ≤ σ.2.1 ∧ slots + σ0.2.2.1 ≤ σ.2.2.1 := ⟨hn1, hn2⟩
  have hl : lv_has ls 5 [(0, .ref v0), (1, .int v1), (2, .int v2), (3, .ref v3)] := hl
  have hx := X.1
  have hb : c.code = cL_same := X.2.1
  have hown : s.vm.findClass RL = some m.cls := X.2.2.2.2.2.1
  have hts := X.2.2.2.2.2.2.1
  refine W.eq (g2 := F0 m 0 ls []) rfl ?_
  unfold T_L_same_0 at hf
  obtain ⟨q1, h1, hf⟩ := s_bind hf
  refine lv_aload_n hx hb dL_same_0 rfl (lv_at hl 3 rfl) ?_
  refine lv_iconst (v := 0) hx hb dL_same_1 (by decide) ?_
  refine lv_aload_n hx hb dL_same_2 rfl (lv_at hl 0 rfl) ?_
  refine lv_iload_n hx hb dL_same_3 rfl (lv_at hl 1 rfl) ?_
  refine lv_iload_n hx hb dL_same_4 rfl (lv_at hl 2 rfl) ?_
  rcases s_sum_some hf with ⟨x2, hq2, hf⟩ | ⟨E3, hq2, hf⟩
  · have le3 : s_le q1.2 (e_I r).2 := by
      refine s_lek hem_I ?_ k
      rcases s_ite hf with ⟨-, hf⟩ | ⟨-, hf⟩
      · cases hf
        exact s_le.rf
      · cases hf
        exact s_le.rf
    refine r_callV (Y := M_X7_same) (v := some (.int x2)) X I w_1041 my_X7_same (by omega) (t_X7_same (G := G) (d := d + 0) h1) (b_X7_same h1) (e_IX_l hq2) rfl hl.1 rfl (Nat.le_of_ble_eq_true rfl) hn le3 dL_same_5 (fun H locs cells slots I hn1 hn2 => ?_)
    have I : s_I G q1.2 s H locs := I
    have hn : cells + σ0.2.1 ≤ q1.2.2.1 ∧ slots + σ0.2.2.1 ≤ q1.2.2.2.1 := ⟨hn1, hn2⟩
    rcases s_ite hf with ⟨c4, hf⟩ | ⟨c4, hf⟩
    · refine lv_if_eq (tgt := 15) hx hb dL_same_8 (by decide) (fun _ => ?_) (fun n => absurd c4 n)
      cases hf
      have k : s_V G (d + 3) M_L_same vs0 σ0 Y_L_same (16, [.long 0, .int 0, .ref v3], q1.2) (e_I r) := k
      refine lv_lconst (v := 0) hx hb dL_same_15 (by decide) ?_
      exact k.2 p e s m below meth c _ _ _ _ _ X I hn.1 hn.2 (lv_sub hl [] rfl)
    · refine lv_if_eq (tgt := 15) hx hb dL_same_8 (by decide) (fun n => absurd n c4) (fun _ => ?_)
      cases hf
      have k : s_V G (d + 3) M_L_same vs0 σ0 Y_L_same (16, [.long 1, .int 0, .ref v3], q1.2) (e_I r) := k
      refine lv_lconst (v := 1) hx hb dL_same_11 (by decide) ?_
      refine lv_goto (tgt := 16) hx hb dL_same_12 (by decide) ?_
      exact k.2 p e s m below meth c _ _ _ _ _ X I hn.1 hn.2 (lv_sub hl [] rfl)
  · rcases s_ite hf with ⟨c5, hf⟩ | ⟨c5, hf⟩
    · subst c5
      have le6 : s_le q1.2 (e_I r).2 := by
        refine s_lek hem_I ?_ k
        cases hf
        exact s_le.rf
      refine r_callVh (x := (0, 17, 20, 27)) (Y := M_X7_same) (E := "java/lang/IndexOutOfBoundsException") (name := "java/lang/IndexOutOfBoundsException") X I [] [] rfl (fun z hz => by cases hz) rfl (by decide) w_1011 (by decide +kernel) w_1041 my_X7_same (by omega) (t_X7_same (G := G) (d := d + 0) h1) (b_X7_same h1) (e_IX_r hq2) rfl hl.1 rfl (Nat.le_of_ble_eq_true rfl) hn le6 dL_same_5 (fun a4 H locs cells slots I hn1 hn2 => ?_)
      have I : s_I G q1.2 s H locs := I
      have hn : cells + σ0.2.1 ≤ q1.2.2.1 ∧ slots + σ0.2.2.1 ≤ q1.2.2.2.1 := ⟨hn1, hn2⟩
      cases hf
      have k : _ = r := k
      subst k
      refine lv_astore (lv' := [(4, .ref a4), (0, .ref v0), (1, .int v1), (2, .int v2), (3, .ref v3)]) hx hb dL_same_20 hl (by decide) rfl (fun ls hl => ?_)
      refine lv_iconst (v := 1) hx hb dL_same_22 (by decide) ?_
      exact r_iret X I rfl rfl rfl hn dL_same_23
    cases hf
set_option maxRecDepth 100000 in
set_option maxHeartbeats 4000000 in
theorem v_L_same_16 {G : sG} {d : Nat} {vs0 : List Value} {σ0 : sS} {w0 : Int64} {w1 : Int32} {w2 : Nat} {σ : sS} {z : sZ Int32} {r : Int32 × sS} (hf : T_L_same_16 w0 w1 w2 σ = some z) (k : s_K G (d + 3) M_L_same vs0 σ0 Y_L_same e_I z r) : s_V G (d + 3) M_L_same vs0 σ0 Y_L_same (16, [.long w0, .int w1, .ref w2], σ) (e_I r) := by
  have le0 : s_le σ (e_I r).2 := s_lek hem_I (l_L_same_16 hf) k
  refine ⟨le0, ?_⟩
  intro p e s m below meth c H locs cells slots ls X I hn1 hn2 hl
  have hn : cells + σ0.2.1 ≤ σ.2.1 ∧ slots + σ0.2.2.1 ≤ σ.2.2.1 := ⟨hn1, hn2⟩
  have hl : lv_has ls 5 [] := hl
  have hx := X.1
  have hb : c.code = cL_same := X.2.1
  have hown : s.vm.findClass RL = some m.cls := X.2.2.2.2.2.1
  have hts := X.2.2.2.2.2.2.1
  refine W.eq (g2 := F0 m 16 ls [.long w0, .int w1, .ref w2]) rfl ?_
  unfold T_L_same_16 at hf
  obtain ⟨σ1, h1, hf⟩ := s_bind hf
  cases hf
  have k : _ = r := k
  subst k
  have le2 : s_le σ1 σ1 := s_le.rf
  refine r_last X I h1 dL_same_16 (fun H locs I => ?_)
  have hn := s_k2 (s_sl_2 h1) hn
  refine lv_goto (tgt := 24) hx hb dL_same_17 (by decide) ?_
  refine lv_iconst (v := 0) hx hb dL_same_24 (by decide) ?_
  exact r_iret X I rfl rfl rfl hn dL_same_25
theorem v_L_same {G : sG} {d : Nat} {vs0 : List Value} {σ0 : sS} {x : sL} {z : sZ Int32} {r : Int32 × sS} (hs : S_L_same x = some z) (k : s_K G (d + 3) M_L_same vs0 σ0 Y_L_same e_I z r) : s_V G (d + 3) M_L_same vs0 σ0 Y_L_same x (e_I r) := by
  obtain ⟨pc, vs, σ⟩ := x
  unfold S_L_same at hs
  dsimp only at hs
  rcases s_ite hs with ⟨c, hs⟩ | ⟨-, hs⟩
  · subst c
    unfold U_L_same_0 at hs
    obtain ⟨a0, g0, hs⟩ := s_bind hs
    obtain ⟨a1, g1, hs⟩ := s_bind hs
    obtain ⟨a2, g2, hs⟩ := s_bind hs
    obtain ⟨a3, g3, hs⟩ := s_bind hs
    obtain ⟨u9, ge, hs⟩ := s_bind hs
    rw [g_r_to g0, g_i_to g1, g_i_to g2, g_r_to g3, g_e_to ge]
    exact v_L_same_0 hs k
  rcases s_ite hs with ⟨c, hs⟩ | ⟨-, hs⟩
  · subst c
    unfold U_L_same_16 at hs
    obtain ⟨a0, g0, hs⟩ := s_bind hs
    obtain ⟨a1, g1, hs⟩ := s_bind hs
    obtain ⟨a2, g2, hs⟩ := s_bind hs
    obtain ⟨u9, ge, hs⟩ := s_bind hs
    rw [g_l_to g0, g_i_to g1, g_r_to g2, g_e_to ge]
    exact v_L_same_16 hs k
  cases hs
theorem t_L_same {G : sG} {d : Nat} {v0 : Nat} {v1 : Int32} {v2 : Int32} {v3 : Nat} {σ : sS} {q : Int32 × sS} (h : F_L_same v0 v1 v2 v3 σ = some q) : s_T G (d + 3) M_L_same [.ref v0, .int v1, .int v2, .ref v3] σ (e_I q) := by
  unfold F_L_same at h
  exact s_ofVH rfl (by decide) (Nat.le_of_ble_eq_true rfl) rfl rfl (s_run_ind (V := fun x r => s_V G (d + 3) M_L_same [.ref v0, .int v1, .int v2, .ref v3] σ Y_L_same x (e_I r)) (fun x z r hs hk => v_L_same hs (by cases z <;> exact hk)) h)
/-! X8_set -/
noncomputable def T_X8_set_0 (v0 : Int32) (v1 : Int32) (σ : sS) : Option (sZ Int32) :=
  if (0 : Int32) ≤ v1 then (if v0 = 4 then (some (.inr ((6 + v1), σ)))
  else (if v0 = 5 then (some (.inr ((9 + v1), σ)))
  else (some (.inr (v0, σ)))))
  else (some (.inr (v0, σ)))
noncomputable def U_X8_set_0 (vs : List Value) (σ : sS) : Option (sZ Int32) := (g_i vs).bind fun a0 => (g_i a0.2).bind fun a1 => (g_e a1.2).bind fun _ => T_X8_set_0 a0.1 a1.1 σ
noncomputable def S_X8_set (x : sL) : Option (sZ Int32) := if x.1 = 0 then U_X8_set_0 x.2.1 x.2.2 else none
def Y_X8_set (pc : Nat) : List Nat := if pc = 0 then [0, 1] else []
noncomputable def F_X8_set (v0 : Int32) (v1 : Int32) (σ : sS) : Option (Int32 × sS) := s_run S_X8_set (0, [.int v0, .int v1], σ)
theorem l_X8_set_0 {v0 : Int32} {v1 : Int32} {σ : sS} {z : sZ Int32} (hf : T_X8_set_0 v0 v1 σ = some z) : s_lz σ z := by
  unfold T_X8_set_0 at hf
  rcases s_ite hf with ⟨-, hf⟩ | ⟨-, hf⟩
  · rcases s_ite hf with ⟨-, hf⟩ | ⟨-, hf⟩
    · cases hf
      exact s_le.rf
    · rcases s_ite hf with ⟨-, hf⟩ | ⟨-, hf⟩
      · cases hf
        exact s_le.rf
      · cases hf
        exact s_le.rf
  · cases hf
    exact s_le.rf
theorem l_X8_set_s {x : sL} {z : sZ Int32} (hs : S_X8_set x = some z) : s_lz x.2.2 z := by
  obtain ⟨pc, vs, σ⟩ := x
  unfold S_X8_set at hs
  dsimp only at hs ⊢
  rcases s_ite hs with ⟨c, hs⟩ | ⟨-, hs⟩
  · subst c
    unfold U_X8_set_0 at hs
    obtain ⟨a0, g0, hs⟩ := s_bind hs
    obtain ⟨a1, g1, hs⟩ := s_bind hs
    obtain ⟨u9, ge, hs⟩ := s_bind hs
    exact l_X8_set_0 hs
  cases hs
theorem l_X8_set {v0 : Int32} {v1 : Int32} {σ : sS} {q : Int32 × sS} (h : F_X8_set v0 v1 σ = some q) : s_le σ q.2 := by
  unfold F_X8_set at h
  exact s_run_ind (V := fun x r => s_le x.2.2 r.2) (fun x z r hs hk => by
    have h9 := l_X8_set_s hs
    cases z with
    | inl y => exact s_le.tr h9 hk
    | inr q => cases hk; exact h9) h
set_option maxRecDepth 100000 in
set_option maxHeartbeats 4000000 in
theorem v_X8_set_0 {G : sG} {d : Nat} {vs0 : List Value} {σ0 : sS} {v0 : Int32} {v1 : Int32} {σ : sS} {z : sZ Int32} {r : Int32 × sS} (hf : T_X8_set_0 v0 v1 σ = some z) (k : s_K G (d + 1) M_X8_set vs0 σ0 Y_X8_set e_I z r) : s_V G (d + 1) M_X8_set vs0 σ0 Y_X8_set (0, [.int v0, .int v1], σ) (e_I r) := by
  have le0 : s_le σ (e_I r).2 := s_lek hem_I (l_X8_set_0 hf) k
  refine ⟨le0, ?_⟩
  intro p e s m below meth c H locs cells slots ls X I hn1 hn2 hl
  have hn : cells + σ0.2.1 ≤ σ.2.1 ∧ slots + σ0.2.2.1 ≤ σ.2.2.1 := ⟨hn1, hn2⟩
  have hl : lv_has ls 2 [(0, .int v0), (1, .int v1)] := hl
  have hx := X.1
  have hb : c.code = cX8_set := X.2.1
  have hown : s.vm.findClass RX8 = some m.cls := X.2.2.2.2.2.1
  have hts := X.2.2.2.2.2.2.1
  refine W.eq (g2 := F0 m 0 ls []) rfl ?_
  unfold T_X8_set_0 at hf
  refine lv_iload_n hx hb dX8_set_0 rfl (lv_at hl 1 rfl) ?_
  rcases s_ite hf with ⟨c1, hf⟩ | ⟨c1, hf⟩
  · refine lv_if_ge (tgt := 8) hx hb dX8_set_1 (by decide) (fun _ => ?_) (fun n => absurd c1 n)
    refine lv_iload_n hx hb dX8_set_8 rfl (lv_at hl 0 rfl) ?_
    refine lv_iconst (v := 4) hx hb dX8_set_9 (by decide) ?_
    rcases s_ite hf with ⟨c2, hf⟩ | ⟨c2, hf⟩
    · refine lv_icmp_ne (tgt := 20) hx hb dX8_set_10 (by decide) (fun n => absurd c2 n) (fun _ => ?_)
      cases hf
      have k : _ = r := k
      subst k
      refine lv_bipush (v := 6) hx hb dX8_set_13 (by decide) ?_
      refine lv_iload_n hx hb dX8_set_15 rfl (lv_at hl 1 rfl) ?_
      refine lv_iadd hx hb dX8_set_16 ?_
      refine lv_goto (tgt := 33) hx hb dX8_set_17 (by decide) ?_
      exact r_iret X I rfl rfl rfl hn dX8_set_33
    · refine lv_icmp_ne (tgt := 20) hx hb dX8_set_10 (by decide) (fun _ => ?_) (fun n => absurd n c2)
      refine lv_iload_n hx hb dX8_set_20 rfl (lv_at hl 0 rfl) ?_
      refine lv_iconst (v := 5) hx hb dX8_set_21 (by decide) ?_
      rcases s_ite hf with ⟨c3, hf⟩ | ⟨c3, hf⟩
      · refine lv_icmp_ne (tgt := 32) hx hb dX8_set_22 (by decide) (fun n => absurd c3 n) (fun _ => ?_)
        cases hf
        have k : _ = r := k
        subst k
        refine lv_bipush (v := 9) hx hb dX8_set_25 (by decide) ?_
        refine lv_iload_n hx hb dX8_set_27 rfl (lv_at hl 1 rfl) ?_
        refine lv_iadd hx hb dX8_set_28 ?_
        refine lv_goto (tgt := 33) hx hb dX8_set_29 (by decide) ?_
        exact r_iret X I rfl rfl rfl hn dX8_set_33
      · refine lv_icmp_ne (tgt := 32) hx hb dX8_set_22 (by decide) (fun _ => ?_) (fun n => absurd n c3)
        cases hf
        have k : _ = r := k
        subst k
        refine lv_iload_n hx hb dX8_set_32 rfl (lv_at hl 0 rfl) ?_
        exact r_iret X I rfl rfl rfl hn dX8_set_33
  · refine lv_if_ge (tgt := 8) hx hb dX8_set_1 (by decide) (fun n => absurd n c1) (fun _ => ?_)
    cases hf
    have k : _ = r := k
    subst k
    refine lv_iload_n hx hb dX8_set_4 rfl (lv_at hl 0 rfl) ?_
    refine lv_goto (tgt := 33) hx hb dX8_set_5 (by decide) ?_
    exact r_iret X I rfl rfl rfl hn dX8_set_33
theorem v_X8_set {G : sG} {d : Nat} {vs0 : List Value} {σ0 : sS} {x : sL} {z : sZ Int32} {r : Int32 × sS} (hs : S_X8_set x = some z) (k : s_K G (d + 1) M_X8_set vs0 σ0 Y_X8_set e_I z r) : s_V G (d + 1) M_X8_set vs0 σ0 Y_X8_set x (e_I r) := by
  obtain ⟨pc, vs, σ⟩ := x
  unfold S_X8_set at hs
  dsimp only at hs
  rcases s_ite hs with ⟨c, hs⟩ | ⟨-, hs⟩
  · subst c
    unfold U_X8_set_0 at hs
    obtain ⟨a0, g0, hs⟩ := s_bind hs
    obtain ⟨a1, g1, hs⟩ := s_bind hs
    obtain ⟨u9, ge, hs⟩ := s_bind hs
    rw [g_i_to g0, g_i_to g1, g_e_to ge]
    exact v_X8_set_0 hs k
  cases hs
theorem t_X8_set {G : sG} {d : Nat} {v0 : Int32} {v1 : Int32} {σ : sS} {q : Int32 × sS} (h : F_X8_set v0 v1 σ = some q) : s_T G (d + 1) M_X8_set [.int v0, .int v1] σ (e_I q) := by
  unfold F_X8_set at h
  exact s_ofV rfl (by decide) (Nat.le_of_ble_eq_true rfl) rfl rfl (s_run_ind (V := fun x r => s_V G (d + 1) M_X8_set [.int v0, .int v1] σ Y_X8_set x (e_I r)) (fun x z r hs hk => v_X8_set hs (by cases z <;> exact hk)) h)
/-! X8_isPart -/
noncomputable def T_X8_isPart_0 (v0 : Nat) (v1 : Int32) (v2 : Int32) (v3 : Int32) (v4 : Int32) (v5 : Int32) (v6 : Int32) (v7 : Int32) (σ : sS) : Option (sZ Int32) :=
  if (v3 - v2) = (v7 - v6) then (some (.inl (16, [.ref v0, .int v1, .int v2, .int v3, .int v4, .int v5, .int v6, .int 1], σ)))
  else (some (.inl (16, [.ref v0, .int v1, .int v2, .int v3, .int v4, .int v5, .int v6, .int 0], σ)))
noncomputable def U_X8_isPart_0 (vs : List Value) (σ : sS) : Option (sZ Int32) := (g_r vs).bind fun a0 => (g_i a0.2).bind fun a1 => (g_i a1.2).bind fun a2 => (g_i a2.2).bind fun a3 => (g_i a3.2).bind fun a4 => (g_i a4.2).bind fun a5 => (g_i a5.2).bind fun a6 => (g_i a6.2).bind fun a7 => (g_e a7.2).bind fun _ => T_X8_isPart_0 a0.1 a1.1 a2.1 a3.1 a4.1 a5.1 a6.1 a7.1 σ
noncomputable def T_X8_isPart_16 (v0 : Nat) (v1 : Int32) (v2 : Int32) (v3 : Int32) (v4 : Int32) (v5 : Int32) (v6 : Int32) (w0 : Int32) (σ : sS) : Option (sZ Int32) :=
  some (.inl (21, [.ref v0, .int v1, .int v2, .int v3, .int v4, .int v5, .int v6, .int w0, .int 0], σ))
noncomputable def U_X8_isPart_16 (vs : List Value) (σ : sS) : Option (sZ Int32) := (g_r vs).bind fun a0 => (g_i a0.2).bind fun a1 => (g_i a1.2).bind fun a2 => (g_i a2.2).bind fun a3 => (g_i a3.2).bind fun a4 => (g_i a4.2).bind fun a5 => (g_i a5.2).bind fun a6 => (g_i a6.2).bind fun a7 => (g_e a7.2).bind fun _ => T_X8_isPart_16 a0.1 a1.1 a2.1 a3.1 a4.1 a5.1 a6.1 a7.1 σ
noncomputable def T_X8_isPart_21 (v0 : Nat) (v1 : Int32) (v2 : Int32) (v3 : Int32) (v4 : Int32) (v5 : Int32) (v6 : Int32) (v8 : Int32) (v9 : Int32) (σ : sS) : Option (sZ Int32) :=
  if v8 = 0 then (if (v8 = 0 ∨ v8 = 1) then (some (.inr (v8, σ))) else none)
  else (if (v3 - v2) ≤ v9 then (if (v8 = 0 ∨ v8 = 1) then (some (.inr (v8, σ))) else none)
  else ((F_X8_at v0 v1 (v2 + v9) σ).bind fun q1 =>
  (F_X8_set q1.1 v4 q1.2).bind fun q2 =>
  (F_X8_at v0 v5 (v6 + v9) q2.2).bind fun q3 =>
  if q2.1 = q3.1 then (some (.inl (67, [.ref v0, .int v1, .int v2, .int v3, .int v4, .int v5, .int v6, .int v9, .int 1], q3.2)))
  else (some (.inl (67, [.ref v0, .int v1, .int v2, .int v3, .int v4, .int v5, .int v6, .int v9, .int 0], q3.2)))))
noncomputable def U_X8_isPart_21 (vs : List Value) (σ : sS) : Option (sZ Int32) := (g_r vs).bind fun a0 => (g_i a0.2).bind fun a1 => (g_i a1.2).bind fun a2 => (g_i a2.2).bind fun a3 => (g_i a3.2).bind fun a4 => (g_i a4.2).bind fun a5 => (g_i a5.2).bind fun a6 => (g_i a6.2).bind fun a7 => (g_i a7.2).bind fun a8 => (g_e a8.2).bind fun _ => T_X8_isPart_21 a0.1 a1.1 a2.1 a3.1 a4.1 a5.1 a6.1 a7.1 a8.1 σ
noncomputable def T_X8_isPart_67 (v0 : Nat) (v1 : Int32) (v2 : Int32) (v3 : Int32) (v4 : Int32) (v5 : Int32) (v6 : Int32) (v9 : Int32) (w0 : Int32) (σ : sS) : Option (sZ Int32) :=
  some (.inl (21, [.ref v0, .int v1, .int v2, .int v3, .int v4, .int v5, .int v6, .int w0, .int (v9 + 1)], σ))
noncomputable def U_X8_isPart_67 (vs : List Value) (σ : sS) : Option (sZ Int32) := (g_r vs).bind fun a0 => (g_i a0.2).bind fun a1 => (g_i a1.2).bind fun a2 => (g_i a2.2).bind fun a3 => (g_i a3.2).bind fun a4 => (g_i a4.2).bind fun a5 => (g_i a5.2).bind fun a6 => (g_i a6.2).bind fun a7 => (g_i a7.2).bind fun a8 => (g_e a8.2).bind fun _ => T_X8_isPart_67 a0.1 a1.1 a2.1 a3.1 a4.1 a5.1 a6.1 a7.1 a8.1 σ
noncomputable def S_X8_isPart (x : sL) : Option (sZ Int32) := if x.1 = 0 then U_X8_isPart_0 x.2.1 x.2.2 else if x.1 = 16 then U_X8_isPart_16 x.2.1 x.2.2 else if x.1 = 21 then U_X8_isPart_21 x.2.1 x.2.2 else if x.1 = 67 then U_X8_isPart_67 x.2.1 x.2.2 else none
def Y_X8_isPart (pc : Nat) : List Nat := if pc = 0 then [0, 1, 2, 3, 4, 5, 6, 7] else if pc = 16 then [0, 1, 2, 3, 4, 5, 6] else if pc = 21 then [0, 1, 2, 3, 4, 5, 6, 8, 9] else if pc = 67 then [0, 1, 2, 3, 4, 5, 6, 9] else []
noncomputable def F_X8_isPart (v0 : Nat) (v1 : Int32) (v2 : Int32) (v3 : Int32) (v4 : Int32) (v5 : Int32) (v6 : Int32) (v7 : Int32) (σ : sS) : Option (Int32 × sS) := (s_is σ v0 8).bind fun _ => s_run S_X8_isPart (0, [.ref v0, .int v1, .int v2, .int v3, .int v4, .int v5, .int v6, .int v7], σ)
theorem l_X8_isPart_0 {v0 : Nat} {v1 : Int32} {v2 : Int32} {v3 : Int32} {v4 : Int32} {v5 : Int32} {v6 : Int32} {v7 : Int32} {σ : sS} {z : sZ Int32} (hf : T_X8_isPart_0 v0 v1 v2 v3 v4 v5 v6 v7 σ = some z) : s_lz σ z := by
  unfold T_X8_isPart_0 at hf
  rcases s_ite hf with ⟨-, hf⟩ | ⟨-, hf⟩
  · cases hf
    exact s_le.rf
  · cases hf
    exact s_le.rf
theorem l_X8_isPart_16 {v0 : Nat} {v1 : Int32} {v2 : Int32} {v3 : Int32} {v4 : Int32} {v5 : Int32} {v6 : Int32} {w0 : Int32} {σ : sS} {z : sZ Int32} (hf : T_X8_isPart_16 v0 v1 v2 v3 v4 v5 v6 w0 σ = some z) : s_lz σ z := by
  unfold T_X8_isPart_16 at hf
  cases hf
  exact s_le.rf
theorem l_X8_isPart_21 {v0 : Nat} {v1 : Int32} {v2 : Int32} {v3 : Int32} {v4 : Int32} {v5 : Int32} {v6 : Int32} {v8 : Int32} {v9 : Int32} {σ : sS} {z : sZ Int32} (hf : T_X8_isPart_21 v0 v1 v2 v3 v4 v5 v6 v8 v9 σ = some z) : s_lz σ z := by
  unfold T_X8_isPart_21 at hf
  rcases s_ite hf with ⟨-, hf⟩ | ⟨-, hf⟩
  · rcases s_ite hf with ⟨-, hf⟩ | ⟨-, hf⟩
    · cases hf
      exact s_le.rf
    · cases hf
  · rcases s_ite hf with ⟨-, hf⟩ | ⟨-, hf⟩
    · rcases s_ite hf with ⟨-, hf⟩ | ⟨-, hf⟩
      · cases hf
        exact s_le.rf
      · cases hf
    · obtain ⟨q1, hh, hf⟩ := s_bind hf
      refine s_lz.tr (l_X8_at hh) ?_
      obtain ⟨q2, hh, hf⟩ := s_bind hf
      refine s_lz.tr (l_X8_set hh) ?_
      obtain ⟨q3, hh, hf⟩ := s_bind hf
      refine s_lz.tr (l_X8_at hh) ?_
      rcases s_ite hf with ⟨-, hf⟩ | ⟨-, hf⟩
      · cases hf
        exact s_le.rf
      · cases hf
        exact s_le.rf
theorem l_X8_isPart_67 {v0 : Nat} {v1 : Int32} {v2 : Int32} {v3 : Int32} {v4 : Int32} {v5 : Int32} {v6 : Int32} {v9 : Int32} {w0 : Int32} {σ : sS} {z : sZ Int32} (hf : T_X8_isPart_67 v0 v1 v2 v3 v4 v5 v6 v9 w0 σ = some z) : s_lz σ z := by
  unfold T_X8_isPart_67 at hf
  cases hf
  exact s_le.rf
theorem l_X8_isPart_s {x : sL} {z : sZ Int32} (hs : S_X8_isPart x = some z) : s_lz x.2.2 z := by
  obtain ⟨pc, vs, σ⟩ := x
  unfold S_X8_isPart at hs
  dsimp only at hs ⊢
  rcases s_ite hs with ⟨c, hs⟩ | ⟨-, hs⟩
  · subst c
    unfold U_X8_isPart_0 at hs
    obtain ⟨a0, g0, hs⟩ := s_bind hs
    obtain ⟨a1, g1, hs⟩ := s_bind hs
    obtain ⟨a2, g2, hs⟩ := s_bind hs
    obtain ⟨a3, g3, hs⟩ := s_bind hs
    obtain ⟨a4, g4, hs⟩ := s_bind hs
    obtain ⟨a5, g5, hs⟩ := s_bind hs
    obtain ⟨a6, g6, hs⟩ := s_bind hs
    obtain ⟨a7, g7, hs⟩ := s_bind hs
    obtain ⟨u9, ge, hs⟩ := s_bind hs
    exact l_X8_isPart_0 hs
  rcases s_ite hs with ⟨c, hs⟩ | ⟨-, hs⟩
  · subst c
    unfold U_X8_isPart_16 at hs
    obtain ⟨a0, g0, hs⟩ := s_bind hs
    obtain ⟨a1, g1, hs⟩ := s_bind hs
    obtain ⟨a2, g2, hs⟩ := s_bind hs
    obtain ⟨a3, g3, hs⟩ := s_bind hs
    obtain ⟨a4, g4, hs⟩ := s_bind hs
    obtain ⟨a5, g5, hs⟩ := s_bind hs
    obtain ⟨a6, g6, hs⟩ := s_bind hs
    obtain ⟨a7, g7, hs⟩ := s_bind hs
    obtain ⟨u9, ge, hs⟩ := s_bind hs
    exact l_X8_isPart_16 hs
  rcases s_ite hs with ⟨c, hs⟩ | ⟨-, hs⟩
  · subst c
    unfold U_X8_isPart_21 at hs
    obtain ⟨a0, g0, hs⟩ := s_bind hs
    obtain ⟨a1, g1, hs⟩ := s_bind hs
    obtain ⟨a2, g2, hs⟩ := s_bind hs
    obtain ⟨a3, g3, hs⟩ := s_bind hs
    obtain ⟨a4, g4, hs⟩ := s_bind hs
    obtain ⟨a5, g5, hs⟩ := s_bind hs
    obtain ⟨a6, g6, hs⟩ := s_bind hs
    obtain ⟨a7, g7, hs⟩ := s_bind hs
    obtain ⟨a8, g8, hs⟩ := s_bind hs
    obtain ⟨u9, ge, hs⟩ := s_bind hs
    exact l_X8_isPart_21 hs
  rcases s_ite hs with ⟨c, hs⟩ | ⟨-, hs⟩
  · subst c
    unfold U_X8_isPart_67 at hs
    obtain ⟨a0, g0, hs⟩ := s_bind hs
    obtain ⟨a1, g1, hs⟩ := s_bind hs
    obtain ⟨a2, g2, hs⟩ := s_bind hs
    obtain ⟨a3, g3, hs⟩ := s_bind hs
    obtain ⟨a4, g4, hs⟩ := s_bind hs
    obtain ⟨a5, g5, hs⟩ := s_bind hs
    obtain ⟨a6, g6, hs⟩ := s_bind hs
    obtain ⟨a7, g7, hs⟩ := s_bind hs
    obtain ⟨a8, g8, hs⟩ := s_bind hs
    obtain ⟨u9, ge, hs⟩ := s_bind hs
    exact l_X8_isPart_67 hs
  cases hs
theorem l_X8_isPart {v0 : Nat} {v1 : Int32} {v2 : Int32} {v3 : Int32} {v4 : Int32} {v5 : Int32} {v6 : Int32} {v7 : Int32} {σ : sS} {q : Int32 × sS} (h : F_X8_isPart v0 v1 v2 v3 v4 v5 v6 v7 σ = some q) : s_le σ q.2 := by
  unfold F_X8_isPart at h
  obtain ⟨-, -, h⟩ := s_bind h
  exact s_run_ind (V := fun x r => s_le x.2.2 r.2) (fun x z r hs hk => by
    have h9 := l_X8_isPart_s hs
    cases z with
    | inl y => exact s_le.tr h9 hk
    | inr q => cases hk; exact h9) h
theorem b_X8_isPart {v0 : Nat} {v1 : Int32} {v2 : Int32} {v3 : Int32} {v4 : Int32} {v5 : Int32} {v6 : Int32} {v7 : Int32} {σ : sS} {q : Int32 × sS} (h : F_X8_isPart v0 v1 v2 v3 v4 v5 v6 v7 σ = some q) : ∃ fs, σ.1 v0 = some (.inr (8, fs)) := by
  unfold F_X8_isPart at h
  obtain ⟨u, hu, -⟩ := s_bind h
  exact s_is_to hu
set_option maxRecDepth 100000 in
set_option maxHeartbeats 4000000 in
theorem v_X8_isPart_0 {G : sG} {d : Nat} {vs0 : List Value} {σ0 : sS} {v0 : Nat} {v1 : Int32} {v2 : Int32} {v3 : Int32} {v4 : Int32} {v5 : Int32} {v6 : Int32} {v7 : Int32} {σ : sS} {z : sZ Int32} {r : Int32 × sS} (hf : T_X8_isPart_0 v0 v1 v2 v3 v4 v5 v6 v7 σ = some z) (k : s_K G (d + 2) M_X8_isPart vs0 σ0 Y_X8_isPart e_I z r) : s_V G (d + 2) M_X8_isPart vs0 σ0 Y_X8_isPart (0, [.ref v0, .int v1, .int v2, .int v3, .int v4, .int v5, .int v6, .int v7], σ) (e_I r) := by
  have le0 : s_le σ (e_I r).2 := s_lek hem_I (l_X8_isPart_0 hf) k
  refine ⟨le0, ?_⟩
  intro p e s m below meth c H locs cells slots ls X I hn1 hn2 hl
  have hn : cells + σ0.2.1 ≤ σ.2.1 ∧ slots + σ0.2.2.1 ≤ σ.2.2.1 := ⟨hn1, hn2⟩
  have hl : lv_has ls 10 [(0, .ref v0), (1, .int v1), (2, .int v2), (3, .int v3), (4, .int v4), (5, .int v5), (6, .int v6), (7, .int v7)] := hl
  have hx := X.1
  have hb : c.code = cX8_isPart := X.2.1
  have hown : s.vm.findClass RX8 = some m.cls := X.2.2.2.2.2.1
  have hts := X.2.2.2.2.2.2.1
  refine W.eq (g2 := F0 m 0 ls []) rfl ?_
  unfold T_X8_isPart_0 at hf
  refine lv_iload_n hx hb dX8_isPart_0 rfl (lv_at hl 3 rfl) ?_
  refine lv_iload_n hx hb dX8_isPart_1 rfl (lv_at hl 2 rfl) ?_
  refine lv_isub hx hb dX8_isPart_2 ?_
  refine lv_iload hx hb dX8_isPart_3 (lv_at hl 7 rfl) ?_
  refine lv_iload hx hb dX8_isPart_5 (lv_at hl 6 rfl) ?_
  refine lv_isub hx hb dX8_isPart_7 ?_
  rcases s_ite hf with ⟨c1, hf⟩ | ⟨c1, hf⟩
  · refine lv_icmp_ne (tgt := 15) hx hb dX8_isPart_8 (by decide) (fun n => absurd c1 n) (fun _ => ?_)
    cases hf
    have k : s_V G (d + 2) M_X8_isPart vs0 σ0 Y_X8_isPart (16, [.ref v0, .int v1, .int v2, .int v3, .int v4, .int v5, .int v6, .int 1], σ) (e_I r) := k
    refine lv_iconst (v := 1) hx hb dX8_isPart_11 (by decide) ?_
    refine lv_goto (tgt := 16) hx hb dX8_isPart_12 (by decide) ?_
    exact k.2 p e s m below meth c _ _ _ _ _ X I hn.1 hn.2 (lv_sub hl [0, 1, 2, 3, 4, 5, 6] rfl)
  · refine lv_icmp_ne (tgt := 15) hx hb dX8_isPart_8 (by decide) (fun _ => ?_) (fun n => absurd n c1)
    cases hf
    have k : s_V G (d + 2) M_X8_isPart vs0 σ0 Y_X8_isPart (16, [.ref v0, .int v1, .int v2, .int v3, .int v4, .int v5, .int v6, .int 0], σ) (e_I r) := k
    refine lv_iconst (v := 0) hx hb dX8_isPart_15 (by decide) ?_
    exact k.2 p e s m below meth c _ _ _ _ _ X I hn.1 hn.2 (lv_sub hl [0, 1, 2, 3, 4, 5, 6] rfl)
set_option maxRecDepth 100000 in
set_option maxHeartbeats 4000000 in
theorem v_X8_isPart_16 {G : sG} {d : Nat} {vs0 : List Value} {σ0 : sS} {v0 : Nat} {v1 : Int32} {v2 : Int32} {v3 : Int32} {v4 : Int32} {v5 : Int32} {v6 : Int32} {w0 : Int32} {σ : sS} {z : sZ Int32} {r : Int32 × sS} (hf : T_X8_isPart_16 v0 v1 v2 v3 v4 v5 v6 w0 σ = some z) (k : s_K G (d + 2) M_X8_isPart vs0 σ0 Y_X8_isPart e_I z r) : s_V G (d + 2) M_X8_isPart vs0 σ0 Y_X8_isPart (16, [.ref v0, .int v1, .int v2, .int v3, .int v4, .int v5, .int v6, .int w0], σ) (e_I r) := by
  have le0 : s_le σ (e_I r).2 := s_lek hem_I (l_X8_isPart_16 hf) k
  refine ⟨le0, ?_⟩
  intro p e s m below meth c H locs cells slots ls X I hn1 hn2 hl
  have hn : cells + σ0.2.1 ≤ σ.2.1 ∧ slots + σ0.2.2.1 ≤ σ.2.2.1 := ⟨hn1, hn2⟩
  have hl : lv_has ls 10 [(0, .ref v0), (1, .int v1), (2, .int v2), (3, .int v3), (4, .int v4), (5, .int v5), (6, .int v6)] := hl
  have hx := X.1
  have hb : c.code = cX8_isPart := X.2.1
  have hown : s.vm.findClass RX8 = some m.cls := X.2.2.2.2.2.1
  have hts := X.2.2.2.2.2.2.1
  refine W.eq (g2 := F0 m 16 ls [.int w0]) rfl ?_
  unfold T_X8_isPart_16 at hf
  cases hf
  have k : s_V G (d + 2) M_X8_isPart vs0 σ0 Y_X8_isPart (21, [.ref v0, .int v1, .int v2, .int v3, .int v4, .int v5, .int v6, .int w0, .int 0], σ) (e_I r) := k
  refine lv_istore (lv' := [(8, .int w0), (0, .ref v0), (1, .int v1), (2, .int v2), (3, .int v3), (4, .int v4), (5, .int v5), (6, .int v6)]) hx hb dX8_isPart_16 hl (by decide) rfl (fun ls hl => ?_)
  refine lv_iconst (v := 0) hx hb dX8_isPart_18 (by decide) ?_
  refine lv_istore (lv' := [(9, .int 0), (8, .int w0), (0, .ref v0), (1, .int v1), (2, .int v2), (3, .int v3), (4, .int v4), (5, .int v5), (6, .int v6)]) hx hb dX8_isPart_19 hl (by decide) rfl (fun ls hl => ?_)
  exact k.2 p e s m below meth c _ _ _ _ _ X I hn.1 hn.2 (lv_sub hl [2, 3, 4, 5, 6, 7, 8, 1, 0] rfl)
set_option maxRecDepth 100000 in
set_option maxHeartbeats 4000000 in
theorem v_X8_isPart_21 {G : sG} {d : Nat} {vs0 : List Value} {σ0 : sS} {v0 : Nat} {v1 : Int32} {v2 : Int32} {v3 : Int32} {v4 : Int32} {v5 : Int32} {v6 : Int32} {v8 : Int32} {v9 : Int32} {σ : sS} {z : sZ Int32} {r : Int32 × sS} (hf : T_X8_isPart_21 v0 v1 v2 v3 v4 v5 v6 v8 v9 σ = some z) (k : s_K G (d + 2) M_X8_isPart vs0 σ0 Y_X8_isPart e_I z r) : s_V G (d + 2) M_X8_isPart vs0 σ0 Y_X8_isPart (21, [.ref v0, .int v1, .int v2, .int v3, .int v4, .int v5, .int v6, .int v8, .int v9], σ) (e_I r) := by
  have le0 : s_le σ (e_I r).2 := s_lek hem_I (l_X8_isPart_21 hf) k
  refine ⟨le0, ?_⟩
  intro p e s m below meth c H locs cells slots ls X I hn1 hn2 hl
  have hn : cells + σ0.2.1 ≤ σ.2.1 ∧ slots + σ0.2.2.1 ≤ σ.2.2.1 := ⟨hn1, hn2⟩
  have hl : lv_has ls 10 [(0, .ref v0), (1, .int v1), (2, .int v2), (3, .int v3), (4, .int v4), (5, .int v5), (6, .int v6), (8, .int v8), (9, .int v9)] := hl
  have hx := X.1
  have hb : c.code = cX8_isPart := X.2.1
  have hown : s.vm.findClass RX8 = some m.cls := X.2.2.2.2.2.1
  have hts := X.2.2.2.2.2.2.1
  refine W.eq (g2 := F0 m 21 ls []) rfl ?_
  unfold T_X8_isPart_21 at hf
  refine lv_iload hx hb dX8_isPart_21 (lv_at hl 7 rfl) ?_
  rcases s_ite hf with ⟨c1, hf⟩ | ⟨c1, hf⟩
  · refine lv_if_eq (tgt := 75) hx hb dX8_isPart_23 (by decide) (fun _ => ?_) (fun n => absurd c1 n)
    refine lv_iload hx hb dX8_isPart_75 (lv_at hl 7 rfl) ?_
    rcases s_ite hf with ⟨hchk, hf⟩ | ⟨-, hf⟩
    · cases hf
      have k : _ = r := k
      subst k
      exact r_iret X I rfl (s_nb hchk) rfl hn dX8_isPart_77
    · cases hf
  · refine lv_if_eq (tgt := 75) hx hb dX8_isPart_23 (by decide) (fun n => absurd n c1) (fun _ => ?_)
    refine lv_iload hx hb dX8_isPart_26 (lv_at hl 8 rfl) ?_
    refine lv_iload_n hx hb dX8_isPart_28 rfl (lv_at hl 3 rfl) ?_
    refine lv_iload_n hx hb dX8_isPart_29 rfl (lv_at hl 2 rfl) ?_
    refine lv_isub hx hb dX8_isPart_30 ?_
    rcases s_ite hf with ⟨c2, hf⟩ | ⟨c2, hf⟩
    · refine lv_icmp_ge (tgt := 75) hx hb dX8_isPart_31 (by decide) (fun _ => ?_) (fun n => absurd c2 n)
      refine lv_iload hx hb dX8_isPart_75 (lv_at hl 7 rfl) ?_
      rcases s_ite hf with ⟨hchk, hf⟩ | ⟨-, hf⟩
      · cases hf
        have k : _ = r := k
        subst k
        exact r_iret X I rfl (s_nb hchk) rfl hn dX8_isPart_77
      · cases hf
    · refine lv_icmp_ge (tgt := 75) hx hb dX8_isPart_31 (by decide) (fun n => absurd n c2) (fun _ => ?_)
      obtain ⟨q1, h3, hf⟩ := s_bind hf
      obtain ⟨q2, h4, hf⟩ := s_bind hf
      obtain ⟨q3, h5, hf⟩ := s_bind hf
      have le6 : s_le q3.2 (e_I r).2 := by
        refine s_lek hem_I ?_ k
        rcases s_ite hf with ⟨-, hf⟩ | ⟨-, hf⟩
        · cases hf
          exact s_le.rf
        · cases hf
          exact s_le.rf
      have le7 := s_le.tr (l_X8_at h5) le6
      have le8 := s_le.tr (l_X8_set h4) le7
      refine lv_aload_n hx hb dX8_isPart_34 rfl (lv_at hl 0 rfl) ?_
      refine lv_iload_n hx hb dX8_isPart_35 rfl (lv_at hl 1 rfl) ?_
      refine lv_iload_n hx hb dX8_isPart_36 rfl (lv_at hl 2 rfl) ?_
      refine lv_iload hx hb dX8_isPart_37 (lv_at hl 8 rfl) ?_
      refine lv_iadd hx hb dX8_isPart_39 ?_
      refine r_callV (Y := M_X8_at) (v := some (.int q1.1)) X I w_1901 my_X8_at (by omega) (t_X8_at (G := G) (d := d + 0) h3) (b_X8_at h3) rfl rfl hl.1 rfl (Nat.le_of_ble_eq_true rfl) hn le8 dX8_isPart_40 (fun H locs cells slots I hn1 hn2 => ?_)
      have I : s_I G q1.2 s H locs := I
      have hn : cells + σ0.2.1 ≤ q1.2.2.1 ∧ slots + σ0.2.2.1 ≤ q1.2.2.2.1 := ⟨hn1, hn2⟩
      refine lv_iload hx hb dX8_isPart_43 (lv_at hl 4 rfl) ?_
      refine r_callS (Y := M_X8_set) (v := some (.int q2.1)) X I w_1932 my_X8_set (by omega) (t_X8_set (G := G) (d := d + 0) h4) rfl rfl hl.1 rfl (Nat.le_of_ble_eq_true rfl) hn le7 dX8_isPart_45 (fun H locs cells slots I hn1 hn2 => ?_)
      have I : s_I G q2.2 s H locs := I
      have hn : cells + σ0.2.1 ≤ q2.2.2.1 ∧ slots + σ0.2.2.1 ≤ q2.2.2.2.1 := ⟨hn1, hn2⟩
      refine lv_aload_n hx hb dX8_isPart_48 rfl (lv_at hl 0 rfl) ?_
      refine lv_iload hx hb dX8_isPart_49 (lv_at hl 5 rfl) ?_
      refine lv_iload hx hb dX8_isPart_51 (lv_at hl 6 rfl) ?_
      refine lv_iload hx hb dX8_isPart_53 (lv_at hl 8 rfl) ?_
      refine lv_iadd hx hb dX8_isPart_55 ?_
      refine r_callV (Y := M_X8_at) (v := some (.int q3.1)) X I w_1901 my_X8_at (by omega) (t_X8_at (G := G) (d := d + 0) h5) (b_X8_at h5) rfl rfl hl.1 rfl (Nat.le_of_ble_eq_true rfl) hn le6 dX8_isPart_56 (fun H locs cells slots I hn1 hn2 => ?_)
      have I : s_I G q3.2 s H locs := I
      have hn : cells + σ0.2.1 ≤ q3.2.2.1 ∧ slots + σ0.2.2.1 ≤ q3.2.2.2.1 := ⟨hn1, hn2⟩
      rcases s_ite hf with ⟨c9, hf⟩ | ⟨c9, hf⟩
      · refine lv_icmp_ne (tgt := 66) hx hb dX8_isPart_59 (by decide) (fun n => absurd c9 n) (fun _ => ?_)
        cases hf
        have k : s_V G (d + 2) M_X8_isPart vs0 σ0 Y_X8_isPart (67, [.ref v0, .int v1, .int v2, .int v3, .int v4, .int v5, .int v6, .int v9, .int 1], q3.2) (e_I r) := k
        refine lv_iconst (v := 1) hx hb dX8_isPart_62 (by decide) ?_
        refine lv_goto (tgt := 67) hx hb dX8_isPart_63 (by decide) ?_
        exact k.2 p e s m below meth c _ _ _ _ _ X I hn.1 hn.2 (lv_sub hl [0, 1, 2, 3, 4, 5, 6, 8] rfl)
      · refine lv_icmp_ne (tgt := 66) hx hb dX8_isPart_59 (by decide) (fun _ => ?_) (fun n => absurd n c9)
        cases hf
        have k : s_V G (d + 2) M_X8_isPart vs0 σ0 Y_X8_isPart (67, [.ref v0, .int v1, .int v2, .int v3, .int v4, .int v5, .int v6, .int v9, .int 0], q3.2) (e_I r) := k
        refine lv_iconst (v := 0) hx hb dX8_isPart_66 (by decide) ?_
        exact k.2 p e s m below meth c _ _ _ _ _ X I hn.1 hn.2 (lv_sub hl [0, 1, 2, 3, 4, 5, 6, 8] rfl)
set_option maxRecDepth 100000 in
set_option maxHeartbeats 4000000 in
theorem v_X8_isPart_67 {G : sG} {d : Nat} {vs0 : List Value} {σ0 : sS} {v0 : Nat} {v1 : Int32} {v2 : Int32} {v3 : Int32} {v4 : Int32} {v5 : Int32} {v6 : Int32} {v9 : Int32} {w0 : Int32} {σ : sS} {z : sZ Int32} {r : Int32 × sS} (hf : T_X8_isPart_67 v0 v1 v2 v3 v4 v5 v6 v9 w0 σ = some z) (k : s_K G (d + 2) M_X8_isPart vs0 σ0 Y_X8_isPart e_I z r) : s_V G (d + 2) M_X8_isPart vs0 σ0 Y_X8_isPart (67, [.ref v0, .int v1, .int v2, .int v3, .int v4, .int v5, .int v6, .int v9, .int w0], σ) (e_I r) := by
  have le0 : s_le σ (e_I r).2 := s_lek hem_I (l_X8_isPart_67 hf) k
  refine ⟨le0, ?_⟩
  intro p e s m below meth c H locs cells slots ls X I hn1 hn2 hl
  have hn : cells + σ0.2.1 ≤ σ.2.1 ∧ slots + σ0.2.2.1 ≤ σ.2.2.1 := ⟨hn1, hn2⟩
  have hl : lv_has ls 10 [(0, .ref v0), (1, .int v1), (2, .int v2), (3, .int v3), (4, .int v4), (5, .int v5), (6, .int v6), (9, .int v9)] := hl
  have hx := X.1
  have hb : c.code = cX8_isPart := X.2.1
  have hown : s.vm.findClass RX8 = some m.cls := X.2.2.2.2.2.1
  have hts := X.2.2.2.2.2.2.1
  refine W.eq (g2 := F0 m 67 ls [.int w0]) rfl ?_
  unfold T_X8_isPart_67 at hf
  cases hf
  have k : s_V G (d + 2) M_X8_isPart vs0 σ0 Y_X8_isPart (21, [.ref v0, .int v1, .int v2, .int v3, .int v4, .int v5, .int v6, .int w0, .int (v9 + 1)], σ) (e_I r) := k
  refine lv_istore (lv' := [(8, .int w0), (0, .ref v0), (1, .int v1), (2, .int v2), (3, .int v3), (4, .int v4), (5, .int v5), (6, .int v6), (9, .int v9)]) hx hb dX8_isPart_67 hl (by decide) rfl (fun ls hl => ?_)
  refine lv_iinc (v := (v9 + 1)) (lv' := [(9, .int (v9 + 1)), (8, .int w0), (0, .ref v0), (1, .int v1), (2, .int v2), (3, .int v3), (4, .int v4), (5, .int v5), (6, .int v6)]) hx hb dX8_isPart_69 hl (k := 8) rfl rfl (by decide) rfl (fun ls hl => ?_)
  refine lv_goto (tgt := 21) hx hb dX8_isPart_72 (by decide) ?_
  exact k.2 p e s m below meth c _ _ _ _ _ X I hn.1 hn.2 (lv_sub hl [2, 3, 4, 5, 6, 7, 8, 1, 0] rfl)
theorem v_X8_isPart {G : sG} {d : Nat} {vs0 : List Value} {σ0 : sS} {x : sL} {z : sZ Int32} {r : Int32 × sS} (hs : S_X8_isPart x = some z) (k : s_K G (d + 2) M_X8_isPart vs0 σ0 Y_X8_isPart e_I z r) : s_V G (d + 2) M_X8_isPart vs0 σ0 Y_X8_isPart x (e_I r) := by
  obtain ⟨pc, vs, σ⟩ := x
  unfold S_X8_isPart at hs
  dsimp only at hs
  rcases s_ite hs with ⟨c, hs⟩ | ⟨-, hs⟩
  · subst c
    unfold U_X8_isPart_0 at hs
    obtain ⟨a0, g0, hs⟩ := s_bind hs
    obtain ⟨a1, g1, hs⟩ := s_bind hs
    obtain ⟨a2, g2, hs⟩ := s_bind hs
    obtain ⟨a3, g3, hs⟩ := s_bind hs
    obtain ⟨a4, g4, hs⟩ := s_bind hs
    obtain ⟨a5, g5, hs⟩ := s_bind hs
    obtain ⟨a6, g6, hs⟩ := s_bind hs
    obtain ⟨a7, g7, hs⟩ := s_bind hs
    obtain ⟨u9, ge, hs⟩ := s_bind hs
    rw [g_r_to g0, g_i_to g1, g_i_to g2, g_i_to g3, g_i_to g4, g_i_to g5, g_i_to g6, g_i_to g7, g_e_to ge]
    exact v_X8_isPart_0 hs k
  rcases s_ite hs with ⟨c, hs⟩ | ⟨-, hs⟩
  · subst c
    unfold U_X8_isPart_16 at hs
    obtain ⟨a0, g0, hs⟩ := s_bind hs
    obtain ⟨a1, g1, hs⟩ := s_bind hs
    obtain ⟨a2, g2, hs⟩ := s_bind hs
    obtain ⟨a3, g3, hs⟩ := s_bind hs
    obtain ⟨a4, g4, hs⟩ := s_bind hs
    obtain ⟨a5, g5, hs⟩ := s_bind hs
    obtain ⟨a6, g6, hs⟩ := s_bind hs
    obtain ⟨a7, g7, hs⟩ := s_bind hs
    obtain ⟨u9, ge, hs⟩ := s_bind hs
    rw [g_r_to g0, g_i_to g1, g_i_to g2, g_i_to g3, g_i_to g4, g_i_to g5, g_i_to g6, g_i_to g7, g_e_to ge]
    exact v_X8_isPart_16 hs k
  rcases s_ite hs with ⟨c, hs⟩ | ⟨-, hs⟩
  · subst c
    unfold U_X8_isPart_21 at hs
    obtain ⟨a0, g0, hs⟩ := s_bind hs
    obtain ⟨a1, g1, hs⟩ := s_bind hs
    obtain ⟨a2, g2, hs⟩ := s_bind hs
    obtain ⟨a3, g3, hs⟩ := s_bind hs
    obtain ⟨a4, g4, hs⟩ := s_bind hs
    obtain ⟨a5, g5, hs⟩ := s_bind hs
    obtain ⟨a6, g6, hs⟩ := s_bind hs
    obtain ⟨a7, g7, hs⟩ := s_bind hs
    obtain ⟨a8, g8, hs⟩ := s_bind hs
    obtain ⟨u9, ge, hs⟩ := s_bind hs
    rw [g_r_to g0, g_i_to g1, g_i_to g2, g_i_to g3, g_i_to g4, g_i_to g5, g_i_to g6, g_i_to g7, g_i_to g8, g_e_to ge]
    exact v_X8_isPart_21 hs k
  rcases s_ite hs with ⟨c, hs⟩ | ⟨-, hs⟩
  · subst c
    unfold U_X8_isPart_67 at hs
    obtain ⟨a0, g0, hs⟩ := s_bind hs
    obtain ⟨a1, g1, hs⟩ := s_bind hs
    obtain ⟨a2, g2, hs⟩ := s_bind hs
    obtain ⟨a3, g3, hs⟩ := s_bind hs
    obtain ⟨a4, g4, hs⟩ := s_bind hs
    obtain ⟨a5, g5, hs⟩ := s_bind hs
    obtain ⟨a6, g6, hs⟩ := s_bind hs
    obtain ⟨a7, g7, hs⟩ := s_bind hs
    obtain ⟨a8, g8, hs⟩ := s_bind hs
    obtain ⟨u9, ge, hs⟩ := s_bind hs
    rw [g_r_to g0, g_i_to g1, g_i_to g2, g_i_to g3, g_i_to g4, g_i_to g5, g_i_to g6, g_i_to g7, g_i_to g8, g_e_to ge]
    exact v_X8_isPart_67 hs k
  cases hs
theorem t_X8_isPart {G : sG} {d : Nat} {v0 : Nat} {v1 : Int32} {v2 : Int32} {v3 : Int32} {v4 : Int32} {v5 : Int32} {v6 : Int32} {v7 : Int32} {σ : sS} {q : Int32 × sS} (h : F_X8_isPart v0 v1 v2 v3 v4 v5 v6 v7 σ = some q) : s_T G (d + 2) M_X8_isPart [.ref v0, .int v1, .int v2, .int v3, .int v4, .int v5, .int v6, .int v7] σ (e_I q) := by
  unfold F_X8_isPart at h
  obtain ⟨-, -, h⟩ := s_bind h
  exact s_ofV rfl (by decide) (Nat.le_of_ble_eq_true rfl) rfl rfl (s_run_ind (V := fun x r => s_V G (d + 2) M_X8_isPart [.ref v0, .int v1, .int v2, .int v3, .int v4, .int v5, .int v6, .int v7] σ Y_X8_isPart x (e_I r)) (fun x z r hs hk => v_X8_isPart hs (by cases z <;> exact hk)) h)
/-! X8_isSame -/
noncomputable def T_X8_isSame_0 (v0 : Nat) (v1 : Int32) (v2 : Int32) (σ : sS) : Option (sZ Int32) :=
  (s_fr σ v0 8 4).bind fun x1 =>
  (s_ai σ x1 v1).bind fun x2 =>
  (s_fr σ v0 8 4).bind fun x3 =>
  (s_ai σ x3 v2).bind fun x4 =>
  (F_X8_isPart v0 v1 0 x2 (-1) v2 0 x4 σ).bind fun q5 =>
  if (q5.1 = 0 ∨ q5.1 = 1) then (some (.inr (q5.1, q5.2))) else none
noncomputable def U_X8_isSame_0 (vs : List Value) (σ : sS) : Option (sZ Int32) := (g_r vs).bind fun a0 => (g_i a0.2).bind fun a1 => (g_i a1.2).bind fun a2 => (g_e a2.2).bind fun _ => T_X8_isSame_0 a0.1 a1.1 a2.1 σ
noncomputable def S_X8_isSame (x : sL) : Option (sZ Int32) := if x.1 = 0 then U_X8_isSame_0 x.2.1 x.2.2 else none
def Y_X8_isSame (pc : Nat) : List Nat := if pc = 0 then [0, 1, 2] else []
noncomputable def F_X8_isSame (v0 : Nat) (v1 : Int32) (v2 : Int32) (σ : sS) : Option (Int32 × sS) := (s_is σ v0 8).bind fun _ => s_run S_X8_isSame (0, [.ref v0, .int v1, .int v2], σ)
theorem l_X8_isSame_0 {v0 : Nat} {v1 : Int32} {v2 : Int32} {σ : sS} {z : sZ Int32} (hf : T_X8_isSame_0 v0 v1 v2 σ = some z) : s_lz σ z := by
  unfold T_X8_isSame_0 at hf
  obtain ⟨x1, -, hf⟩ := s_bind hf
  obtain ⟨x2, -, hf⟩ := s_bind hf
  obtain ⟨x3, -, hf⟩ := s_bind hf
  obtain ⟨x4, -, hf⟩ := s_bind hf
  obtain ⟨q5, hh, hf⟩ := s_bind hf
  refine s_lz.tr (l_X8_isPart hh) ?_
  rcases s_ite hf with ⟨-, hf⟩ | ⟨-, hf⟩
  · cases hf
    exact s_le.rf
  · cases hf
theorem l_X8_isSame_s {x : sL} {z : sZ Int32} (hs : S_X8_isSame x = some z) : s_lz x.2.2 z := by
  obtain ⟨pc, vs, σ⟩ := x
  unfold S_X8_isSame at hs
  dsimp only at hs ⊢
  rcases s_ite hs with ⟨c, hs⟩ | ⟨-, hs⟩
  · subst c
    unfold U_X8_isSame_0 at hs
    obtain ⟨a0, g0, hs⟩ := s_bind hs
    obtain ⟨a1, g1, hs⟩ := s_bind hs
    obtain ⟨a2, g2, hs⟩ := s_bind hs
    obtain ⟨u9, ge, hs⟩ := s_bind hs
    exact l_X8_isSame_0 hs
  cases hs
theorem l_X8_isSame {v0 : Nat} {v1 : Int32} {v2 : Int32} {σ : sS} {q : Int32 × sS} (h : F_X8_isSame v0 v1 v2 σ = some q) : s_le σ q.2 := by
  unfold F_X8_isSame at h
  obtain ⟨-, -, h⟩ := s_bind h
  exact s_run_ind (V := fun x r => s_le x.2.2 r.2) (fun x z r hs hk => by
    have h9 := l_X8_isSame_s hs
    cases z with
    | inl y => exact s_le.tr h9 hk
    | inr q => cases hk; exact h9) h
theorem b_X8_isSame {v0 : Nat} {v1 : Int32} {v2 : Int32} {σ : sS} {q : Int32 × sS} (h : F_X8_isSame v0 v1 v2 σ = some q) : ∃ fs, σ.1 v0 = some (.inr (8, fs)) := by
  unfold F_X8_isSame at h
  obtain ⟨u, hu, -⟩ := s_bind h
  exact s_is_to hu
set_option maxRecDepth 100000 in
set_option maxHeartbeats 4000000 in
theorem v_X8_isSame_0 {G : sG} {d : Nat} {vs0 : List Value} {σ0 : sS} {v0 : Nat} {v1 : Int32} {v2 : Int32} {σ : sS} {z : sZ Int32} {r : Int32 × sS} (hf : T_X8_isSame_0 v0 v1 v2 σ = some z) (k : s_K G (d + 3) M_X8_isSame vs0 σ0 Y_X8_isSame e_I z r) : s_V G (d + 3) M_X8_isSame vs0 σ0 Y_X8_isSame (0, [.ref v0, .int v1, .int v2], σ) (e_I r) := by
  have le0 : s_le σ (e_I r).2 := s_lek hem_I (l_X8_isSame_0 hf) k
  refine ⟨le0, ?_⟩
  intro p e s m below meth c H locs cells slots ls X I hn1 hn2 hl
  have hn : cells + σ0.2.1 ≤ σ.2.1 ∧ slots + σ0.2.2.1 ≤ σ.2.2.1 := ⟨hn1, hn2⟩
  have hl : lv_has ls 3 [(0, .ref v0), (1, .int v1), (2, .int v2)] := hl
  have hx := X.1
  have hb : c.code = cX8_isSame := X.2.1
  have hown : s.vm.findClass RX8 = some m.cls := X.2.2.2.2.2.1
  have hts := X.2.2.2.2.2.2.1
  refine W.eq (g2 := F0 m 0 ls []) rfl ?_
  unfold T_X8_isSame_0 at hf
  obtain ⟨x1, h1, hf⟩ := s_bind hf
  obtain ⟨x2, h2, hf⟩ := s_bind hf
  obtain ⟨x3, h3, hf⟩ := s_bind hf
  obtain ⟨x4, h4, hf⟩ := s_bind hf
  obtain ⟨q5, h5, hf⟩ := s_bind hf
  have le6 : s_le q5.2 (e_I r).2 := by
    refine s_lek hem_I ?_ k
    rcases s_ite hf with ⟨-, hf⟩ | ⟨-, hf⟩
    · cases hf
      exact s_le.rf
    · cases hf
  refine lv_aload_n hx hb dX8_isSame_0 rfl (lv_at hl 0 rfl) ?_
  refine lv_iload_n hx hb dX8_isSame_1 rfl (lv_at hl 1 rfl) ?_
  refine lv_iconst (v := 0) hx hb dX8_isSame_2 (by decide) ?_
  refine lv_aload_n hx hb dX8_isSame_3 rfl (lv_at hl 0 rfl) ?_
  refine r_gr X I fl_X8_20 h1 dX8_isSame_4 ?_
  refine lv_iload_n hx hb dX8_isSame_7 rfl (lv_at hl 1 rfl) ?_
  refine r_iald X I h2 dX8_isSame_8 ?_
  refine lv_iconst (v := (-1)) hx hb dX8_isSame_9 (by decide) ?_
  refine lv_iload_n hx hb dX8_isSame_10 rfl (lv_at hl 2 rfl) ?_
  refine lv_iconst (v := 0) hx hb dX8_isSame_11 (by decide) ?_
  refine lv_aload_n hx hb dX8_isSame_12 rfl (lv_at hl 0 rfl) ?_
  refine r_gr X I fl_X8_20 h3 dX8_isSame_13 ?_
  refine lv_iload_n hx hb dX8_isSame_16 rfl (lv_at hl 2 rfl) ?_
  refine r_iald X I h4 dX8_isSame_17 ?_
  refine r_callV (Y := M_X8_isPart) (v := some (.int q5.1)) X I w_1928 my_X8_isPart (by omega) (t_X8_isPart (G := G) (d := d + 0) h5) (b_X8_isPart h5) rfl rfl hl.1 rfl (Nat.le_of_ble_eq_true rfl) hn le6 dX8_isSame_18 (fun H locs cells slots I hn1 hn2 => ?_)
  have I : s_I G q5.2 s H locs := I
  have hn : cells + σ0.2.1 ≤ q5.2.2.1 ∧ slots + σ0.2.2.1 ≤ q5.2.2.2.1 := ⟨hn1, hn2⟩
  rcases s_ite hf with ⟨hchk, hf⟩ | ⟨-, hf⟩
  · cases hf
    have k : _ = r := k
    subst k
    exact r_iret X I rfl (s_nb hchk) rfl hn dX8_isSame_21
  · cases hf
theorem v_X8_isSame {G : sG} {d : Nat} {vs0 : List Value} {σ0 : sS} {x : sL} {z : sZ Int32} {r : Int32 × sS} (hs : S_X8_isSame x = some z) (k : s_K G (d + 3) M_X8_isSame vs0 σ0 Y_X8_isSame e_I z r) : s_V G (d + 3) M_X8_isSame vs0 σ0 Y_X8_isSame x (e_I r) := by
  obtain ⟨pc, vs, σ⟩ := x
  unfold S_X8_isSame at hs
  dsimp only at hs
  rcases s_ite hs with ⟨c, hs⟩ | ⟨-, hs⟩
  · subst c
    unfold U_X8_isSame_0 at hs
    obtain ⟨a0, g0, hs⟩ := s_bind hs
    obtain ⟨a1, g1, hs⟩ := s_bind hs
    obtain ⟨a2, g2, hs⟩ := s_bind hs
    obtain ⟨u9, ge, hs⟩ := s_bind hs
    rw [g_r_to g0, g_i_to g1, g_i_to g2, g_e_to ge]
    exact v_X8_isSame_0 hs k
  cases hs
theorem t_X8_isSame {G : sG} {d : Nat} {v0 : Nat} {v1 : Int32} {v2 : Int32} {σ : sS} {q : Int32 × sS} (h : F_X8_isSame v0 v1 v2 σ = some q) : s_T G (d + 3) M_X8_isSame [.ref v0, .int v1, .int v2] σ (e_I q) := by
  unfold F_X8_isSame at h
  obtain ⟨-, -, h⟩ := s_bind h
  exact s_ofV rfl (by decide) (Nat.le_of_ble_eq_true rfl) rfl rfl (s_run_ind (V := fun x r => s_V G (d + 3) M_X8_isSame [.ref v0, .int v1, .int v2] σ Y_X8_isSame x (e_I r)) (fun x z r hs hk => v_X8_isSame hs (by cases z <;> exact hk)) h)
/-! X8_same -/
noncomputable def T_X8_same_0 (v0 : Nat) (v1 : Int32) (v2 : Int32) (σ : sS) : Option (sZ Int32) :=
  (s_pf σ v0 8 0 (.int 0)).bind fun σ1 =>
  (F_X8_noFormula v0 v1 σ1).bind fun q2 =>
  if q2.1 = 0 then ((F_X8_noFormula v0 v2 q2.2).bind fun q3 =>
  if q3.1 = 0 then (some (.inl (27, [.ref v0, .int v1, .int v2, .int 0, .ref v0], q3.2)))
  else (some (.inl (22, [.ref v0, .int v1, .int v2, .ref v0], q3.2))))
  else (some (.inl (22, [.ref v0, .int v1, .int v2, .ref v0], q2.2)))
noncomputable def U_X8_same_0 (vs : List Value) (σ : sS) : Option (sZ Int32) := (g_r vs).bind fun a0 => (g_i a0.2).bind fun a1 => (g_i a1.2).bind fun a2 => (g_e a2.2).bind fun _ => T_X8_same_0 a0.1 a1.1 a2.1 σ
noncomputable def T_X8_same_22 (v0 : Nat) (v1 : Int32) (v2 : Int32) (w0 : Nat) (σ : sS) : Option (sZ Int32) :=
  some (.inl (27, [.ref v0, .int v1, .int v2, .int 1, .ref w0], σ))
noncomputable def U_X8_same_22 (vs : List Value) (σ : sS) : Option (sZ Int32) := (g_r vs).bind fun a0 => (g_i a0.2).bind fun a1 => (g_i a1.2).bind fun a2 => (g_r a2.2).bind fun a3 => (g_e a3.2).bind fun _ => T_X8_same_22 a0.1 a1.1 a2.1 a3.1 σ
noncomputable def T_X8_same_27 (v0 : Nat) (v1 : Int32) (v2 : Int32) (w0 : Int32) (w1 : Nat) (σ : sS) : Option (sZ Int32) :=
  (F_X8_throwsIf w1 w0 1 σ).bind fun q1 =>
  if q1.1 = 0 then ((F_X8_isSame v0 v1 v2 q1.2).bind fun q2 =>
  if q2.1 = 0 then (some (.inr (0, q2.2)))
  else (some (.inr (1, q2.2))))
  else (some (.inr (0, q1.2)))
noncomputable def U_X8_same_27 (vs : List Value) (σ : sS) : Option (sZ Int32) := (g_r vs).bind fun a0 => (g_i a0.2).bind fun a1 => (g_i a1.2).bind fun a2 => (g_i a2.2).bind fun a3 => (g_r a3.2).bind fun a4 => (g_e a4.2).bind fun _ => T_X8_same_27 a0.1 a1.1 a2.1 a3.1 a4.1 σ
noncomputable def S_X8_same (x : sL) : Option (sZ Int32) := if x.1 = 0 then U_X8_same_0 x.2.1 x.2.2 else if x.1 = 22 then U_X8_same_22 x.2.1 x.2.2 else if x.1 = 27 then U_X8_same_27 x.2.1 x.2.2 else none
def Y_X8_same (pc : Nat) : List Nat := if pc = 0 then [0, 1, 2] else if pc = 22 then [0, 1, 2] else if pc = 27 then [0, 1, 2] else []
noncomputable def F_X8_same (v0 : Nat) (v1 : Int32) (v2 : Int32) (σ : sS) : Option (Int32 × sS) := (s_is σ v0 8).bind fun _ => s_run S_X8_same (0, [.ref v0, .int v1, .int v2], σ)
theorem l_X8_same_0 {v0 : Nat} {v1 : Int32} {v2 : Int32} {σ : sS} {z : sZ Int32} (hf : T_X8_same_0 v0 v1 v2 σ = some z) : s_lz σ z := by
  unfold T_X8_same_0 at hf
  obtain ⟨σ1, hh, hf⟩ := s_bind hf
  refine s_lz.tr (s_le2 (s_pf_2 hh)) ?_
  obtain ⟨q2, hh, hf⟩ := s_bind hf
  refine s_lz.tr (l_X8_noFormula hh) ?_
  rcases s_ite hf with ⟨-, hf⟩ | ⟨-, hf⟩
  · obtain ⟨q3, hh, hf⟩ := s_bind hf
    refine s_lz.tr (l_X8_noFormula hh) ?_
    rcases s_ite hf with ⟨-, hf⟩ | ⟨-, hf⟩
    · cases hf
      exact s_le.rf
    · cases hf
      exact s_le.rf
  · cases hf
    exact s_le.rf
theorem l_X8_same_22 {v0 : Nat} {v1 : Int32} {v2 : Int32} {w0 : Nat} {σ : sS} {z : sZ Int32} (hf : T_X8_same_22 v0 v1 v2 w0 σ = some z) : s_lz σ z := by
  unfold T_X8_same_22 at hf
  cases hf
  exact s_le.rf
theorem l_X8_same_27 {v0 : Nat} {v1 : Int32} {v2 : Int32} {w0 : Int32} {w1 : Nat} {σ : sS} {z : sZ Int32} (hf : T_X8_same_27 v0 v1 v2 w0 w1 σ = some z) : s_lz σ z := by
  unfold T_X8_same_27 at hf
  obtain ⟨q1, hh, hf⟩ := s_bind hf
  refine s_lz.tr (l_X8_throwsIf hh) ?_
  rcases s_ite hf with ⟨-, hf⟩ | ⟨-, hf⟩
  · obtain ⟨q2, hh, hf⟩ := s_bind hf
    refine s_lz.tr (l_X8_isSame hh) ?_
    rcases s_ite hf with ⟨-, hf⟩ | ⟨-, hf⟩
    · cases hf
      exact s_le.rf
    · cases hf
      exact s_le.rf
  · cases hf
    exact s_le.rf
theorem l_X8_same_s {x : sL} {z : sZ Int32} (hs : S_X8_same x = some z) : s_lz x.2.2 z := by
  obtain ⟨pc, vs, σ⟩ := x
  unfold S_X8_same at hs
  dsimp only at hs ⊢
  rcases s_ite hs with ⟨c, hs⟩ | ⟨-, hs⟩
  · subst c
    unfold U_X8_same_0 at hs
    obtain ⟨a0, g0, hs⟩ := s_bind hs
    obtain ⟨a1, g1, hs⟩ := s_bind hs
    obtain ⟨a2, g2, hs⟩ := s_bind hs
    obtain ⟨u9, ge, hs⟩ := s_bind hs
    exact l_X8_same_0 hs
  rcases s_ite hs with ⟨c, hs⟩ | ⟨-, hs⟩
  · subst c
    unfold U_X8_same_22 at hs
    obtain ⟨a0, g0, hs⟩ := s_bind hs
    obtain ⟨a1, g1, hs⟩ := s_bind hs
    obtain ⟨a2, g2, hs⟩ := s_bind hs
    obtain ⟨a3, g3, hs⟩ := s_bind hs
    obtain ⟨u9, ge, hs⟩ := s_bind hs
    exact l_X8_same_22 hs
  rcases s_ite hs with ⟨c, hs⟩ | ⟨-, hs⟩
  · subst c
    unfold U_X8_same_27 at hs
    obtain ⟨a0, g0, hs⟩ := s_bind hs
    obtain ⟨a1, g1, hs⟩ := s_bind hs
    obtain ⟨a2, g2, hs⟩ := s_bind hs
    obtain ⟨a3, g3, hs⟩ := s_bind hs
    obtain ⟨a4, g4, hs⟩ := s_bind hs
    obtain ⟨u9, ge, hs⟩ := s_bind hs
    exact l_X8_same_27 hs
  cases hs
theorem l_X8_same {v0 : Nat} {v1 : Int32} {v2 : Int32} {σ : sS} {q : Int32 × sS} (h : F_X8_same v0 v1 v2 σ = some q) : s_le σ q.2 := by
  unfold F_X8_same at h
  obtain ⟨-, -, h⟩ := s_bind h
  exact s_run_ind (V := fun x r => s_le x.2.2 r.2) (fun x z r hs hk => by
    have h9 := l_X8_same_s hs
    cases z with
    | inl y => exact s_le.tr h9 hk
    | inr q => cases hk; exact h9) h
theorem b_X8_same {v0 : Nat} {v1 : Int32} {v2 : Int32} {σ : sS} {q : Int32 × sS} (h : F_X8_same v0 v1 v2 σ = some q) : ∃ fs, σ.1 v0 = some (.inr (8, fs)) := by
  unfold F_X8_same at h
  obtain ⟨u, hu, -⟩ := s_bind h
  exact s_is_to hu
set_option maxRecDepth 100000 in
set_option maxHeartbeats 4000000 in
theorem v_X8_same_0 {G : sG} {d : Nat} {vs0 : List Value} {σ0 : sS} {v0 : Nat} {v1 : Int32} {v2 : Int32} {σ : sS} {z : sZ Int32} {r : Int32 × sS} (hf : T_X8_same_0 v0 v1 v2 σ = some z) (k : s_K G (d + 4) M_X8_same vs0 σ0 Y_X8_same e_I z r) : s_V G (d + 4) M_X8_same vs0 σ0 Y_X8_same (0, [.ref v0, .int v1, .int v2], σ) (e_I r) := by
  have le0 : s_le σ (e_I r).2 := s_lek hem_I (l_X8_same_0 hf) k
  refine ⟨le0, ?_⟩
  intro p e s m below meth c H locs cells slots ls X I hn1 hn2 hl
  have hn : cells + σ0.2.1 ≤ σ.2.1 ∧ slots + σ0.2.2.1 ≤ σ.2.2.1 := ⟨hn1, hn2⟩
  have hl : lv_has ls 3 [(0, .ref v0), (1, .int v1), (2, .int v2)] := hl
  have hx := X.1
  have hb : c.code = cX8_same := X.2.1
  have hown : s.vm.findClass RX8 = some m.cls := X.2.2.2.2.2.1
  have hts := X.2.2.2.2.2.2.1
  refine W.eq (g2 := F0 m 0 ls []) rfl ?_
  unfold T_X8_same_0 at hf
  obtain ⟨σ1, h1, hf⟩ := s_bind hf
  obtain ⟨q2, h2, hf⟩ := s_bind hf
  have le3 : s_le q2.2 (e_I r).2 := by
    refine s_lek hem_I ?_ k
    rcases s_ite hf with ⟨-, hf⟩ | ⟨-, hf⟩
    · obtain ⟨q3, hh, hf⟩ := s_bind hf
      refine s_lz.tr (l_X8_noFormula hh) ?_
      rcases s_ite hf with ⟨-, hf⟩ | ⟨-, hf⟩
      · cases hf
        exact s_le.rf
      · cases hf
        exact s_le.rf
    · cases hf
      exact s_le.rf
  have le4 := s_le.tr (l_X8_noFormula h2) le3
  refine lv_aload_n hx hb dX8_same_0 rfl (lv_at hl 0 rfl) ?_
  refine lv_iconst (v := 0) hx hb dX8_same_1 (by decide) ?_
  refine r_put X I fp_X8_3 (fun h => by cases h) h1 rfl rfl dX8_same_2 (fun H locs I => ?_)
  have hn := s_k2 (s_pf_2 h1) hn
  refine lv_aload_n hx hb dX8_same_5 rfl (lv_at hl 0 rfl) ?_
  refine lv_aload_n hx hb dX8_same_6 rfl (lv_at hl 0 rfl) ?_
  refine lv_iload_n hx hb dX8_same_7 rfl (lv_at hl 1 rfl) ?_
  refine r_callV (Y := M_X8_noFormula) (v := some (.int q2.1)) X I w_1916 my_X8_noFormula (by omega) (t_X8_noFormula (G := G) (d := d + 1) h2) (b_X8_noFormula h2) rfl rfl hl.1 rfl (Nat.le_of_ble_eq_true rfl) hn le3 dX8_same_8 (fun H locs cells slots I hn1 hn2 => ?_)
  have I : s_I G q2.2 s H locs := I
  have hn : cells + σ0.2.1 ≤ q2.2.2.1 ∧ slots + σ0.2.2.1 ≤ q2.2.2.2.1 := ⟨hn1, hn2⟩
  rcases s_ite hf with ⟨c5, hf⟩ | ⟨c5, hf⟩
  · refine lv_if_ne (tgt := 22) hx hb dX8_same_11 (by decide) (fun n => absurd c5 n) (fun _ => ?_)
    obtain ⟨q3, h6, hf⟩ := s_bind hf
    have le7 : s_le q3.2 (e_I r).2 := by
      refine s_lek hem_I ?_ k
      rcases s_ite hf with ⟨-, hf⟩ | ⟨-, hf⟩
      · cases hf
        exact s_le.rf
      · cases hf
        exact s_le.rf
    refine lv_aload_n hx hb dX8_same_14 rfl (lv_at hl 0 rfl) ?_
    refine lv_iload_n hx hb dX8_same_15 rfl (lv_at hl 2 rfl) ?_
    refine r_callV (Y := M_X8_noFormula) (v := some (.int q3.1)) X I w_1916 my_X8_noFormula (by omega) (t_X8_noFormula (G := G) (d := d + 1) h6) (b_X8_noFormula h6) rfl rfl hl.1 rfl (Nat.le_of_ble_eq_true rfl) hn le7 dX8_same_16 (fun H locs cells slots I hn1 hn2 => ?_)
    have I : s_I G q3.2 s H locs := I
    have hn : cells + σ0.2.1 ≤ q3.2.2.1 ∧ slots + σ0.2.2.1 ≤ q3.2.2.2.1 := ⟨hn1, hn2⟩
    rcases s_ite hf with ⟨c8, hf⟩ | ⟨c8, hf⟩
    · refine lv_if_eq (tgt := 26) hx hb dX8_same_19 (by decide) (fun _ => ?_) (fun n => absurd c8 n)
      cases hf
      have k : s_V G (d + 4) M_X8_same vs0 σ0 Y_X8_same (27, [.ref v0, .int v1, .int v2, .int 0, .ref v0], q3.2) (e_I r) := k
      refine lv_iconst (v := 0) hx hb dX8_same_26 (by decide) ?_
      exact k.2 p e s m below meth c _ _ _ _ _ X I hn.1 hn.2 (lv_sub hl [0, 1, 2] rfl)
    · refine lv_if_eq (tgt := 26) hx hb dX8_same_19 (by decide) (fun n => absurd n c8) (fun _ => ?_)
      cases hf
      have k : s_V G (d + 4) M_X8_same vs0 σ0 Y_X8_same (22, [.ref v0, .int v1, .int v2, .ref v0], q3.2) (e_I r) := k
      exact k.2 p e s m below meth c _ _ _ _ _ X I hn.1 hn.2 (lv_sub hl [0, 1, 2] rfl)
  · refine lv_if_ne (tgt := 22) hx hb dX8_same_11 (by decide) (fun _ => ?_) (fun n => absurd n c5)
    cases hf
    have k : s_V G (d + 4) M_X8_same vs0 σ0 Y_X8_same (22, [.ref v0, .int v1, .int v2, .ref v0], q2.2) (e_I r) := k
    exact k.2 p e s m below meth c _ _ _ _ _ X I hn.1 hn.2 (lv_sub hl [0, 1, 2] rfl)
set_option maxRecDepth 100000 in
set_option maxHeartbeats 4000000 in
theorem v_X8_same_22 {G : sG} {d : Nat} {vs0 : List Value} {σ0 : sS} {v0 : Nat} {v1 : Int32} {v2 : Int32} {w0 : Nat} {σ : sS} {z : sZ Int32} {r : Int32 × sS} (hf : T_X8_same_22 v0 v1 v2 w0 σ = some z) (k : s_K G (d + 4) M_X8_same vs0 σ0 Y_X8_same e_I z r) : s_V G (d + 4) M_X8_same vs0 σ0 Y_X8_same (22, [.ref v0, .int v1, .int v2, .ref w0], σ) (e_I r) := by
  have le0 : s_le σ (e_I r).2 := s_lek hem_I (l_X8_same_22 hf) k
  refine ⟨le0, ?_⟩
  intro p e s m below meth c H locs cells slots ls X I hn1 hn2 hl
  have hn : cells + σ0.2.1 ≤ σ.2.1 ∧ slots + σ0.2.2.1 ≤ σ.2.2.1 := ⟨hn1, hn2⟩
  have hl : lv_has ls 3 [(0, .ref v0), (1, .int v1), (2, .int v2)] := hl
  have hx := X.1
  have hb : c.code = cX8_same := X.2.1
  have hown : s.vm.findClass RX8 = some m.cls := X.2.2.2.2.2.1
  have hts := X.2.2.2.2.2.2.1
  refine W.eq (g2 := F0 m 22 ls [.ref w0]) rfl ?_
  unfold T_X8_same_22 at hf
  cases hf
  have k : s_V G (d + 4) M_X8_same vs0 σ0 Y_X8_same (27, [.ref v0, .int v1, .int v2, .int 1, .ref w0], σ) (e_I r) := k
  refine lv_iconst (v := 1) hx hb dX8_same_22 (by decide) ?_
  refine lv_goto (tgt := 27) hx hb dX8_same_23 (by decide) ?_
  exact k.2 p e s m below meth c _ _ _ _ _ X I hn.1 hn.2 (lv_sub hl [0, 1, 2] rfl)
set_option maxRecDepth 100000 in
set_option maxHeartbeats 4000000 in
theorem v_X8_same_27 {G : sG} {d : Nat} {vs0 : List Value} {σ0 : sS} {v0 : Nat} {v1 : Int32} {v2 : Int32} {w0 : Int32} {w1 : Nat} {σ : sS} {z : sZ Int32} {r : Int32 × sS} (hf : T_X8_same_27 v0 v1 v2 w0 w1 σ = some z) (k : s_K G (d + 4) M_X8_same vs0 σ0 Y_X8_same e_I z r) : s_V G (d + 4) M_X8_same vs0 σ0 Y_X8_same (27, [.ref v0, .int v1, .int v2, .int w0, .ref w1], σ) (e_I r) := by
  have le0 : s_le σ (e_I r).2 := s_lek hem_I (l_X8_same_27 hf) k
  refine ⟨le0, ?_⟩
  intro p e s m below meth c H locs cells slots ls X I hn1 hn2 hl
  have hn : cells + σ0.2.1 ≤ σ.2.1 ∧ slots + σ0.2.2.1 ≤ σ.2.2.1 := ⟨hn1, hn2⟩
  have hl : lv_has ls 3 [(0, .ref v0), (1, .int v1), (2, .int v2)] := hl
  have hx := X.1
  have hb : c.code = cX8_same := X.2.1
  have hown : s.vm.findClass RX8 = some m.cls := X.2.2.2.2.2.1
  have hts := X.2.2.2.2.2.2.1
  refine W.eq (g2 := F0 m 27 ls [.int w0, .ref w1]) rfl ?_
  unfold T_X8_same_27 at hf
  obtain ⟨q1, h1, hf⟩ := s_bind hf
  have le2 : s_le q1.2 (e_I r).2 := by
    refine s_lek hem_I ?_ k
    rcases s_ite hf with ⟨-, hf⟩ | ⟨-, hf⟩
    · obtain ⟨q2, hh, hf⟩ := s_bind hf
      refine s_lz.tr (l_X8_isSame hh) ?_
      rcases s_ite hf with ⟨-, hf⟩ | ⟨-, hf⟩
      · cases hf
        exact s_le.rf
      · cases hf
        exact s_le.rf
    · cases hf
      exact s_le.rf
  refine lv_iconst (v := 1) hx hb dX8_same_27 (by decide) ?_
  refine r_callV (Y := M_X8_throwsIf) (v := some (.int q1.1)) X I w_1897 my_X8_throwsIf (by omega) (t_X8_throwsIf (G := G) (d := d + 2) h1) (b_X8_throwsIf h1) rfl rfl hl.1 rfl (Nat.le_of_ble_eq_true rfl) hn le2 dX8_same_28 (fun H locs cells slots I hn1 hn2 => ?_)
  have I : s_I G q1.2 s H locs := I
  have hn : cells + σ0.2.1 ≤ q1.2.2.1 ∧ slots + σ0.2.2.1 ≤ q1.2.2.2.1 := ⟨hn1, hn2⟩
  rcases s_ite hf with ⟨c3, hf⟩ | ⟨c3, hf⟩
  · refine lv_if_ne (tgt := 47) hx hb dX8_same_31 (by decide) (fun n => absurd c3 n) (fun _ => ?_)
    obtain ⟨q2, h4, hf⟩ := s_bind hf
    have le5 : s_le q2.2 (e_I r).2 := by
      refine s_lek hem_I ?_ k
      rcases s_ite hf with ⟨-, hf⟩ | ⟨-, hf⟩
      · cases hf
        exact s_le.rf
      · cases hf
        exact s_le.rf
    refine lv_aload_n hx hb dX8_same_34 rfl (lv_at hl 0 rfl) ?_
    refine lv_iload_n hx hb dX8_same_35 rfl (lv_at hl 1 rfl) ?_
    refine lv_iload_n hx hb dX8_same_36 rfl (lv_at hl 2 rfl) ?_
    refine r_callV (Y := M_X8_isSame) (v := some (.int q2.1)) X I w_1924 my_X8_isSame (by omega) (t_X8_isSame (G := G) (d := d + 0) h4) (b_X8_isSame h4) rfl rfl hl.1 rfl (Nat.le_of_ble_eq_true rfl) hn le5 dX8_same_37 (fun H locs cells slots I hn1 hn2 => ?_)
    have I : s_I G q2.2 s H locs := I
    have hn : cells + σ0.2.1 ≤ q2.2.2.1 ∧ slots + σ0.2.2.1 ≤ q2.2.2.2.1 := ⟨hn1, hn2⟩
    rcases s_ite hf with ⟨c6, hf⟩ | ⟨c6, hf⟩
    · refine lv_if_eq (tgt := 47) hx hb dX8_same_40 (by decide) (fun _ => ?_) (fun n => absurd c6 n)
      cases hf
      have k : _ = r := k
      subst k
      refine lv_iconst (v := 0) hx hb dX8_same_47 (by decide) ?_
      exact r_iret X I rfl rfl rfl hn dX8_same_48
    · refine lv_if_eq (tgt := 47) hx hb dX8_same_40 (by decide) (fun n => absurd n c6) (fun _ => ?_)
      cases hf
      have k : _ = r := k
      subst k
      refine lv_iconst (v := 1) hx hb dX8_same_43 (by decide) ?_
      refine lv_goto (tgt := 48) hx hb dX8_same_44 (by decide) ?_
      exact r_iret X I rfl rfl rfl hn dX8_same_48
  · refine lv_if_ne (tgt := 47) hx hb dX8_same_31 (by decide) (fun _ => ?_) (fun n => absurd n c3)
    cases hf
    have k : _ = r := k
    subst k
    refine lv_iconst (v := 0) hx hb dX8_same_47 (by decide) ?_
    exact r_iret X I rfl rfl rfl hn dX8_same_48
theorem v_X8_same {G : sG} {d : Nat} {vs0 : List Value} {σ0 : sS} {x : sL} {z : sZ Int32} {r : Int32 × sS} (hs : S_X8_same x = some z) (k : s_K G (d + 4) M_X8_same vs0 σ0 Y_X8_same e_I z r) : s_V G (d + 4) M_X8_same vs0 σ0 Y_X8_same x (e_I r) := by
  obtain ⟨pc, vs, σ⟩ := x
  unfold S_X8_same at hs
  dsimp only at hs
  rcases s_ite hs with ⟨c, hs⟩ | ⟨-, hs⟩
  · subst c
    unfold U_X8_same_0 at hs
    obtain ⟨a0, g0, hs⟩ := s_bind hs
    obtain ⟨a1, g1, hs⟩ := s_bind hs
    obtain ⟨a2, g2, hs⟩ := s_bind hs
    obtain ⟨u9, ge, hs⟩ := s_bind hs
    rw [g_r_to g0, g_i_to g1, g_i_to g2, g_e_to ge]
    exact v_X8_same_0 hs k
  rcases s_ite hs with ⟨c, hs⟩ | ⟨-, hs⟩
  · subst c
    unfold U_X8_same_22 at hs
    obtain ⟨a0, g0, hs⟩ := s_bind hs
    obtain ⟨a1, g1, hs⟩ := s_bind hs
    obtain ⟨a2, g2, hs⟩ := s_bind hs
    obtain ⟨a3, g3, hs⟩ := s_bind hs
    obtain ⟨u9, ge, hs⟩ := s_bind hs
    rw [g_r_to g0, g_i_to g1, g_i_to g2, g_r_to g3, g_e_to ge]
    exact v_X8_same_22 hs k
  rcases s_ite hs with ⟨c, hs⟩ | ⟨-, hs⟩
  · subst c
    unfold U_X8_same_27 at hs
    obtain ⟨a0, g0, hs⟩ := s_bind hs
    obtain ⟨a1, g1, hs⟩ := s_bind hs
    obtain ⟨a2, g2, hs⟩ := s_bind hs
    obtain ⟨a3, g3, hs⟩ := s_bind hs
    obtain ⟨a4, g4, hs⟩ := s_bind hs
    obtain ⟨u9, ge, hs⟩ := s_bind hs
    rw [g_r_to g0, g_i_to g1, g_i_to g2, g_i_to g3, g_r_to g4, g_e_to ge]
    exact v_X8_same_27 hs k
  cases hs
theorem t_X8_same {G : sG} {d : Nat} {v0 : Nat} {v1 : Int32} {v2 : Int32} {σ : sS} {q : Int32 × sS} (h : F_X8_same v0 v1 v2 σ = some q) : s_T G (d + 4) M_X8_same [.ref v0, .int v1, .int v2] σ (e_I q) := by
  unfold F_X8_same at h
  obtain ⟨-, -, h⟩ := s_bind h
  exact s_ofV rfl (by decide) (Nat.le_of_ble_eq_true rfl) rfl rfl (s_run_ind (V := fun x r => s_V G (d + 4) M_X8_same [.ref v0, .int v1, .int v2] σ Y_X8_same x (e_I r)) (fun x z r hs hk => v_X8_same hs (by cases z <;> exact hk)) h)
/-! X8_worldsMany -/
noncomputable def T_X8_worldsMany_0 (v0 : Nat) (σ : sS) : Option (sZ Int32) :=
  (F_X8_d v0 σ).bind fun q1 =>
  some (.inr ((1 <<< ((4 + (2 * q1.1)) &&& 31)), q1.2))
noncomputable def U_X8_worldsMany_0 (vs : List Value) (σ : sS) : Option (sZ Int32) := (g_r vs).bind fun a0 => (g_e a0.2).bind fun _ => T_X8_worldsMany_0 a0.1 σ
noncomputable def S_X8_worldsMany (x : sL) : Option (sZ Int32) := if x.1 = 0 then U_X8_worldsMany_0 x.2.1 x.2.2 else none
def Y_X8_worldsMany (pc : Nat) : List Nat := if pc = 0 then [0] else []
noncomputable def F_X8_worldsMany (v0 : Nat) (σ : sS) : Option (Int32 × sS) := (s_is σ v0 8).bind fun _ => s_run S_X8_worldsMany (0, [.ref v0], σ)
theorem l_X8_worldsMany_0 {v0 : Nat} {σ : sS} {z : sZ Int32} (hf : T_X8_worldsMany_0 v0 σ = some z) : s_lz σ z := by
  unfold T_X8_worldsMany_0 at hf
  obtain ⟨q1, hh, hf⟩ := s_bind hf
  refine s_lz.tr (l_X8_d hh) ?_
  cases hf
  exact s_le.rf
theorem l_X8_worldsMany_s {x : sL} {z : sZ Int32} (hs : S_X8_worldsMany x = some z) : s_lz x.2.2 z := by
  obtain ⟨pc, vs, σ⟩ := x
  unfold S_X8_worldsMany at hs
  dsimp only at hs ⊢
  rcases s_ite hs with ⟨c, hs⟩ | ⟨-, hs⟩
  · subst c
    unfold U_X8_worldsMany_0 at hs
    obtain ⟨a0, g0, hs⟩ := s_bind hs
    obtain ⟨u9, ge, hs⟩ := s_bind hs
    exact l_X8_worldsMany_0 hs
  cases hs
theorem l_X8_worldsMany {v0 : Nat} {σ : sS} {q : Int32 × sS} (h : F_X8_worldsMany v0 σ = some q) : s_le σ q.2 := by
  unfold F_X8_worldsMany at h
  obtain ⟨-, -, h⟩ := s_bind h
  exact s_run_ind (V := fun x r => s_le x.2.2 r.2) (fun x z r hs hk => by
    have h9 := l_X8_worldsMany_s hs
    cases z with
    | inl y => exact s_le.tr h9 hk
    | inr q => cases hk; exact h9) h
theorem b_X8_worldsMany {v0 : Nat} {σ : sS} {q : Int32 × sS} (h : F_X8_worldsMany v0 σ = some q) : ∃ fs, σ.1 v0 = some (.inr (8, fs)) := by
  unfold F_X8_worldsMany at h
  obtain ⟨u, hu, -⟩ := s_bind h
  exact s_is_to hu
set_option maxRecDepth 100000 in
set_option maxHeartbeats 4000000 in
theorem v_X8_worldsMany_0 {G : sG} {d : Nat} {vs0 : List Value} {σ0 : sS} {v0 : Nat} {σ : sS} {z : sZ Int32} {r : Int32 × sS} (hf : T_X8_worldsMany_0 v0 σ = some z) (k : s_K G (d + 2) M_X8_worldsMany vs0 σ0 Y_X8_worldsMany e_I z r) : s_V G (d + 2) M_X8_worldsMany vs0 σ0 Y_X8_worldsMany (0, [.ref v0], σ) (e_I r) := by
  have le0 : s_le σ (e_I r).2 := s_lek hem_I (l_X8_worldsMany_0 hf) k
  refine ⟨le0, ?_⟩
  intro p e s m below meth c H locs cells slots ls X I hn1 hn2 hl
  have hn : cells + σ0.2.1 ≤ σ.2.1 ∧ slots + σ0.2.2.1 ≤ σ.2.2.1 := ⟨hn1, hn2⟩
  have hl : lv_has ls 1 [(0, .ref v0)] := hl
  have hx := X.1
  have hb : c.code = cX8_worldsMany := X.2.1
  have hown : s.vm.findClass RX8 = some m.cls := X.2.2.2.2.2.1
  have hts := X.2.2.2.2.2.2.1
  refine W.eq (g2 := F0 m 0 ls []) rfl ?_
  unfold T_X8_worldsMany_0 at hf
  obtain ⟨q1, h1, hf⟩ := s_bind hf
  cases hf
  have k : _ = r := k
  subst k
  have le2 : s_le q1.2 q1.2 := s_le.rf
  refine lv_iconst (v := 1) hx hb dX8_worldsMany_0 (by decide) ?_
  refine lv_iconst (v := 4) hx hb dX8_worldsMany_1 (by decide) ?_
  refine lv_iconst (v := 2) hx hb dX8_worldsMany_2 (by decide) ?_
  refine lv_aload_n hx hb dX8_worldsMany_3 rfl (lv_at hl 0 rfl) ?_
  refine r_callV (Y := M_X8_d) (v := some (.int q1.1)) X I w_1889 my_X8_d (by omega) (t_X8_d (G := G) (d := d + 0) h1) (b_X8_d h1) rfl rfl hl.1 rfl (Nat.le_of_ble_eq_true rfl) hn le2 dX8_worldsMany_4 (fun H locs cells slots I hn1 hn2 => ?_)
  have I : s_I G q1.2 s H locs := I
  have hn : cells + σ0.2.1 ≤ q1.2.2.1 ∧ slots + σ0.2.2.1 ≤ q1.2.2.2.1 := ⟨hn1, hn2⟩
  refine lv_imul hx hb dX8_worldsMany_7 ?_
  refine lv_iadd hx hb dX8_worldsMany_8 ?_
  refine lv_ishl hx hb dX8_worldsMany_9 ?_
  exact r_iret X I rfl rfl rfl hn dX8_worldsMany_10
theorem v_X8_worldsMany {G : sG} {d : Nat} {vs0 : List Value} {σ0 : sS} {x : sL} {z : sZ Int32} {r : Int32 × sS} (hs : S_X8_worldsMany x = some z) (k : s_K G (d + 2) M_X8_worldsMany vs0 σ0 Y_X8_worldsMany e_I z r) : s_V G (d + 2) M_X8_worldsMany vs0 σ0 Y_X8_worldsMany x (e_I r) := by
  obtain ⟨pc, vs, σ⟩ := x
  unfold S_X8_worldsMany at hs
  dsimp only at hs
  rcases s_ite hs with ⟨c, hs⟩ | ⟨-, hs⟩
  · subst c
    unfold U_X8_worldsMany_0 at hs
    obtain ⟨a0, g0, hs⟩ := s_bind hs
    obtain ⟨u9, ge, hs⟩ := s_bind hs
    rw [g_r_to g0, g_e_to ge]
    exact v_X8_worldsMany_0 hs k
  cases hs
theorem t_X8_worldsMany {G : sG} {d : Nat} {v0 : Nat} {σ : sS} {q : Int32 × sS} (h : F_X8_worldsMany v0 σ = some q) : s_T G (d + 2) M_X8_worldsMany [.ref v0] σ (e_I q) := by
  unfold F_X8_worldsMany at h
  obtain ⟨-, -, h⟩ := s_bind h
  exact s_ofV rfl (by decide) (Nat.le_of_ble_eq_true rfl) rfl rfl (s_run_ind (V := fun x r => s_V G (d + 2) M_X8_worldsMany [.ref v0] σ Y_X8_worldsMany x (e_I r)) (fun x z r hs hk => v_X8_worldsMany hs (by cases z <;> exact hk)) h)
/-! X8_noWorld -/
noncomputable def T_X8_noWorld_0 (v0 : Nat) (v1 : Int32) (σ : sS) : Option (sZ Int32) :=
  (F_X8_worldsMany v0 σ).bind fun q1 =>
  (F_X8_in v1 0 (q1.1 - 1) q1.2).bind fun q2 =>
  if q2.1 = 0 then (some (.inr (1, q2.2)))
  else (some (.inr (0, q2.2)))
noncomputable def U_X8_noWorld_0 (vs : List Value) (σ : sS) : Option (sZ Int32) := (g_r vs).bind fun a0 => (g_i a0.2).bind fun a1 => (g_e a1.2).bind fun _ => T_X8_noWorld_0 a0.1 a1.1 σ
noncomputable def S_X8_noWorld (x : sL) : Option (sZ Int32) := if x.1 = 0 then U_X8_noWorld_0 x.2.1 x.2.2 else none
def Y_X8_noWorld (pc : Nat) : List Nat := if pc = 0 then [0, 1] else []
noncomputable def F_X8_noWorld (v0 : Nat) (v1 : Int32) (σ : sS) : Option (Int32 × sS) := (s_is σ v0 8).bind fun _ => s_run S_X8_noWorld (0, [.ref v0, .int v1], σ)
theorem l_X8_noWorld_0 {v0 : Nat} {v1 : Int32} {σ : sS} {z : sZ Int32} (hf : T_X8_noWorld_0 v0 v1 σ = some z) : s_lz σ z := by
  unfold T_X8_noWorld_0 at hf
  obtain ⟨q1, hh, hf⟩ := s_bind hf
  refine s_lz.tr (l_X8_worldsMany hh) ?_
  obtain ⟨q2, hh, hf⟩ := s_bind hf
  refine s_lz.tr (l_X8_in hh) ?_
  rcases s_ite hf with ⟨-, hf⟩ | ⟨-, hf⟩
  · cases hf
    exact s_le.rf
  · cases hf
    exact s_le.rf
theorem l_X8_noWorld_s {x : sL} {z : sZ Int32} (hs : S_X8_noWorld x = some z) : s_lz x.2.2 z := by
  obtain ⟨pc, vs, σ⟩ := x
  unfold S_X8_noWorld at hs
  dsimp only at hs ⊢
  rcases s_ite hs with ⟨c, hs⟩ | ⟨-, hs⟩
  · subst c
    unfold U_X8_noWorld_0 at hs
    obtain ⟨a0, g0, hs⟩ := s_bind hs
    obtain ⟨a1, g1, hs⟩ := s_bind hs
    obtain ⟨u9, ge, hs⟩ := s_bind hs
    exact l_X8_noWorld_0 hs
  cases hs
theorem l_X8_noWorld {v0 : Nat} {v1 : Int32} {σ : sS} {q : Int32 × sS} (h : F_X8_noWorld v0 v1 σ = some q) : s_le σ q.2 := by
  unfold F_X8_noWorld at h
  obtain ⟨-, -, h⟩ := s_bind h
  exact s_run_ind (V := fun x r => s_le x.2.2 r.2) (fun x z r hs hk => by
    have h9 := l_X8_noWorld_s hs
    cases z with
    | inl y => exact s_le.tr h9 hk
    | inr q => cases hk; exact h9) h
theorem b_X8_noWorld {v0 : Nat} {v1 : Int32} {σ : sS} {q : Int32 × sS} (h : F_X8_noWorld v0 v1 σ = some q) : ∃ fs, σ.1 v0 = some (.inr (8, fs)) := by
  unfold F_X8_noWorld at h
  obtain ⟨u, hu, -⟩ := s_bind h
  exact s_is_to hu
set_option maxRecDepth 100000 in
set_option maxHeartbeats 4000000 in
theorem v_X8_noWorld_0 {G : sG} {d : Nat} {vs0 : List Value} {σ0 : sS} {v0 : Nat} {v1 : Int32} {σ : sS} {z : sZ Int32} {r : Int32 × sS} (hf : T_X8_noWorld_0 v0 v1 σ = some z) (k : s_K G (d + 3) M_X8_noWorld vs0 σ0 Y_X8_noWorld e_I z r) : s_V G (d + 3) M_X8_noWorld vs0 σ0 Y_X8_noWorld (0, [.ref v0, .int v1], σ) (e_I r) := by
  have le0 : s_le σ (e_I r).2 := s_lek hem_I (l_X8_noWorld_0 hf) k
  refine ⟨le0, ?_⟩
  intro p e s m below meth c H locs cells slots ls X I hn1 hn2 hl
  have hn : cells + σ0.2.1 ≤ σ.2.1 ∧ slots + σ0.2.2.1 ≤ σ.2.2.1 := ⟨hn1, hn2⟩
  have hl : lv_has ls 2 [(0, .ref v0), (1, .int v1)] := hl
  have hx := X.1
  have hb : c.code = cX8_noWorld := X.2.1
  have hown : s.vm.findClass RX8 = some m.cls := X.2.2.2.2.2.1
  have hts := X.2.2.2.2.2.2.1
  refine W.eq (g2 := F0 m 0 ls []) rfl ?_
  unfold T_X8_noWorld_0 at hf
  obtain ⟨q1, h1, hf⟩ := s_bind hf
  obtain ⟨q2, h2, hf⟩ := s_bind hf
  have le3 : s_le q2.2 (e_I r).2 := by
    refine s_lek hem_I ?_ k
    rcases s_ite hf with ⟨-, hf⟩ | ⟨-, hf⟩
    · cases hf
      exact s_le.rf
    · cases hf
      exact s_le.rf
  have le4 := s_le.tr (l_X8_in h2) le3
  refine lv_iload_n hx hb dX8_noWorld_0 rfl (lv_at hl 1 rfl) ?_
  refine lv_iconst (v := 0) hx hb dX8_noWorld_1 (by decide) ?_
  refine lv_aload_n hx hb dX8_noWorld_2 rfl (lv_at hl 0 rfl) ?_
  refine r_callV (Y := M_X8_worldsMany) (v := some (.int q1.1)) X I w_1943 my_X8_worldsMany (by omega) (t_X8_worldsMany (G := G) (d := d + 0) h1) (b_X8_worldsMany h1) rfl rfl hl.1 rfl (Nat.le_of_ble_eq_true rfl) hn le4 dX8_noWorld_3 (fun H locs cells slots I hn1 hn2 => ?_)
  have I : s_I G q1.2 s H locs := I
  have hn : cells + σ0.2.1 ≤ q1.2.2.1 ∧ slots + σ0.2.2.1 ≤ q1.2.2.2.1 := ⟨hn1, hn2⟩
  refine lv_iconst (v := 1) hx hb dX8_noWorld_6 (by decide) ?_
  refine lv_isub hx hb dX8_noWorld_7 ?_
  refine r_callS (Y := M_X8_in) (v := some (.int q2.1)) X I w_1909 my_X8_in (by omega) (t_X8_in (G := G) (d := d + 1) h2) rfl rfl hl.1 rfl (Nat.le_of_ble_eq_true rfl) hn le3 dX8_noWorld_8 (fun H locs cells slots I hn1 hn2 => ?_)
  have I : s_I G q2.2 s H locs := I
  have hn : cells + σ0.2.1 ≤ q2.2.2.1 ∧ slots + σ0.2.2.1 ≤ q2.2.2.2.1 := ⟨hn1, hn2⟩
  rcases s_ite hf with ⟨c5, hf⟩ | ⟨c5, hf⟩
  · refine lv_if_ne (tgt := 18) hx hb dX8_noWorld_11 (by decide) (fun n => absurd c5 n) (fun _ => ?_)
    cases hf
    have k : _ = r := k
    subst k
    refine lv_iconst (v := 1) hx hb dX8_noWorld_14 (by decide) ?_
    refine lv_goto (tgt := 19) hx hb dX8_noWorld_15 (by decide) ?_
    exact r_iret X I rfl rfl rfl hn dX8_noWorld_19
  · refine lv_if_ne (tgt := 18) hx hb dX8_noWorld_11 (by decide) (fun _ => ?_) (fun n => absurd n c5)
    cases hf
    have k : _ = r := k
    subst k
    refine lv_iconst (v := 0) hx hb dX8_noWorld_18 (by decide) ?_
    exact r_iret X I rfl rfl rfl hn dX8_noWorld_19
theorem v_X8_noWorld {G : sG} {d : Nat} {vs0 : List Value} {σ0 : sS} {x : sL} {z : sZ Int32} {r : Int32 × sS} (hs : S_X8_noWorld x = some z) (k : s_K G (d + 3) M_X8_noWorld vs0 σ0 Y_X8_noWorld e_I z r) : s_V G (d + 3) M_X8_noWorld vs0 σ0 Y_X8_noWorld x (e_I r) := by
  obtain ⟨pc, vs, σ⟩ := x
  unfold S_X8_noWorld at hs
  dsimp only at hs
  rcases s_ite hs with ⟨c, hs⟩ | ⟨-, hs⟩
  · subst c
    unfold U_X8_noWorld_0 at hs
    obtain ⟨a0, g0, hs⟩ := s_bind hs
    obtain ⟨a1, g1, hs⟩ := s_bind hs
    obtain ⟨u9, ge, hs⟩ := s_bind hs
    rw [g_r_to g0, g_i_to g1, g_e_to ge]
    exact v_X8_noWorld_0 hs k
  cases hs
theorem t_X8_noWorld {G : sG} {d : Nat} {v0 : Nat} {v1 : Int32} {σ : sS} {q : Int32 × sS} (h : F_X8_noWorld v0 v1 σ = some q) : s_T G (d + 3) M_X8_noWorld [.ref v0, .int v1] σ (e_I q) := by
  unfold F_X8_noWorld at h
  obtain ⟨-, -, h⟩ := s_bind h
  exact s_ofV rfl (by decide) (Nat.le_of_ble_eq_true rfl) rfl rfl (s_run_ind (V := fun x r => s_V G (d + 3) M_X8_noWorld [.ref v0, .int v1] σ Y_X8_noWorld x (e_I r)) (fun x z r hs hk => v_X8_noWorld hs (by cases z <;> exact hk)) h)
/-! X8_isJoining -/
noncomputable def T_X8_isJoining_0 (v0 : Int32) (σ : sS) : Option (sZ Int32) :=
  if v0 = 13 then (some (.inr (1, σ)))
  else (if v0 = 14 then (some (.inr (1, σ)))
  else (if v0 = 15 then (some (.inr (1, σ)))
  else (some (.inr (0, σ)))))
noncomputable def U_X8_isJoining_0 (vs : List Value) (σ : sS) : Option (sZ Int32) := (g_i vs).bind fun a0 => (g_e a0.2).bind fun _ => T_X8_isJoining_0 a0.1 σ
noncomputable def S_X8_isJoining (x : sL) : Option (sZ Int32) := if x.1 = 0 then U_X8_isJoining_0 x.2.1 x.2.2 else none
def Y_X8_isJoining (pc : Nat) : List Nat := if pc = 0 then [0] else []
noncomputable def F_X8_isJoining (v0 : Int32) (σ : sS) : Option (Int32 × sS) := s_run S_X8_isJoining (0, [.int v0], σ)
theorem l_X8_isJoining_0 {v0 : Int32} {σ : sS} {z : sZ Int32} (hf : T_X8_isJoining_0 v0 σ = some z) : s_lz σ z := by
  unfold T_X8_isJoining_0 at hf
  rcases s_ite hf with ⟨-, hf⟩ | ⟨-, hf⟩
  · cases hf
    exact s_le.rf
  · rcases s_ite hf with ⟨-, hf⟩ | ⟨-, hf⟩
    · cases hf
      exact s_le.rf
    · rcases s_ite hf with ⟨-, hf⟩ | ⟨-, hf⟩
      · cases hf
        exact s_le.rf
      · cases hf
        exact s_le.rf
theorem l_X8_isJoining_s {x : sL} {z : sZ Int32} (hs : S_X8_isJoining x = some z) : s_lz x.2.2 z := by
  obtain ⟨pc, vs, σ⟩ := x
  unfold S_X8_isJoining at hs
  dsimp only at hs ⊢
  rcases s_ite hs with ⟨c, hs⟩ | ⟨-, hs⟩
  · subst c
    unfold U_X8_isJoining_0 at hs
    obtain ⟨a0, g0, hs⟩ := s_bind hs
    obtain ⟨u9, ge, hs⟩ := s_bind hs
    exact l_X8_isJoining_0 hs
  cases hs
theorem l_X8_isJoining {v0 : Int32} {σ : sS} {q : Int32 × sS} (h : F_X8_isJoining v0 σ = some q) : s_le σ q.2 := by
  unfold F_X8_isJoining at h
  exact s_run_ind (V := fun x r => s_le x.2.2 r.2) (fun x z r hs hk => by
    have h9 := l_X8_isJoining_s hs
    cases z with
    | inl y => exact s_le.tr h9 hk
    | inr q => cases hk; exact h9) h
set_option maxRecDepth 100000 in
set_option maxHeartbeats 4000000 in
theorem v_X8_isJoining_0 {G : sG} {d : Nat} {vs0 : List Value} {σ0 : sS} {v0 : Int32} {σ : sS} {z : sZ Int32} {r : Int32 × sS} (hf : T_X8_isJoining_0 v0 σ = some z) (k : s_K G (d + 1) M_X8_isJoining vs0 σ0 Y_X8_isJoining e_I z r) : s_V G (d + 1) M_X8_isJoining vs0 σ0 Y_X8_isJoining (0, [.int v0], σ) (e_I r) := by
  have le0 : s_le σ (e_I r).2 := s_lek hem_I (l_X8_isJoining_0 hf) k
  refine ⟨le0, ?_⟩
  intro p e s m below meth c H locs cells slots ls X I hn1 hn2 hl
  have hn : cells + σ0.2.1 ≤ σ.2.1 ∧ slots + σ0.2.2.1 ≤ σ.2.2.1 := ⟨hn1, hn2⟩
  have hl : lv_has ls 1 [(0, .int v0)] := hl
  have hx := X.1
  have hb : c.code = cX8_isJoining := X.2.1
  have hown : s.vm.findClass RX8 = some m.cls := X.2.2.2.2.2.1
  have hts := X.2.2.2.2.2.2.1
  refine W.eq (g2 := F0 m 0 ls []) rfl ?_
  unfold T_X8_isJoining_0 at hf
  refine lv_iload_n hx hb dX8_isJoining_0 rfl (lv_at hl 0 rfl) ?_
  refine lv_bipush (v := 13) hx hb dX8_isJoining_1 (by decide) ?_
  rcases s_ite hf with ⟨c1, hf⟩ | ⟨c1, hf⟩
  · refine lv_icmp_eq (tgt := 18) hx hb dX8_isJoining_3 (by decide) (fun _ => ?_) (fun n => absurd c1 n)
    cases hf
    have k : _ = r := k
    subst k
    refine lv_iconst (v := 1) hx hb dX8_isJoining_18 (by decide) ?_
    refine lv_goto (tgt := 23) hx hb dX8_isJoining_19 (by decide) ?_
    exact r_iret X I rfl rfl rfl hn dX8_isJoining_23
  · refine lv_icmp_eq (tgt := 18) hx hb dX8_isJoining_3 (by decide) (fun n => absurd n c1) (fun _ => ?_)
    refine lv_iload_n hx hb dX8_isJoining_6 rfl (lv_at hl 0 rfl) ?_
    refine lv_bipush (v := 14) hx hb dX8_isJoining_7 (by decide) ?_
    rcases s_ite hf with ⟨c2, hf⟩ | ⟨c2, hf⟩
    · refine lv_icmp_eq (tgt := 18) hx hb dX8_isJoining_9 (by decide) (fun _ => ?_) (fun n => absurd c2 n)
      cases hf
      have k : _ = r := k
      subst k
      refine lv_iconst (v := 1) hx hb dX8_isJoining_18 (by decide) ?_
      refine lv_goto (tgt := 23) hx hb dX8_isJoining_19 (by decide) ?_
      exact r_iret X I rfl rfl rfl hn dX8_isJoining_23
    · refine lv_icmp_eq (tgt := 18) hx hb dX8_isJoining_9 (by decide) (fun n => absurd n c2) (fun _ => ?_)
      refine lv_iload_n hx hb dX8_isJoining_12 rfl (lv_at hl 0 rfl) ?_
      refine lv_bipush (v := 15) hx hb dX8_isJoining_13 (by decide) ?_
      rcases s_ite hf with ⟨c3, hf⟩ | ⟨c3, hf⟩
      · refine lv_icmp_ne (tgt := 22) hx hb dX8_isJoining_15 (by decide) (fun n => absurd c3 n) (fun _ => ?_)
        cases hf
        have k : _ = r := k
        subst k
        refine lv_iconst (v := 1) hx hb dX8_isJoining_18 (by decide) ?_
        refine lv_goto (tgt := 23) hx hb dX8_isJoining_19 (by decide) ?_
        exact r_iret X I rfl rfl rfl hn dX8_isJoining_23
      · refine lv_icmp_ne (tgt := 22) hx hb dX8_isJoining_15 (by decide) (fun _ => ?_) (fun n => absurd n c3)
        cases hf
        have k : _ = r := k
        subst k
        refine lv_iconst (v := 0) hx hb dX8_isJoining_22 (by decide) ?_
        exact r_iret X I rfl rfl rfl hn dX8_isJoining_23
theorem v_X8_isJoining {G : sG} {d : Nat} {vs0 : List Value} {σ0 : sS} {x : sL} {z : sZ Int32} {r : Int32 × sS} (hs : S_X8_isJoining x = some z) (k : s_K G (d + 1) M_X8_isJoining vs0 σ0 Y_X8_isJoining e_I z r) : s_V G (d + 1) M_X8_isJoining vs0 σ0 Y_X8_isJoining x (e_I r) := by
  obtain ⟨pc, vs, σ⟩ := x
  unfold S_X8_isJoining at hs
  dsimp only at hs
  rcases s_ite hs with ⟨c, hs⟩ | ⟨-, hs⟩
  · subst c
    unfold U_X8_isJoining_0 at hs
    obtain ⟨a0, g0, hs⟩ := s_bind hs
    obtain ⟨u9, ge, hs⟩ := s_bind hs
    rw [g_i_to g0, g_e_to ge]
    exact v_X8_isJoining_0 hs k
  cases hs
theorem t_X8_isJoining {G : sG} {d : Nat} {v0 : Int32} {σ : sS} {q : Int32 × sS} (h : F_X8_isJoining v0 σ = some q) : s_T G (d + 1) M_X8_isJoining [.int v0] σ (e_I q) := by
  unfold F_X8_isJoining at h
  exact s_ofV rfl (by decide) (Nat.le_of_ble_eq_true rfl) rfl rfl (s_run_ind (V := fun x r => s_V G (d + 1) M_X8_isJoining [.int v0] σ Y_X8_isJoining x (e_I r)) (fun x z r hs hk => v_X8_isJoining hs (by cases z <;> exact hk)) h)
/-! X8_isLone -/
noncomputable def T_X8_isLone_0 (v0 : Int32) (σ : sS) : Option (sZ Int32) :=
  if v0 = 12 then (some (.inr (1, σ)))
  else (if v0 = 16 then (some (.inr (1, σ)))
  else (if v0 = 17 then (some (.inr (1, σ)))
  else (some (.inr (0, σ)))))
noncomputable def U_X8_isLone_0 (vs : List Value) (σ : sS) : Option (sZ Int32) := (g_i vs).bind fun a0 => (g_e a0.2).bind fun _ => T_X8_isLone_0 a0.1 σ
noncomputable def S_X8_isLone (x : sL) : Option (sZ Int32) := if x.1 = 0 then U_X8_isLone_0 x.2.1 x.2.2 else none
def Y_X8_isLone (pc : Nat) : List Nat := if pc = 0 then [0] else []
noncomputable def F_X8_isLone (v0 : Int32) (σ : sS) : Option (Int32 × sS) := s_run S_X8_isLone (0, [.int v0], σ)
theorem l_X8_isLone_0 {v0 : Int32} {σ : sS} {z : sZ Int32} (hf : T_X8_isLone_0 v0 σ = some z) : s_lz σ z := by
  unfold T_X8_isLone_0 at hf
  rcases s_ite hf with ⟨-, hf⟩ | ⟨-, hf⟩
  · cases hf
    exact s_le.rf
  · rcases s_ite hf with ⟨-, hf⟩ | ⟨-, hf⟩
    · cases hf
      exact s_le.rf
    · rcases s_ite hf with ⟨-, hf⟩ | ⟨-, hf⟩
      · cases hf
        exact s_le.rf
      · cases hf
        exact s_le.rf
theorem l_X8_isLone_s {x : sL} {z : sZ Int32} (hs : S_X8_isLone x = some z) : s_lz x.2.2 z := by
  obtain ⟨pc, vs, σ⟩ := x
  unfold S_X8_isLone at hs
  dsimp only at hs ⊢
  rcases s_ite hs with ⟨c, hs⟩ | ⟨-, hs⟩
  · subst c
    unfold U_X8_isLone_0 at hs
    obtain ⟨a0, g0, hs⟩ := s_bind hs
    obtain ⟨u9, ge, hs⟩ := s_bind hs
    exact l_X8_isLone_0 hs
  cases hs
theorem l_X8_isLone {v0 : Int32} {σ : sS} {q : Int32 × sS} (h : F_X8_isLone v0 σ = some q) : s_le σ q.2 := by
  unfold F_X8_isLone at h
  exact s_run_ind (V := fun x r => s_le x.2.2 r.2) (fun x z r hs hk => by
    have h9 := l_X8_isLone_s hs
    cases z with
    | inl y => exact s_le.tr h9 hk
    | inr q => cases hk; exact h9) h
set_option maxRecDepth 100000 in
set_option maxHeartbeats 4000000 in
theorem v_X8_isLone_0 {G : sG} {d : Nat} {vs0 : List Value} {σ0 : sS} {v0 : Int32} {σ : sS} {z : sZ Int32} {r : Int32 × sS} (hf : T_X8_isLone_0 v0 σ = some z) (k : s_K G (d + 1) M_X8_isLone vs0 σ0 Y_X8_isLone e_I z r) : s_V G (d + 1) M_X8_isLone vs0 σ0 Y_X8_isLone (0, [.int v0], σ) (e_I r) := by
  have le0 : s_le σ (e_I r).2 := s_lek hem_I (l_X8_isLone_0 hf) k
  refine ⟨le0, ?_⟩
  intro p e s m below meth c H locs cells slots ls X I hn1 hn2 hl
  have hn : cells + σ0.2.1 ≤ σ.2.1 ∧ slots + σ0.2.2.1 ≤ σ.2.2.1 := ⟨hn1, hn2⟩
  have hl : lv_has ls 1 [(0, .int v0)] := hl
  have hx := X.1
  have hb : c.code = cX8_isLone := X.2.1
  have hown : s.vm.findClass RX8 = some m.cls := X.2.2.2.2.2.1
  have hts := X.2.2.2.2.2.2.1
  refine W.eq (g2 := F0 m 0 ls []) rfl ?_
  unfold T_X8_isLone_0 at hf
  refine lv_iload_n hx hb dX8_isLone_0 rfl (lv_at hl 0 rfl) ?_
  refine lv_bipush (v := 12) hx hb dX8_isLone_1 (by decide) ?_
  rcases s_ite hf with ⟨c1, hf⟩ | ⟨c1, hf⟩
  · refine lv_icmp_eq (tgt := 18) hx hb dX8_isLone_3 (by decide) (fun _ => ?_) (fun n => absurd c1 n)
    cases hf
    have k : _ = r := k
    subst k
    refine lv_iconst (v := 1) hx hb dX8_isLone_18 (by decide) ?_
    refine lv_goto (tgt := 23) hx hb dX8_isLone_19 (by decide) ?_
    exact r_iret X I rfl rfl rfl hn dX8_isLone_23
  · refine lv_icmp_eq (tgt := 18) hx hb dX8_isLone_3 (by decide) (fun n => absurd n c1) (fun _ => ?_)
    refine lv_iload_n hx hb dX8_isLone_6 rfl (lv_at hl 0 rfl) ?_
    refine lv_bipush (v := 16) hx hb dX8_isLone_7 (by decide) ?_
    rcases s_ite hf with ⟨c2, hf⟩ | ⟨c2, hf⟩
    · refine lv_icmp_eq (tgt := 18) hx hb dX8_isLone_9 (by decide) (fun _ => ?_) (fun n => absurd c2 n)
      cases hf
      have k : _ = r := k
      subst k
      refine lv_iconst (v := 1) hx hb dX8_isLone_18 (by decide) ?_
      refine lv_goto (tgt := 23) hx hb dX8_isLone_19 (by decide) ?_
      exact r_iret X I rfl rfl rfl hn dX8_isLone_23
    · refine lv_icmp_eq (tgt := 18) hx hb dX8_isLone_9 (by decide) (fun n => absurd n c2) (fun _ => ?_)
      refine lv_iload_n hx hb dX8_isLone_12 rfl (lv_at hl 0 rfl) ?_
      refine lv_bipush (v := 17) hx hb dX8_isLone_13 (by decide) ?_
      rcases s_ite hf with ⟨c3, hf⟩ | ⟨c3, hf⟩
      · refine lv_icmp_ne (tgt := 22) hx hb dX8_isLone_15 (by decide) (fun n => absurd c3 n) (fun _ => ?_)
        cases hf
        have k : _ = r := k
        subst k
        refine lv_iconst (v := 1) hx hb dX8_isLone_18 (by decide) ?_
        refine lv_goto (tgt := 23) hx hb dX8_isLone_19 (by decide) ?_
        exact r_iret X I rfl rfl rfl hn dX8_isLone_23
      · refine lv_icmp_ne (tgt := 22) hx hb dX8_isLone_15 (by decide) (fun _ => ?_) (fun n => absurd n c3)
        cases hf
        have k : _ = r := k
        subst k
        refine lv_iconst (v := 0) hx hb dX8_isLone_22 (by decide) ?_
        exact r_iret X I rfl rfl rfl hn dX8_isLone_23
theorem v_X8_isLone {G : sG} {d : Nat} {vs0 : List Value} {σ0 : sS} {x : sL} {z : sZ Int32} {r : Int32 × sS} (hs : S_X8_isLone x = some z) (k : s_K G (d + 1) M_X8_isLone vs0 σ0 Y_X8_isLone e_I z r) : s_V G (d + 1) M_X8_isLone vs0 σ0 Y_X8_isLone x (e_I r) := by
  obtain ⟨pc, vs, σ⟩ := x
  unfold S_X8_isLone at hs
  dsimp only at hs
  rcases s_ite hs with ⟨c, hs⟩ | ⟨-, hs⟩
  · subst c
    unfold U_X8_isLone_0 at hs
    obtain ⟨a0, g0, hs⟩ := s_bind hs
    obtain ⟨u9, ge, hs⟩ := s_bind hs
    rw [g_i_to g0, g_e_to ge]
    exact v_X8_isLone_0 hs k
  cases hs
theorem t_X8_isLone {G : sG} {d : Nat} {v0 : Int32} {σ : sS} {q : Int32 × sS} (h : F_X8_isLone v0 σ = some q) : s_T G (d + 1) M_X8_isLone [.int v0] σ (e_I q) := by
  unfold F_X8_isLone at h
  exact s_ofV rfl (by decide) (Nat.le_of_ble_eq_true rfl) rfl rfl (s_run_ind (V := fun x r => s_V G (d + 1) M_X8_isLone [.int v0] σ Y_X8_isLone x (e_I r)) (fun x z r hs hk => v_X8_isLone hs (by cases z <;> exact hk)) h)
/-! X8_ofSign -/
noncomputable def T_X8_ofSign_0 (v0 : Nat) (v1 : Int32) (v2 : Int32) (σ : sS) : Option (sZ Int32) :=
  (F_X8_d v0 σ).bind fun q1 =>
  if (4 : Int32) ≤ v1 then (if v1 = 4 then (some (.inr (((v2 >>> (4 &&& 31)) &&& ((1 <<< (q1.1 &&& 31)) - 1)), q1.2)))
  else (if v1 = 5 then ((F_X8_d v0 q1.2).bind fun q3 =>
  some (.inr (((v2 >>> ((4 + q3.1) &&& 31)) &&& ((1 <<< (q1.1 &&& 31)) - 1)), q3.2)))
  else (if (9 : Int32) ≤ v1 then ((F_X8_d v0 q1.2).bind fun q2 =>
  some (.inl (82, [.int v2, .int ((1 <<< (q1.1 &&& 31)) - 1), .int (((4 + q2.1) + v1) - 9)], q2.2)))
  else (some (.inl (82, [.int v2, .int ((1 <<< (q1.1 &&& 31)) - 1), .int ((4 + v1) - 6)], q1.2))))))
  else (if ((v2 >>> (v1 &&& 31)) &&& 1) = 1 then (some (.inr (((1 <<< (q1.1 &&& 31)) - 1), q1.2)))
  else (some (.inr (0, q1.2))))
noncomputable def U_X8_ofSign_0 (vs : List Value) (σ : sS) : Option (sZ Int32) := (g_r vs).bind fun a0 => (g_i a0.2).bind fun a1 => (g_i a1.2).bind fun a2 => (g_e a2.2).bind fun _ => T_X8_ofSign_0 a0.1 a1.1 a2.1 σ
noncomputable def T_X8_ofSign_82 (v2 : Int32) (v3 : Int32) (w0 : Int32) (σ : sS) : Option (sZ Int32) :=
  if ((v2 >>> (w0 &&& 31)) &&& 1) = 1 then (some (.inr (v3, σ)))
  else (some (.inr (0, σ)))
noncomputable def U_X8_ofSign_82 (vs : List Value) (σ : sS) : Option (sZ Int32) := (g_i vs).bind fun a0 => (g_i a0.2).bind fun a1 => (g_i a1.2).bind fun a2 => (g_e a2.2).bind fun _ => T_X8_ofSign_82 a0.1 a1.1 a2.1 σ
noncomputable def S_X8_ofSign (x : sL) : Option (sZ Int32) := if x.1 = 0 then U_X8_ofSign_0 x.2.1 x.2.2 else if x.1 = 82 then U_X8_ofSign_82 x.2.1 x.2.2 else none
def Y_X8_ofSign (pc : Nat) : List Nat := if pc = 0 then [0, 1, 2] else if pc = 82 then [2, 3] else []
noncomputable def F_X8_ofSign (v0 : Nat) (v1 : Int32) (v2 : Int32) (σ : sS) : Option (Int32 × sS) := (s_is σ v0 8).bind fun _ => s_run S_X8_ofSign (0, [.ref v0, .int v1, .int v2], σ)
theorem l_X8_ofSign_0 {v0 : Nat} {v1 : Int32} {v2 : Int32} {σ : sS} {z : sZ Int32} (hf : T_X8_ofSign_0 v0 v1 v2 σ = some z) : s_lz σ z := by
  unfold T_X8_ofSign_0 at hf
  obtain ⟨q1, hh, hf⟩ := s_bind hf
  refine s_lz.tr (l_X8_d hh) ?_
  rcases s_ite hf with ⟨-, hf⟩ | ⟨-, hf⟩
  · rcases s_ite hf with ⟨-, hf⟩ | ⟨-, hf⟩
    · cases hf
      exact s_le.rf
    · rcases s_ite hf with ⟨-, hf⟩ | ⟨-, hf⟩
      · obtain ⟨q3, hh, hf⟩ := s_bind hf
        refine s_lz.tr (l_X8_d hh) ?_
        cases hf
        exact s_le.rf
      · rcases s_ite hf with ⟨-, hf⟩ | ⟨-, hf⟩
        · obtain ⟨q2, hh, hf⟩ := s_bind hf
          refine s_lz.tr (l_X8_d hh) ?_
          cases hf
          exact s_le.rf
        · cases hf
          exact s_le.rf
  · rcases s_ite hf with ⟨-, hf⟩ | ⟨-, hf⟩
    · cases hf
      exact s_le.rf
    · cases hf
      exact s_le.rf
theorem l_X8_ofSign_82 {v2 : Int32} {v3 : Int32} {w0 : Int32} {σ : sS} {z : sZ Int32} (hf : T_X8_ofSign_82 v2 v3 w0 σ = some z) : s_lz σ z := by
  unfold T_X8_ofSign_82 at hf
  rcases s_ite hf with ⟨-, hf⟩ | ⟨-, hf⟩
  · cases hf
    exact s_le.rf
  · cases hf
    exact s_le.rf
theorem l_X8_ofSign_s {x : sL} {z : sZ Int32} (hs : S_X8_ofSign x = some z) : s_lz x.2.2 z := by
  obtain ⟨pc, vs, σ⟩ := x
  unfold S_X8_ofSign at hs
  dsimp only at hs ⊢
  rcases s_ite hs with ⟨c, hs⟩ | ⟨-, hs⟩
  · subst c
    unfold U_X8_ofSign_0 at hs
    obtain ⟨a0, g0, hs⟩ := s_bind hs
    obtain ⟨a1, g1, hs⟩ := s_bind hs
    obtain ⟨a2, g2, hs⟩ := s_bind hs
    obtain ⟨u9, ge, hs⟩ := s_bind hs
    exact l_X8_ofSign_0 hs
  rcases s_ite hs with ⟨c, hs⟩ | ⟨-, hs⟩
  · subst c
    unfold U_X8_ofSign_82 at hs
    obtain ⟨a0, g0, hs⟩ := s_bind hs
    obtain ⟨a1, g1, hs⟩ := s_bind hs
    obtain ⟨a2, g2, hs⟩ := s_bind hs
    obtain ⟨u9, ge, hs⟩ := s_bind hs
    exact l_X8_ofSign_82 hs
  cases hs
theorem l_X8_ofSign {v0 : Nat} {v1 : Int32} {v2 : Int32} {σ : sS} {q : Int32 × sS} (h : F_X8_ofSign v0 v1 v2 σ = some q) : s_le σ q.2 := by
  unfold F_X8_ofSign at h
  obtain ⟨-, -, h⟩ := s_bind h
  exact s_run_ind (V := fun x r => s_le x.2.2 r.2) (fun x z r hs hk => by
    have h9 := l_X8_ofSign_s hs
    cases z with
    | inl y => exact s_le.tr h9 hk
    | inr q => cases hk; exact h9) h
theorem b_X8_ofSign {v0 : Nat} {v1 : Int32} {v2 : Int32} {σ : sS} {q : Int32 × sS} (h : F_X8_ofSign v0 v1 v2 σ = some q) : ∃ fs, σ.1 v0 = some (.inr (8, fs)) := by
  unfold F_X8_ofSign at h
  obtain ⟨u, hu, -⟩ := s_bind h
  exact s_is_to hu
set_option maxRecDepth 100000 in
set_option maxHeartbeats 4000000 in
theorem v_X8_ofSign_0 {G : sG} {d : Nat} {vs0 : List Value} {σ0 : sS} {v0 : Nat} {v1 : Int32} {v2 : Int32} {σ : sS} {z : sZ Int32} {r : Int32 × sS} (hf : T_X8_ofSign_0 v0 v1 v2 σ = some z) (k : s_K G (d + 2) M_X8_ofSign vs0 σ0 Y_X8_ofSign e_I z r) : s_V G (d + 2) M_X8_ofSign vs0 σ0 Y_X8_ofSign (0, [.ref v0, .int v1, .int v2], σ) (e_I r) := by
  have le0 : s_le σ (e_I r).2 := s_lek hem_I (l_X8_ofSign_0 hf) k
  refine ⟨le0, ?_⟩
  intro p e s m below meth c H locs cells slots ls X I hn1 hn2 hl
  have hn : cells + σ0.2.1 ≤ σ.2.1 ∧ slots + σ0.2.2.1 ≤ σ.2.2.1 := ⟨hn1, hn2⟩
  have hl : lv_has ls 5 [(0, .ref v0), (1, .int v1), (2, .int v2)] := hl
  have hx := X.1
  have hb : c.code = cX8_ofSign := X.2.1
  have hown : s.vm.findClass RX8 = some m.cls := X.2.2.2.2.2.1
  have hts := X.2.2.2.2.2.2.1
  refine W.eq (g2 := F0 m 0 ls []) rfl ?_
  unfold T_X8_ofSign_0 at hf
  obtain ⟨q1, h1, hf⟩ := s_bind hf
  have le2 : s_le q1.2 (e_I r).2 := by
    refine s_lek hem_I ?_ k
    rcases s_ite hf with ⟨-, hf⟩ | ⟨-, hf⟩
    · rcases s_ite hf with ⟨-, hf⟩ | ⟨-, hf⟩
      · cases hf
        exact s_le.rf
      · rcases s_ite hf with ⟨-, hf⟩ | ⟨-, hf⟩
        · obtain ⟨q3, hh, hf⟩ := s_bind hf
          refine s_lz.tr (l_X8_d hh) ?_
          cases hf
          exact s_le.rf
        · rcases s_ite hf with ⟨-, hf⟩ | ⟨-, hf⟩
          · obtain ⟨q2, hh, hf⟩ := s_bind hf
            refine s_lz.tr (l_X8_d hh) ?_
            cases hf
            exact s_le.rf
          · cases hf
            exact s_le.rf
    · rcases s_ite hf with ⟨-, hf⟩ | ⟨-, hf⟩
      · cases hf
        exact s_le.rf
      · cases hf
        exact s_le.rf
  refine lv_iconst (v := 1) hx hb dX8_ofSign_0 (by decide) ?_
  refine lv_aload_n hx hb dX8_ofSign_1 rfl (lv_at hl 0 rfl) ?_
  refine r_callV (Y := M_X8_d) (v := some (.int q1.1)) X I w_1889 my_X8_d (by omega) (t_X8_d (G := G) (d := d + 0) h1) (b_X8_d h1) rfl rfl hl.1 rfl (Nat.le_of_ble_eq_true rfl) hn le2 dX8_ofSign_2 (fun H locs cells slots I hn1 hn2 => ?_)
  have I : s_I G q1.2 s H locs := I
  have hn : cells + σ0.2.1 ≤ q1.2.2.1 ∧ slots + σ0.2.2.1 ≤ q1.2.2.2.1 := ⟨hn1, hn2⟩
  refine lv_ishl hx hb dX8_ofSign_5 ?_
  refine lv_iconst (v := 1) hx hb dX8_ofSign_6 (by decide) ?_
  refine lv_isub hx hb dX8_ofSign_7 ?_
  refine lv_istore_n (lv' := [(3, .int ((1 <<< (q1.1 &&& 31)) - 1)), (0, .ref v0), (1, .int v1), (2, .int v2)]) hx hb dX8_ofSign_8 rfl hl (by decide) rfl (fun ls hl => ?_)
  refine lv_iload_n hx hb dX8_ofSign_9 rfl (lv_at hl 2 rfl) ?_
  refine lv_iconst (v := 4) hx hb dX8_ofSign_10 (by decide) ?_
  rcases s_ite hf with ⟨c3, hf⟩ | ⟨c3, hf⟩
  · refine lv_icmp_ge (tgt := 29) hx hb dX8_ofSign_11 (by decide) (fun _ => ?_) (fun n => absurd c3 n)
    refine lv_iload_n hx hb dX8_ofSign_29 rfl (lv_at hl 2 rfl) ?_
    refine lv_iconst (v := 4) hx hb dX8_ofSign_30 (by decide) ?_
    rcases s_ite hf with ⟨c4, hf⟩ | ⟨c4, hf⟩
    · refine lv_icmp_ne (tgt := 40) hx hb dX8_ofSign_31 (by decide) (fun n => absurd c4 n) (fun _ => ?_)
      cases hf
      have k : _ = r := k
      subst k
      refine lv_iload_n hx hb dX8_ofSign_34 rfl (lv_at hl 3 rfl) ?_
      refine lv_iconst (v := 4) hx hb dX8_ofSign_35 (by decide) ?_
      refine lv_ishr hx hb dX8_ofSign_36 ?_
      refine lv_iload_n hx hb dX8_ofSign_37 rfl (lv_at hl 0 rfl) ?_
      refine lv_iand hx hb dX8_ofSign_38 ?_
      exact r_iret X I rfl rfl rfl hn dX8_ofSign_39
    · refine lv_icmp_ne (tgt := 40) hx hb dX8_ofSign_31 (by decide) (fun _ => ?_) (fun n => absurd n c4)
      refine lv_iload_n hx hb dX8_ofSign_40 rfl (lv_at hl 2 rfl) ?_
      refine lv_iconst (v := 5) hx hb dX8_ofSign_41 (by decide) ?_
      rcases s_ite hf with ⟨c5, hf⟩ | ⟨c5, hf⟩
      · refine lv_icmp_ne (tgt := 56) hx hb dX8_ofSign_42 (by decide) (fun n => absurd c5 n) (fun _ => ?_)
        obtain ⟨q3, h6, hf⟩ := s_bind hf
        cases hf
        have k : _ = r := k
        subst k
        have le7 : s_le q3.2 q3.2 := s_le.rf
        refine lv_iload_n hx hb dX8_ofSign_45 rfl (lv_at hl 3 rfl) ?_
        refine lv_iconst (v := 4) hx hb dX8_ofSign_46 (by decide) ?_
        refine lv_aload_n hx hb dX8_ofSign_47 rfl (lv_at hl 1 rfl) ?_
        refine r_callV (Y := M_X8_d) (v := some (.int q3.1)) X I w_1889 my_X8_d (by omega) (t_X8_d (G := G) (d := d + 0) h6) (b_X8_d h6) rfl rfl hl.1 rfl (Nat.le_of_ble_eq_true rfl) hn le7 dX8_ofSign_48 (fun H locs cells slots I hn1 hn2 => ?_)
        have I : s_I G q3.2 s H locs := I
        have hn : cells + σ0.2.1 ≤ q3.2.2.1 ∧ slots + σ0.2.2.1 ≤ q3.2.2.2.1 := ⟨hn1, hn2⟩
        refine lv_iadd hx hb dX8_ofSign_51 ?_
        refine lv_ishr hx hb dX8_ofSign_52 ?_
        refine lv_iload_n hx hb dX8_ofSign_53 rfl (lv_at hl 0 rfl) ?_
        refine lv_iand hx hb dX8_ofSign_54 ?_
        exact r_iret X I rfl rfl rfl hn dX8_ofSign_55
      · refine lv_icmp_ne (tgt := 56) hx hb dX8_ofSign_42 (by decide) (fun _ => ?_) (fun n => absurd n c5)
        refine lv_iload_n hx hb dX8_ofSign_56 rfl (lv_at hl 2 rfl) ?_
        refine lv_bipush (v := 9) hx hb dX8_ofSign_57 (by decide) ?_
        rcases s_ite hf with ⟨c8, hf⟩ | ⟨c8, hf⟩
        · refine lv_icmp_ge (tgt := 71) hx hb dX8_ofSign_59 (by decide) (fun _ => ?_) (fun n => absurd c8 n)
          obtain ⟨q2, h9, hf⟩ := s_bind hf
          cases hf
          have k : s_V G (d + 2) M_X8_ofSign vs0 σ0 Y_X8_ofSign (82, [.int v2, .int ((1 <<< (q1.1 &&& 31)) - 1), .int (((4 + q2.1) + v1) - 9)], q2.2) (e_I r) := k
          have le10 : s_le q2.2 (e_I r).2 := k.1
          refine lv_iconst (v := 4) hx hb dX8_ofSign_71 (by decide) ?_
          refine lv_aload_n hx hb dX8_ofSign_72 rfl (lv_at hl 1 rfl) ?_
          refine r_callV (Y := M_X8_d) (v := some (.int q2.1)) X I w_1889 my_X8_d (by omega) (t_X8_d (G := G) (d := d + 0) h9) (b_X8_d h9) rfl rfl hl.1 rfl (Nat.le_of_ble_eq_true rfl) hn le10 dX8_ofSign_73 (fun H locs cells slots I hn1 hn2 => ?_)
          have I : s_I G q2.2 s H locs := I
          have hn : cells + σ0.2.1 ≤ q2.2.2.1 ∧ slots + σ0.2.2.1 ≤ q2.2.2.2.1 := ⟨hn1, hn2⟩
          refine lv_iadd hx hb dX8_ofSign_76 ?_
          refine lv_iload_n hx hb dX8_ofSign_77 rfl (lv_at hl 2 rfl) ?_
          refine lv_iadd hx hb dX8_ofSign_78 ?_
          refine lv_bipush (v := 9) hx hb dX8_ofSign_79 (by decide) ?_
          refine lv_isub hx hb dX8_ofSign_81 ?_
          exact k.2 p e s m below meth c _ _ _ _ _ X I hn.1 hn.2 (lv_sub hl [3, 0] rfl)
        · refine lv_icmp_ge (tgt := 71) hx hb dX8_ofSign_59 (by decide) (fun n => absurd n c8) (fun _ => ?_)
          cases hf
          have k : s_V G (d + 2) M_X8_ofSign vs0 σ0 Y_X8_ofSign (82, [.int v2, .int ((1 <<< (q1.1 &&& 31)) - 1), .int ((4 + v1) - 6)], q1.2) (e_I r) := k
          refine lv_iconst (v := 4) hx hb dX8_ofSign_62 (by decide) ?_
          refine lv_iload_n hx hb dX8_ofSign_63 rfl (lv_at hl 2 rfl) ?_
          refine lv_iadd hx hb dX8_ofSign_64 ?_
          refine lv_bipush (v := 6) hx hb dX8_ofSign_65 (by decide) ?_
          refine lv_isub hx hb dX8_ofSign_67 ?_
          refine lv_goto (tgt := 82) hx hb dX8_ofSign_68 (by decide) ?_
          exact k.2 p e s m below meth c _ _ _ _ _ X I hn.1 hn.2 (lv_sub hl [3, 0] rfl)
  · refine lv_icmp_ge (tgt := 29) hx hb dX8_ofSign_11 (by decide) (fun n => absurd n c3) (fun _ => ?_)
    refine lv_iload_n hx hb dX8_ofSign_14 rfl (lv_at hl 3 rfl) ?_
    refine lv_iload_n hx hb dX8_ofSign_15 rfl (lv_at hl 2 rfl) ?_
    refine lv_ishr hx hb dX8_ofSign_16 ?_
    refine lv_iconst (v := 1) hx hb dX8_ofSign_17 (by decide) ?_
    refine lv_iand hx hb dX8_ofSign_18 ?_
    refine lv_iconst (v := 1) hx hb dX8_ofSign_19 (by decide) ?_
    rcases s_ite hf with ⟨c11, hf⟩ | ⟨c11, hf⟩
    · refine lv_icmp_ne (tgt := 27) hx hb dX8_ofSign_20 (by decide) (fun n => absurd c11 n) (fun _ => ?_)
      cases hf
      have k : _ = r := k
      subst k
      refine lv_iload_n hx hb dX8_ofSign_23 rfl (lv_at hl 0 rfl) ?_
      refine lv_goto (tgt := 28) hx hb dX8_ofSign_24 (by decide) ?_
      exact r_iret X I rfl rfl rfl hn dX8_ofSign_28
    · refine lv_icmp_ne (tgt := 27) hx hb dX8_ofSign_20 (by decide) (fun _ => ?_) (fun n => absurd n c11)
      cases hf
      have k : _ = r := k
      subst k
      refine lv_iconst (v := 0) hx hb dX8_ofSign_27 (by decide) ?_
      exact r_iret X I rfl rfl rfl hn dX8_ofSign_28
set_option maxRecDepth 100000 in
set_option maxHeartbeats 4000000 in
theorem v_X8_ofSign_82 {G : sG} {d : Nat} {vs0 : List Value} {σ0 : sS} {v2 : Int32} {v3 : Int32} {w0 : Int32} {σ : sS} {z : sZ Int32} {r : Int32 × sS} (hf : T_X8_ofSign_82 v2 v3 w0 σ = some z) (k : s_K G (d + 2) M_X8_ofSign vs0 σ0 Y_X8_ofSign e_I z r) : s_V G (d + 2) M_X8_ofSign vs0 σ0 Y_X8_ofSign (82, [.int v2, .int v3, .int w0], σ) (e_I r) := by
  have le0 : s_le σ (e_I r).2 := s_lek hem_I (l_X8_ofSign_82 hf) k
  refine ⟨le0, ?_⟩
  intro p e s m below meth c H locs cells slots ls X I hn1 hn2 hl
  have hn : cells + σ0.2.1 ≤ σ.2.1 ∧ slots + σ0.2.2.1 ≤ σ.2.2.1 := ⟨hn1, hn2⟩
  have hl : lv_has ls 5 [(2, .int v2), (3, .int v3)] := hl
  have hx := X.1
  have hb : c.code = cX8_ofSign := X.2.1
  have hown : s.vm.findClass RX8 = some m.cls := X.2.2.2.2.2.1
  have hts := X.2.2.2.2.2.2.1
  refine W.eq (g2 := F0 m 82 ls [.int w0]) rfl ?_
  unfold T_X8_ofSign_82 at hf
  refine lv_istore (lv' := [(4, .int w0), (2, .int v2), (3, .int v3)]) hx hb dX8_ofSign_82 hl (by decide) rfl (fun ls hl => ?_)
  refine lv_iload_n hx hb dX8_ofSign_84 rfl (lv_at hl 1 rfl) ?_
  refine lv_iload hx hb dX8_ofSign_85 (lv_at hl 0 rfl) ?_
  refine lv_ishr hx hb dX8_ofSign_87 ?_
  refine lv_iconst (v := 1) hx hb dX8_ofSign_88 (by decide) ?_
  refine lv_iand hx hb dX8_ofSign_89 ?_
  refine lv_iconst (v := 1) hx hb dX8_ofSign_90 (by decide) ?_
  rcases s_ite hf with ⟨c1, hf⟩ | ⟨c1, hf⟩
  · refine lv_icmp_ne (tgt := 98) hx hb dX8_ofSign_91 (by decide) (fun n => absurd c1 n) (fun _ => ?_)
    cases hf
    have k : _ = r := k
    subst k
    refine lv_iload_n hx hb dX8_ofSign_94 rfl (lv_at hl 2 rfl) ?_
    refine lv_goto (tgt := 99) hx hb dX8_ofSign_95 (by decide) ?_
    exact r_iret X I rfl rfl rfl hn dX8_ofSign_99
  · refine lv_icmp_ne (tgt := 98) hx hb dX8_ofSign_91 (by decide) (fun _ => ?_) (fun n => absurd n c1)
    cases hf
    have k : _ = r := k
    subst k
    refine lv_iconst (v := 0) hx hb dX8_ofSign_98 (by decide) ?_
    exact r_iret X I rfl rfl rfl hn dX8_ofSign_99
theorem v_X8_ofSign {G : sG} {d : Nat} {vs0 : List Value} {σ0 : sS} {x : sL} {z : sZ Int32} {r : Int32 × sS} (hs : S_X8_ofSign x = some z) (k : s_K G (d + 2) M_X8_ofSign vs0 σ0 Y_X8_ofSign e_I z r) : s_V G (d + 2) M_X8_ofSign vs0 σ0 Y_X8_ofSign x (e_I r) := by
  obtain ⟨pc, vs, σ⟩ := x
  unfold S_X8_ofSign at hs
  dsimp only at hs
  rcases s_ite hs with ⟨c, hs⟩ | ⟨-, hs⟩
  · subst c
    unfold U_X8_ofSign_0 at hs
    obtain ⟨a0, g0, hs⟩ := s_bind hs
    obtain ⟨a1, g1, hs⟩ := s_bind hs
    obtain ⟨a2, g2, hs⟩ := s_bind hs
    obtain ⟨u9, ge, hs⟩ := s_bind hs
    rw [g_r_to g0, g_i_to g1, g_i_to g2, g_e_to ge]
    exact v_X8_ofSign_0 hs k
  rcases s_ite hs with ⟨c, hs⟩ | ⟨-, hs⟩
  · subst c
    unfold U_X8_ofSign_82 at hs
    obtain ⟨a0, g0, hs⟩ := s_bind hs
    obtain ⟨a1, g1, hs⟩ := s_bind hs
    obtain ⟨a2, g2, hs⟩ := s_bind hs
    obtain ⟨u9, ge, hs⟩ := s_bind hs
    rw [g_i_to g0, g_i_to g1, g_i_to g2, g_e_to ge]
    exact v_X8_ofSign_82 hs k
  cases hs
theorem t_X8_ofSign {G : sG} {d : Nat} {v0 : Nat} {v1 : Int32} {v2 : Int32} {σ : sS} {q : Int32 × sS} (h : F_X8_ofSign v0 v1 v2 σ = some q) : s_T G (d + 2) M_X8_ofSign [.ref v0, .int v1, .int v2] σ (e_I q) := by
  unfold F_X8_ofSign at h
  obtain ⟨-, -, h⟩ := s_bind h
  exact s_ofV rfl (by decide) (Nat.le_of_ble_eq_true rfl) rfl rfl (s_run_ind (V := fun x r => s_V G (d + 2) M_X8_ofSign [.ref v0, .int v1, .int v2] σ Y_X8_ofSign x (e_I r)) (fun x z r hs hk => v_X8_ofSign hs (by cases z <;> exact hk)) h)
