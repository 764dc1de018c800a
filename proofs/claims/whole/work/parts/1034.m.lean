/-! X7_withdraw -/
noncomputable def T_X7_withdraw_0 (v0 : Nat) (v1 : Int32) (σ : sS) : Option (sZ (Int32 ⊕ String)) :=
  (F_X7_needSet v0 v1 σ).bind fun q1 => s_sum q1.1 (fun x2 => (s_fr q1.2 v0 7 4).bind fun x4 =>
  (F_X3_fewestFailing x4 x2 q1.2).bind fun q5 =>
  some (.inr (.inl q5.1, q5.2))) (fun E3 => some (.inr (.inr E3, q1.2)))
noncomputable def U_X7_withdraw_0 (vs : List Value) (σ : sS) : Option (sZ (Int32 ⊕ String)) := (g_r vs).bind fun a0 => (g_i a0.2).bind fun a1 => (g_e a1.2).bind fun _ => T_X7_withdraw_0 a0.1 a1.1 σ
noncomputable def S_X7_withdraw (x : sL) : Option (sZ (Int32 ⊕ String)) := if x.1 = 0 then U_X7_withdraw_0 x.2.1 x.2.2 else none
def Y_X7_withdraw (pc : Nat) : List Nat := if pc = 0 then [0, 1] else []
noncomputable def F_X7_withdraw (v0 : Nat) (v1 : Int32) (σ : sS) : Option ((Int32 ⊕ String) × sS) := (s_is σ v0 7).bind fun _ => s_run S_X7_withdraw (0, [.ref v0, .int v1], σ)
theorem l_X7_withdraw_0 {v0 : Nat} {v1 : Int32} {σ : sS} {z : sZ (Int32 ⊕ String)} (hf : T_X7_withdraw_0 v0 v1 σ = some z) : s_lz σ z := by
  unfold T_X7_withdraw_0 at hf
  obtain ⟨q1, hh, hf⟩ := s_bind hf
  refine s_lz.tr (l_X7_needSet hh) ?_
  rcases s_sum_some hf with ⟨x2, -, hf⟩ | ⟨E3, -, hf⟩
  · obtain ⟨x4, -, hf⟩ := s_bind hf
    obtain ⟨q5, hh, hf⟩ := s_bind hf
    refine s_lz.tr (l_X3_fewestFailing hh) ?_
    cases hf
    exact s_le.rf
  · cases hf
    exact s_le.rf
theorem l_X7_withdraw_s {x : sL} {z : sZ (Int32 ⊕ String)} (hs : S_X7_withdraw x = some z) : s_lz x.2.2 z := by
  obtain ⟨pc, vs, σ⟩ := x
  unfold S_X7_withdraw at hs
  dsimp only at hs ⊢
  rcases s_ite hs with ⟨c, hs⟩ | ⟨-, hs⟩
  · subst c
    unfold U_X7_withdraw_0 at hs
    obtain ⟨a0, g0, hs⟩ := s_bind hs
    obtain ⟨a1, g1, hs⟩ := s_bind hs
    obtain ⟨u9, ge, hs⟩ := s_bind hs
    exact l_X7_withdraw_0 hs
  cases hs
theorem l_X7_withdraw {v0 : Nat} {v1 : Int32} {σ : sS} {q : (Int32 ⊕ String) × sS} (h : F_X7_withdraw v0 v1 σ = some q) : s_le σ q.2 := by
  unfold F_X7_withdraw at h
  obtain ⟨-, -, h⟩ := s_bind h
  exact s_run_ind (V := fun x r => s_le x.2.2 r.2) (fun x z r hs hk => by
    have h9 := l_X7_withdraw_s hs
    cases z with
    | inl y => exact s_le.tr h9 hk
    | inr q => cases hk; exact h9) h
theorem b_X7_withdraw {v0 : Nat} {v1 : Int32} {σ : sS} {q : (Int32 ⊕ String) × sS} (h : F_X7_withdraw v0 v1 σ = some q) : ∃ fs, σ.1 v0 = some (.inr (7, fs)) := by
  unfold F_X7_withdraw at h
  obtain ⟨u, hu, -⟩ := s_bind h
  exact s_is_to hu
set_option maxRecDepth 100000 in
set_option maxHeartbeats 4000000 in
theorem v_X7_withdraw_0 {G : sG} {d : Nat} {vs0 : List Value} {σ0 : sS} {v0 : Nat} {v1 : Int32} {σ : sS} {z : sZ (Int32 ⊕ String)} {r : (Int32 ⊕ String) × sS} (hf : T_X7_withdraw_0 v0 v1 σ = some z) (k : s_K G (d + 5) M_X7_withdraw vs0 σ0 Y_X7_withdraw e_IX z r) : s_V G (d + 5) M_X7_withdraw vs0 σ0 Y_X7_withdraw (0, [.ref v0, .int v1], σ) (e_IX r) := by
  have le0 : s_le σ (e_IX r).2 := s_lek hem_IX (l_X7_withdraw_0 hf) k
  refine ⟨le0, ?_⟩
  intro p e s m below meth c H locs cells slots ls X I hn1 hn2 hl
  have hn : cells + σ0.2.1 ≤ σ.2.1 ∧ slots + σ0.2.2.1 ≤ σ.2.2.1 := ⟨hn1, hn2⟩
  have hl : lv_has ls 3 [(0, .ref v0), (1, .int v1)] := hl
  have hx := X.1
  have hb : c.code = cX7_withdraw := X.2.1
  have hown : s.vm.findClass RX7 = some m.cls := X.2.2.2.2.2.1
  have hts := X.2.2.2.2.2.2.1
  refine W.eq (g2 := F0 m 0 ls []) rfl ?_
  unfold T_X7_withdraw_0 at hf
  obtain ⟨q1, h1, hf⟩ := s_bind hf
  refine lv_aload_n hx hb dX7_withdraw_0 rfl (lv_at hl 0 rfl) ?_
  refine lv_iload_n hx hb dX7_withdraw_1 rfl (lv_at hl 1 rfl) ?_
  rcases s_sum_some hf with ⟨x2, hq2, hf⟩ | ⟨E3, hq2, hf⟩
  · have le3 : s_le q1.2 (e_IX r).2 := by
      refine s_lek hem_IX ?_ k
      obtain ⟨x4, -, hf⟩ := s_bind hf
      obtain ⟨q5, hh, hf⟩ := s_bind hf
      refine s_lz.tr (l_X3_fewestFailing hh) ?_
      cases hf
      exact s_le.rf
    refine r_callV (Y := M_X7_needSet) (v := some (.int x2)) X I w_1467 my_X7_needSet (by omega) (t_X7_needSet (G := G) (d := d + 2) h1) (b_X7_needSet h1) (e_IX_l hq2) rfl hl.1 rfl (Nat.le_of_ble_eq_true rfl) hn le3 dX7_withdraw_2 (fun H locs cells slots I hn1 hn2 => ?_)
    have I : s_I G q1.2 s H locs := I
    have hn : cells + σ0.2.1 ≤ q1.2.2.1 ∧ slots + σ0.2.2.1 ≤ q1.2.2.2.1 := ⟨hn1, hn2⟩
    obtain ⟨x4, h4, hf⟩ := s_bind hf
    obtain ⟨q5, h5, hf⟩ := s_bind hf
    cases hf
    have k : _ = r := k
    subst k
    have le6 : s_le q5.2 q5.2 := s_le.rf
    refine lv_istore_n (lv' := [(2, .int x2), (0, .ref v0), (1, .int v1)]) hx hb dX7_withdraw_5 rfl hl (by decide) rfl (fun ls hl => ?_)
    refine lv_aload_n hx hb dX7_withdraw_6 rfl (lv_at hl 1 rfl) ?_
    refine r_gr X I fl_X7_40 h4 dX7_withdraw_7 ?_
    refine lv_iload_n hx hb dX7_withdraw_10 rfl (lv_at hl 0 rfl) ?_
    refine r_callV (Y := M_X3_fewestFailing) (v := some (.int q5.1)) X I w_1472 my_X3_fewestFailing (by omega) (t_X3_fewestFailing (G := G) (d := d + 0) h5) (b_X3_fewestFailing h5) rfl rfl hl.1 rfl (Nat.le_of_ble_eq_true rfl) hn le6 dX7_withdraw_11 (fun H locs cells slots I hn1 hn2 => ?_)
    have I : s_I G q5.2 s H locs := I
    have hn : cells + σ0.2.1 ≤ q5.2.2.1 ∧ slots + σ0.2.2.1 ≤ q5.2.2.2.1 := ⟨hn1, hn2⟩
    exact r_iret X I rfl rfl rfl hn dX7_withdraw_14
  · cases hf
    have k : _ = r := k
    subst k
    exact r_callVx (Y := M_X7_needSet) X I rfl w_1467 my_X7_needSet (by omega) (t_X7_needSet (G := G) (d := d + 2) h1) (b_X7_needSet h1) (e_IX_r hq2) rfl hl.1 rfl (Nat.le_of_ble_eq_true rfl) hn rfl dX7_withdraw_2
theorem v_X7_withdraw {G : sG} {d : Nat} {vs0 : List Value} {σ0 : sS} {x : sL} {z : sZ (Int32 ⊕ String)} {r : (Int32 ⊕ String) × sS} (hs : S_X7_withdraw x = some z) (k : s_K G (d + 5) M_X7_withdraw vs0 σ0 Y_X7_withdraw e_IX z r) : s_V G (d + 5) M_X7_withdraw vs0 σ0 Y_X7_withdraw x (e_IX r) := by
  obtain ⟨pc, vs, σ⟩ := x
  unfold S_X7_withdraw at hs
  dsimp only at hs
  rcases s_ite hs with ⟨c, hs⟩ | ⟨-, hs⟩
  · subst c
    unfold U_X7_withdraw_0 at hs
    obtain ⟨a0, g0, hs⟩ := s_bind hs
    obtain ⟨a1, g1, hs⟩ := s_bind hs
    obtain ⟨u9, ge, hs⟩ := s_bind hs
    rw [g_r_to g0, g_i_to g1, g_e_to ge]
    exact v_X7_withdraw_0 hs k
  cases hs
theorem t_X7_withdraw {G : sG} {d : Nat} {v0 : Nat} {v1 : Int32} {σ : sS} {q : (Int32 ⊕ String) × sS} (h : F_X7_withdraw v0 v1 σ = some q) : s_T G (d + 5) M_X7_withdraw [.ref v0, .int v1] σ (e_IX q) := by
  unfold F_X7_withdraw at h
  obtain ⟨-, -, h⟩ := s_bind h
  exact s_ofV rfl (by decide) (Nat.le_of_ble_eq_true rfl) rfl rfl (s_run_ind (V := fun x r => s_V G (d + 5) M_X7_withdraw [.ref v0, .int v1] σ Y_X7_withdraw x (e_IX r)) (fun x z r hs hk => v_X7_withdraw hs (by cases z <;> exact hk)) h)
/-! L_withdraw -/
noncomputable def T_L_withdraw_0 (v0 : Nat) (v1 : Int32) (v2 : Nat) (σ : sS) : Option (sZ Int32) :=
  (F_X7_withdraw v0 v1 σ).bind fun q1 => s_sum q1.1 (fun x2 => (s_sl q1.2 v2 0 ((x2 : Int32).toInt64)).bind fun σ4 =>
  some (.inr (0, σ4))) (fun E3 => if E3 = "java/lang/IllegalArgumentException" then (some (.inr (1, q1.2))) else none)
noncomputable def U_L_withdraw_0 (vs : List Value) (σ : sS) : Option (sZ Int32) := (g_r vs).bind fun a0 => (g_i a0.2).bind fun a1 => (g_r a1.2).bind fun a2 => (g_e a2.2).bind fun _ => T_L_withdraw_0 a0.1 a1.1 a2.1 σ
noncomputable def S_L_withdraw (x : sL) : Option (sZ Int32) := if x.1 = 0 then U_L_withdraw_0 x.2.1 x.2.2 else none
def Y_L_withdraw (pc : Nat) : List Nat := if pc = 0 then [0, 1, 2] else []
noncomputable def F_L_withdraw (v0 : Nat) (v1 : Int32) (v2 : Nat) (σ : sS) : Option (Int32 × sS) := s_run S_L_withdraw (0, [.ref v0, .int v1, .ref v2], σ)
theorem l_L_withdraw_0 {v0 : Nat} {v1 : Int32} {v2 : Nat} {σ : sS} {z : sZ Int32} (hf : T_L_withdraw_0 v0 v1 v2 σ = some z) : s_lz σ z := by
  unfold T_L_withdraw_0 at hf
  obtain ⟨q1, hh, hf⟩ := s_bind hf
  refine s_lz.tr (l_X7_withdraw hh) ?_
  rcases s_sum_some hf with ⟨x2, -, hf⟩ | ⟨E3, -, hf⟩
  · obtain ⟨σ4, hh, hf⟩ := s_bind hf
    refine s_lz.tr (s_le2 (s_sl_2 hh)) ?_
    cases hf
    exact s_le.rf
  · rcases s_ite hf with ⟨-, hf⟩ | ⟨-, hf⟩
    · cases hf
      exact s_le.rf
    cases hf
theorem l_L_withdraw_s {x : sL} {z : sZ Int32} (hs : S_L_withdraw x = some z) : s_lz x.2.2 z := by
  obtain ⟨pc, vs, σ⟩ := x
  unfold S_L_withdraw at hs
  dsimp only at hs ⊢
  rcases s_ite hs with ⟨c, hs⟩ | ⟨-, hs⟩
  · subst c
    unfold U_L_withdraw_0 at hs
    obtain ⟨a0, g0, hs⟩ := s_bind hs
    obtain ⟨a1, g1, hs⟩ := s_bind hs
    obtain ⟨a2, g2, hs⟩ := s_bind hs
    obtain ⟨u9, ge, hs⟩ := s_bind hs
    exact l_L_withdraw_0 hs
  cases hs
theorem l_L_withdraw {v0 : Nat} {v1 : Int32} {v2 : Nat} {σ : sS} {q : Int32 × sS} (h : F_L_withdraw v0 v1 v2 σ = some q) : s_le σ q.2 := by
  unfold F_L_withdraw at h
  exact s_run_ind (V := fun x r => s_le x.2.2 r.2) (fun x z r hs hk => by
    have h9 := l_L_withdraw_s hs
    cases z with
    | inl y => exact s_le.tr h9 hk
    | inr q => cases hk; exact h9) h
set_option maxRecDepth 100000 in
set_option maxHeartbeats 4000000 in
theorem v_L_withdraw_0 {G : sG} {d : Nat} {vs0 : List Value} {σ0 : sS} {v0 : Nat} {v1 : Int32} {v2 : Nat} {σ : sS} {z : sZ Int32} {r : Int32 × sS} (hf : T_L_withdraw_0 v0 v1 v2 σ = some z) (k : s_K G (d + 6) M_L_withdraw vs0 σ0 Y_L_withdraw e_I z r) : s_V G (d + 6) M_L_withdraw vs0 σ0 Y_L_withdraw (0, [.ref v0, .int v1, .ref v2], σ) (e_I r) := by
  have le0 : s_le σ (e_I r).2 := s_lek hem_I (l_L_withdraw_0 hf) k
  refine ⟨le0, ?_⟩
  intro p e s m below meth c H locs cells slots ls X I hn1 hn2 hl
  have hn : cells + σ0.2.1 ≤ σ.2.1 ∧ slots + σ0.2.2.1 ≤ σ.2.2.1 := ⟨hn1, hn2⟩
  have hl : lv_has ls 4 [(0, .ref v0), (1, .int v1), (2, .ref v2)] := hl
  have hx := X.1
  have hb : c.code = cL_withdraw := X.2.1
  have hown : s.vm.findClass RL = some m.cls := X.2.2.2.2.2.1
  have hts := X.2.2.2.2.2.2.1
  refine W.eq (g2 := F0 m 0 ls []) rfl ?_
  unfold T_L_withdraw_0 at hf
  obtain ⟨q1, h1, hf⟩ := s_bind hf
  refine lv_aload_n hx hb dL_withdraw_0 rfl (lv_at hl 2 rfl) ?_
  refine lv_iconst (v := 0) hx hb dL_withdraw_1 (by decide) ?_
  refine lv_aload_n hx hb dL_withdraw_2 rfl (lv_at hl 0 rfl) ?_
  refine lv_iload_n hx hb dL_withdraw_3 rfl (lv_at hl 1 rfl) ?_
  rcases s_sum_some hf with ⟨x2, hq2, hf⟩ | ⟨E3, hq2, hf⟩
  · have le3 : s_le q1.2 (e_I r).2 := by
      refine s_lek hem_I ?_ k
      obtain ⟨σ4, hh, hf⟩ := s_bind hf
      refine s_lz.tr (s_le2 (s_sl_2 hh)) ?_
      cases hf
      exact s_le.rf
    refine r_callV (Y := M_X7_withdraw) (v := some (.int x2)) X I w_1463 my_X7_withdraw (by omega) (t_X7_withdraw (G := G) (d := d + 0) h1) (b_X7_withdraw h1) (e_IX_l hq2) rfl hl.1 rfl (Nat.le_of_ble_eq_true rfl) hn le3 dL_withdraw_4 (fun H locs cells slots I hn1 hn2 => ?_)
    have I : s_I G q1.2 s H locs := I
    have hn : cells + σ0.2.1 ≤ q1.2.2.1 ∧ slots + σ0.2.2.1 ≤ q1.2.2.2.1 := ⟨hn1, hn2⟩
    obtain ⟨σ4, h4, hf⟩ := s_bind hf
    cases hf
    have k : _ = r := k
    subst k
    have le5 : s_le σ4 σ4 := s_le.rf
    refine lv_i2l hx hb dL_withdraw_7 rfl ?_
    refine r_last X I h4 dL_withdraw_8 (fun H locs I => ?_)
    have hn := s_k2 (s_sl_2 h4) hn
    refine lv_goto (tgt := 15) hx hb dL_withdraw_9 (by decide) ?_
    refine lv_iconst (v := 0) hx hb dL_withdraw_15 (by decide) ?_
    exact r_iret X I rfl rfl rfl hn dL_withdraw_16
  · rcases s_ite hf with ⟨c6, hf⟩ | ⟨c6, hf⟩
    · subst c6
      have le7 : s_le q1.2 (e_I r).2 := by
        refine s_lek hem_I ?_ k
        cases hf
        exact s_le.rf
      refine r_callVh (x := (0, 9, 12, 13)) (Y := M_X7_withdraw) (E := "java/lang/IllegalArgumentException") (name := "java/lang/IllegalArgumentException") X I [] [] rfl (fun z hz => by cases hz) rfl (by decide) w_691 (by decide +kernel) w_1463 my_X7_withdraw (by omega) (t_X7_withdraw (G := G) (d := d + 0) h1) (b_X7_withdraw h1) (e_IX_r hq2) rfl hl.1 rfl (Nat.le_of_ble_eq_true rfl) hn le7 dL_withdraw_4 (fun a5 H locs cells slots I hn1 hn2 => ?_)
      have I : s_I G q1.2 s H locs := I
      have hn : cells + σ0.2.1 ≤ q1.2.2.1 ∧ slots + σ0.2.2.1 ≤ q1.2.2.2.1 := ⟨hn1, hn2⟩
      cases hf
      have k : _ = r := k
      subst k
      refine lv_astore_n (lv' := [(3, .ref a5), (0, .ref v0), (1, .int v1), (2, .ref v2)]) hx hb dL_withdraw_12 rfl hl (by decide) rfl (fun ls hl => ?_)
      refine lv_iconst (v := 1) hx hb dL_withdraw_13 (by decide) ?_
      exact r_iret X I rfl rfl rfl hn dL_withdraw_14
    cases hf
theorem v_L_withdraw {G : sG} {d : Nat} {vs0 : List Value} {σ0 : sS} {x : sL} {z : sZ Int32} {r : Int32 × sS} (hs : S_L_withdraw x = some z) (k : s_K G (d + 6) M_L_withdraw vs0 σ0 Y_L_withdraw e_I z r) : s_V G (d + 6) M_L_withdraw vs0 σ0 Y_L_withdraw x (e_I r) := by
  obtain ⟨pc, vs, σ⟩ := x
  unfold S_L_withdraw at hs
  dsimp only at hs
  rcases s_ite hs with ⟨c, hs⟩ | ⟨-, hs⟩
  · subst c
    unfold U_L_withdraw_0 at hs
    obtain ⟨a0, g0, hs⟩ := s_bind hs
    obtain ⟨a1, g1, hs⟩ := s_bind hs
    obtain ⟨a2, g2, hs⟩ := s_bind hs
    obtain ⟨u9, ge, hs⟩ := s_bind hs
    rw [g_r_to g0, g_i_to g1, g_r_to g2, g_e_to ge]
    exact v_L_withdraw_0 hs k
  cases hs
theorem t_L_withdraw {G : sG} {d : Nat} {v0 : Nat} {v1 : Int32} {v2 : Nat} {σ : sS} {q : Int32 × sS} (h : F_L_withdraw v0 v1 v2 σ = some q) : s_T G (d + 6) M_L_withdraw [.ref v0, .int v1, .ref v2] σ (e_I q) := by
  unfold F_L_withdraw at h
  exact s_ofVH rfl (by decide) (Nat.le_of_ble_eq_true rfl) rfl rfl (s_run_ind (V := fun x r => s_V G (d + 6) M_L_withdraw [.ref v0, .int v1, .ref v2] σ Y_L_withdraw x (e_I r)) (fun x z r hs hk => v_L_withdraw hs (by cases z <;> exact hk)) h)
/-! X8_fails -/
noncomputable def T_X8_fails_0 (v0 : Nat) (v1 : Int32) (σ : sS) : Option (sZ Int32) :=
  (F_X8_formulas v0 σ).bind fun q1 =>
  some (.inl (13, [.ref v0, .int (v1 &&& ((1 <<< (q1.1 &&& 31)) - 1)), .int 0], q1.2))
noncomputable def U_X8_fails_0 (vs : List Value) (σ : sS) : Option (sZ Int32) := (g_r vs).bind fun a0 => (g_i a0.2).bind fun a1 => (g_e a1.2).bind fun _ => T_X8_fails_0 a0.1 a1.1 σ
noncomputable def T_X8_fails_13 (v0 : Nat) (v2 : Int32) (v3 : Int32) (σ : sS) : Option (sZ Int32) :=
  (F_X8_worldsMany v0 σ).bind fun q1 =>
  if q1.1 ≤ v3 then (some (.inr (v2, q1.2)))
  else ((s_fr q1.2 v0 8 20).bind fun x2 =>
  (s_si q1.2 x2 v3 0).bind fun σ3 =>
  some (.inl (31, [.ref v0, .int v2, .int v3, .int 0], σ3)))
noncomputable def U_X8_fails_13 (vs : List Value) (σ : sS) : Option (sZ Int32) := (g_r vs).bind fun a0 => (g_i a0.2).bind fun a1 => (g_i a1.2).bind fun a2 => (g_e a2.2).bind fun _ => T_X8_fails_13 a0.1 a1.1 a2.1 σ
noncomputable def T_X8_fails_31 (v0 : Nat) (v2 : Int32) (v3 : Int32) (v4 : Int32) (σ : sS) : Option (sZ Int32) :=
  (F_X8_formulas v0 σ).bind fun q1 =>
  if q1.1 ≤ v4 then (some (.inl (13, [.ref v0, .int v2, .int (v3 + 1)], q1.2)))
  else ((s_fr q1.2 v0 8 20).bind fun x2 =>
  (s_ai q1.2 x2 v3).bind fun x3 =>
  if ((v2 >>> (v4 &&& 31)) &&& 1) = 1 then ((F_X8_isTrue v0 v4 v3 q1.2).bind fun q4 =>
  if q4.1 = 0 then (some (.inl (75, [.ref v0, .int v2, .int v3, .int v4, .int (1 <<< (v4 &&& 31)), .int x3, .int v3, .ref x2], q4.2)))
  else (some (.inl (74, [.ref v0, .int v2, .int v3, .int v4, .int x3, .int v3, .ref x2], q4.2))))
  else (some (.inl (74, [.ref v0, .int v2, .int v3, .int v4, .int x3, .int v3, .ref x2], q1.2))))
noncomputable def U_X8_fails_31 (vs : List Value) (σ : sS) : Option (sZ Int32) := (g_r vs).bind fun a0 => (g_i a0.2).bind fun a1 => (g_i a1.2).bind fun a2 => (g_i a2.2).bind fun a3 => (g_e a3.2).bind fun _ => T_X8_fails_31 a0.1 a1.1 a2.1 a3.1 σ
noncomputable def T_X8_fails_74 (v0 : Nat) (v2 : Int32) (v3 : Int32) (v4 : Int32) (w0 : Int32) (w1 : Int32) (w2 : Nat) (σ : sS) : Option (sZ Int32) :=
  some (.inl (75, [.ref v0, .int v2, .int v3, .int v4, .int 0, .int w0, .int w1, .ref w2], σ))
noncomputable def U_X8_fails_74 (vs : List Value) (σ : sS) : Option (sZ Int32) := (g_r vs).bind fun a0 => (g_i a0.2).bind fun a1 => (g_i a1.2).bind fun a2 => (g_i a2.2).bind fun a3 => (g_i a3.2).bind fun a4 => (g_i a4.2).bind fun a5 => (g_r a5.2).bind fun a6 => (g_e a6.2).bind fun _ => T_X8_fails_74 a0.1 a1.1 a2.1 a3.1 a4.1 a5.1 a6.1 σ
noncomputable def T_X8_fails_75 (v0 : Nat) (v2 : Int32) (v3 : Int32) (v4 : Int32) (w0 : Int32) (w1 : Int32) (w2 : Int32) (w3 : Nat) (σ : sS) : Option (sZ Int32) :=
  (s_si σ w3 w2 (w1 ||| w0)).bind fun σ1 =>
  some (.inl (31, [.ref v0, .int v2, .int v3, .int (v4 + 1)], σ1))
noncomputable def U_X8_fails_75 (vs : List Value) (σ : sS) : Option (sZ Int32) := (g_r vs).bind fun a0 => (g_i a0.2).bind fun a1 => (g_i a1.2).bind fun a2 => (g_i a2.2).bind fun a3 => (g_i a3.2).bind fun a4 => (g_i a4.2).bind fun a5 => (g_i a5.2).bind fun a6 => (g_r a6.2).bind fun a7 => (g_e a7.2).bind fun _ => T_X8_fails_75 a0.1 a1.1 a2.1 a3.1 a4.1 a5.1 a6.1 a7.1 σ
noncomputable def S_X8_fails (x : sL) : Option (sZ Int32) := if x.1 = 0 then U_X8_fails_0 x.2.1 x.2.2 else if x.1 = 13 then U_X8_fails_13 x.2.1 x.2.2 else if x.1 = 31 then U_X8_fails_31 x.2.1 x.2.2 else if x.1 = 74 then U_X8_fails_74 x.2.1 x.2.2 else if x.1 = 75 then U_X8_fails_75 x.2.1 x.2.2 else none
def Y_X8_fails (pc : Nat) : List Nat := if pc = 0 then [0, 1] else if pc = 13 then [0, 2, 3] else if pc = 31 then [0, 2, 3, 4] else if pc = 74 then [0, 2, 3, 4] else if pc = 75 then [0, 2, 3, 4] else []
noncomputable def F_X8_fails (v0 : Nat) (v1 : Int32) (σ : sS) : Option (Int32 × sS) := (s_is σ v0 8).bind fun _ => s_run S_X8_fails (0, [.ref v0, .int v1], σ)
theorem l_X8_fails_0 {v0 : Nat} {v1 : Int32} {σ : sS} {z : sZ Int32} (hf : T_X8_fails_0 v0 v1 σ = some z) : s_lz σ z := by
  unfold T_X8_fails_0 at hf
  obtain ⟨q1, hh, hf⟩ := s_bind hf
  refine s_lz.tr (l_X8_formulas hh) ?_
  cases hf
  exact s_le.rf
theorem l_X8_fails_13 {v0 : Nat} {v2 : Int32} {v3 : Int32} {σ : sS} {z : sZ Int32} (hf : T_X8_fails_13 v0 v2 v3 σ = some z) : s_lz σ z := by
  unfold T_X8_fails_13 at hf
  obtain ⟨q1, hh, hf⟩ := s_bind hf
  refine s_lz.tr (l_X8_worldsMany hh) ?_
  rcases s_ite hf with ⟨-, hf⟩ | ⟨-, hf⟩
  · cases hf
    exact s_le.rf
  · obtain ⟨x2, -, hf⟩ := s_bind hf
    obtain ⟨σ3, hh, hf⟩ := s_bind hf
    refine s_lz.tr (s_le2 (s_si_2 hh)) ?_
    cases hf
    exact s_le.rf
theorem l_X8_fails_31 {v0 : Nat} {v2 : Int32} {v3 : Int32} {v4 : Int32} {σ : sS} {z : sZ Int32} (hf : T_X8_fails_31 v0 v2 v3 v4 σ = some z) : s_lz σ z := by
  unfold T_X8_fails_31 at hf
  obtain ⟨q1, hh, hf⟩ := s_bind hf
  refine s_lz.tr (l_X8_formulas hh) ?_
  rcases s_ite hf with ⟨-, hf⟩ | ⟨-, hf⟩
  · cases hf
    exact s_le.rf
  · obtain ⟨x2, -, hf⟩ := s_bind hf
    obtain ⟨x3, -, hf⟩ := s_bind hf
    rcases s_ite hf with ⟨-, hf⟩ | ⟨-, hf⟩
    · obtain ⟨q4, hh, hf⟩ := s_bind hf
      refine s_lz.tr (l_X8_isTrue hh) ?_
      rcases s_ite hf with ⟨-, hf⟩ | ⟨-, hf⟩
      · cases hf
        exact s_le.rf
      · cases hf
        exact s_le.rf
    · cases hf
      exact s_le.rf
theorem l_X8_fails_74 {v0 : Nat} {v2 : Int32} {v3 : Int32} {v4 : Int32} {w0 : Int32} {w1 : Int32} {w2 : Nat} {σ : sS} {z : sZ Int32} (hf : T_X8_fails_74 v0 v2 v3 v4 w0 w1 w2 σ = some z) : s_lz σ z := by
  unfold T_X8_fails_74 at hf
  cases hf
  exact s_le.rf
theorem l_X8_fails_75 {v0 : Nat} {v2 : Int32} {v3 : Int32} {v4 : Int32} {w0 : Int32} {w1 : Int32} {w2 : Int32} {w3 : Nat} {σ : sS} {z : sZ Int32} (hf : T_X8_fails_75 v0 v2 v3 v4 w0 w1 w2 w3 σ = some z) : s_lz σ z := by
  unfold T_X8_fails_75 at hf
  obtain ⟨σ1, hh, hf⟩ := s_bind hf
  refine s_lz.tr (s_le2 (s_si_2 hh)) ?_
  cases hf
  exact s_le.rf
theorem l_X8_fails_s {x : sL} {z : sZ Int32} (hs : S_X8_fails x = some z) : s_lz x.2.2 z := by
  obtain ⟨pc, vs, σ⟩ := x
  unfold S_X8_fails at hs
  dsimp only at hs ⊢
  rcases s_ite hs with ⟨c, hs⟩ | ⟨-, hs⟩
  · subst c
    unfold U_X8_fails_0 at hs
    obtain ⟨a0, g0, hs⟩ := s_bind hs
    obtain ⟨a1, g1, hs⟩ := s_bind hs
    obtain ⟨u9, ge, hs⟩ := s_bind hs
    exact l_X8_fails_0 hs
  rcases s_ite hs with ⟨c, hs⟩ | ⟨-, hs⟩
  · subst c
    unfold U_X8_fails_13 at hs
    obtain ⟨a0, g0, hs⟩ := s_bind hs
    obtain ⟨a1, g1, hs⟩ := s_bind hs
    obtain ⟨a2, g2, hs⟩ := s_bind hs
    obtain ⟨u9, ge, hs⟩ := s_bind hs
    exact l_X8_fails_13 hs
  rcases s_ite hs with ⟨c, hs⟩ | ⟨-, hs⟩
  · subst c
    unfold U_X8_fails_31 at hs
    obtain ⟨a0, g0, hs⟩ := s_bind hs
    obtain ⟨a1, g1, hs⟩ := s_bind hs
    obtain ⟨a2, g2, hs⟩ := s_bind hs
    obtain ⟨a3, g3, hs⟩ := s_bind hs
    obtain ⟨u9, ge, hs⟩ := s_bind hs
    exact l_X8_fails_31 hs
  rcases s_ite hs with ⟨c, hs⟩ | ⟨-, hs⟩
  · subst c
    unfold U_X8_fails_74 at hs
    obtain ⟨a0, g0, hs⟩ := s_bind hs
    obtain ⟨a1, g1, hs⟩ := s_bind hs
    obtain ⟨a2, g2, hs⟩ := s_bind hs
    obtain ⟨a3, g3, hs⟩ := s_bind hs
    obtain ⟨a4, g4, hs⟩ := s_bind hs
    obtain ⟨a5, g5, hs⟩ := s_bind hs
    obtain ⟨a6, g6, hs⟩ := s_bind hs
    obtain ⟨u9, ge, hs⟩ := s_bind hs
    exact l_X8_fails_74 hs
  rcases s_ite hs with ⟨c, hs⟩ | ⟨-, hs⟩
  · subst c
    unfold U_X8_fails_75 at hs
    obtain ⟨a0, g0, hs⟩ := s_bind hs
    obtain ⟨a1, g1, hs⟩ := s_bind hs
    obtain ⟨a2, g2, hs⟩ := s_bind hs
    obtain ⟨a3, g3, hs⟩ := s_bind hs
    obtain ⟨a4, g4, hs⟩ := s_bind hs
    obtain ⟨a5, g5, hs⟩ := s_bind hs
    obtain ⟨a6, g6, hs⟩ := s_bind hs
    obtain ⟨a7, g7, hs⟩ := s_bind hs
    obtain ⟨u9, ge, hs⟩ := s_bind hs
    exact l_X8_fails_75 hs
  cases hs
theorem l_X8_fails {v0 : Nat} {v1 : Int32} {σ : sS} {q : Int32 × sS} (h : F_X8_fails v0 v1 σ = some q) : s_le σ q.2 := by
  unfold F_X8_fails at h
  obtain ⟨-, -, h⟩ := s_bind h
  exact s_run_ind (V := fun x r => s_le x.2.2 r.2) (fun x z r hs hk => by
    have h9 := l_X8_fails_s hs
    cases z with
    | inl y => exact s_le.tr h9 hk
    | inr q => cases hk; exact h9) h
theorem b_X8_fails {v0 : Nat} {v1 : Int32} {σ : sS} {q : Int32 × sS} (h : F_X8_fails v0 v1 σ = some q) : ∃ fs, σ.1 v0 = some (.inr (8, fs)) := by
  unfold F_X8_fails at h
  obtain ⟨u, hu, -⟩ := s_bind h
  exact s_is_to hu
set_option maxRecDepth 100000 in
set_option maxHeartbeats 4000000 in
theorem v_X8_fails_0 {G : sG} {d : Nat} {vs0 : List Value} {σ0 : sS} {v0 : Nat} {v1 : Int32} {σ : sS} {z : sZ Int32} {r : Int32 × sS} (hf : T_X8_fails_0 v0 v1 σ = some z) (k : s_K G (d + 4) M_X8_fails vs0 σ0 Y_X8_fails e_I z r) : s_V G (d + 4) M_X8_fails vs0 σ0 Y_X8_fails (0, [.ref v0, .int v1], σ) (e_I r) := by
  have le0 : s_le σ (e_I r).2 := s_lek hem_I (l_X8_fails_0 hf) k
  refine ⟨le0, ?_⟩
  intro p e s m below meth c H locs cells slots ls X I hn1 hn2 hl
  have hn : cells + σ0.2.1 ≤ σ.2.1 ∧ slots + σ0.2.2.1 ≤ σ.2.2.1 := ⟨hn1, hn2⟩
  have hl : lv_has ls 5 [(0, .ref v0), (1, .int v1)] := hl
  have hx := X.1
  have hb : c.code = cX8_fails := X.2.1
  have hown : s.vm.findClass RX8 = some m.cls := X.2.2.2.2.2.1
  have hts := X.2.2.2.2.2.2.1
  refine W.eq (g2 := F0 m 0 ls []) rfl ?_
  unfold T_X8_fails_0 at hf
  obtain ⟨q1, h1, hf⟩ := s_bind hf
  cases hf
  have k : s_V G (d + 4) M_X8_fails vs0 σ0 Y_X8_fails (13, [.ref v0, .int (v1 &&& ((1 <<< (q1.1 &&& 31)) - 1)), .int 0], q1.2) (e_I r) := k
  have le2 : s_le q1.2 (e_I r).2 := k.1
  refine lv_iload_n hx hb dX8_fails_0 rfl (lv_at hl 1 rfl) ?_
  refine lv_iconst (v := 1) hx hb dX8_fails_1 (by decide) ?_
  refine lv_aload_n hx hb dX8_fails_2 rfl (lv_at hl 0 rfl) ?_
  refine r_callV (Y := M_X8_formulas) (v := some (.int q1.1)) X I w_1813 my_X8_formulas (by omega) (t_X8_formulas (G := G) (d := d + 2) h1) (b_X8_formulas h1) rfl rfl hl.1 rfl (Nat.le_of_ble_eq_true rfl) hn le2 dX8_fails_3 (fun H locs cells slots I hn1 hn2 => ?_)
  have I : s_I G q1.2 s H locs := I
  have hn : cells + σ0.2.1 ≤ q1.2.2.1 ∧ slots + σ0.2.2.1 ≤ q1.2.2.2.1 := ⟨hn1, hn2⟩
  refine lv_ishl hx hb dX8_fails_6 ?_
  refine lv_iconst (v := 1) hx hb dX8_fails_7 (by decide) ?_
  refine lv_isub hx hb dX8_fails_8 ?_
  refine lv_iand hx hb dX8_fails_9 ?_
  refine lv_istore_n (lv' := [(2, .int (v1 &&& ((1 <<< (q1.1 &&& 31)) - 1))), (0, .ref v0), (1, .int v1)]) hx hb dX8_fails_10 rfl hl (by decide) rfl (fun ls hl => ?_)
  refine lv_iconst (v := 0) hx hb dX8_fails_11 (by decide) ?_
  refine lv_istore_n (lv' := [(3, .int 0), (2, .int (v1 &&& ((1 <<< (q1.1 &&& 31)) - 1))), (0, .ref v0), (1, .int v1)]) hx hb dX8_fails_12 rfl hl (by decide) rfl (fun ls hl => ?_)
  exact k.2 p e s m below meth c _ _ _ _ _ X I hn.1 hn.2 (lv_sub hl [2, 1, 0] rfl)
set_option maxRecDepth 100000 in
set_option maxHeartbeats 4000000 in
theorem v_X8_fails_13 {G : sG} {d : Nat} {vs0 : List Value} {σ0 : sS} {v0 : Nat} {v2 : Int32} {v3 : Int32} {σ : sS} {z : sZ Int32} {r : Int32 × sS} (hf : T_X8_fails_13 v0 v2 v3 σ = some z) (k : s_K G (d + 4) M_X8_fails vs0 σ0 Y_X8_fails e_I z r) : s_V G (d + 4) M_X8_fails vs0 σ0 Y_X8_fails (13, [.ref v0, .int v2, .int v3], σ) (e_I r) := by
  have le0 : s_le σ (e_I r).2 := s_lek hem_I (l_X8_fails_13 hf) k
  refine ⟨le0, ?_⟩
  intro p e s m below meth c H locs cells slots ls X I hn1 hn2 hl
  have hn : cells + σ0.2.1 ≤ σ.2.1 ∧ slots + σ0.2.2.1 ≤ σ.2.2.1 := ⟨hn1, hn2⟩
  have hl : lv_has ls 5 [(0, .ref v0), (2, .int v2), (3, .int v3)] := hl
  have hx := X.1
  have hb : c.code = cX8_fails := X.2.1
  have hown : s.vm.findClass RX8 = some m.cls := X.2.2.2.2.2.1
  have hts := X.2.2.2.2.2.2.1
  refine W.eq (g2 := F0 m 13 ls []) rfl ?_
  unfold T_X8_fails_13 at hf
  obtain ⟨q1, h1, hf⟩ := s_bind hf
  have le2 : s_le q1.2 (e_I r).2 := by
    refine s_lek hem_I ?_ k
    rcases s_ite hf with ⟨-, hf⟩ | ⟨-, hf⟩
    · cases hf
      exact s_le.rf
    · obtain ⟨x2, -, hf⟩ := s_bind hf
      obtain ⟨σ3, hh, hf⟩ := s_bind hf
      refine s_lz.tr (s_le2 (s_si_2 hh)) ?_
      cases hf
      exact s_le.rf
  refine lv_iload_n hx hb dX8_fails_13 rfl (lv_at hl 2 rfl) ?_
  refine lv_aload_n hx hb dX8_fails_14 rfl (lv_at hl 0 rfl) ?_
  refine r_callV (Y := M_X8_worldsMany) (v := some (.int q1.1)) X I w_1943 my_X8_worldsMany (by omega) (t_X8_worldsMany (G := G) (d := d + 1) h1) (b_X8_worldsMany h1) rfl rfl hl.1 rfl (Nat.le_of_ble_eq_true rfl) hn le2 dX8_fails_15 (fun H locs cells slots I hn1 hn2 => ?_)
  have I : s_I G q1.2 s H locs := I
  have hn : cells + σ0.2.1 ≤ q1.2.2.1 ∧ slots + σ0.2.2.1 ≤ q1.2.2.2.1 := ⟨hn1, hn2⟩
  rcases s_ite hf with ⟨c3, hf⟩ | ⟨c3, hf⟩
  · refine lv_icmp_ge (tgt := 89) hx hb dX8_fails_18 (by decide) (fun _ => ?_) (fun n => absurd c3 n)
    cases hf
    have k : _ = r := k
    subst k
    refine lv_iload_n hx hb dX8_fails_89 rfl (lv_at hl 1 rfl) ?_
    exact r_iret X I rfl rfl rfl hn dX8_fails_90
  · refine lv_icmp_ge (tgt := 89) hx hb dX8_fails_18 (by decide) (fun n => absurd n c3) (fun _ => ?_)
    obtain ⟨x2, h4, hf⟩ := s_bind hf
    obtain ⟨σ3, h5, hf⟩ := s_bind hf
    cases hf
    have k : s_V G (d + 4) M_X8_fails vs0 σ0 Y_X8_fails (31, [.ref v0, .int v2, .int v3, .int 0], σ3) (e_I r) := k
    have le6 : s_le σ3 (e_I r).2 := k.1
    refine lv_aload_n hx hb dX8_fails_21 rfl (lv_at hl 0 rfl) ?_
    refine r_gr X I fl_X8_50 h4 dX8_fails_22 ?_
    refine lv_iload_n hx hb dX8_fails_25 rfl (lv_at hl 2 rfl) ?_
    refine lv_iconst (v := 0) hx hb dX8_fails_26 (by decide) ?_
    refine r_iast X I h5 dX8_fails_27 (fun H locs I => ?_)
    have hn := s_k2 (s_si_2 h5) hn
    refine lv_iconst (v := 0) hx hb dX8_fails_28 (by decide) ?_
    refine lv_istore (lv' := [(4, .int 0), (0, .ref v0), (2, .int v2), (3, .int v3)]) hx hb dX8_fails_29 hl (by decide) rfl (fun ls hl => ?_)
    exact k.2 p e s m below meth c _ _ _ _ _ X I hn.1 hn.2 (lv_sub hl [1, 2, 3, 0] rfl)
set_option maxRecDepth 100000 in
set_option maxHeartbeats 4000000 in
theorem v_X8_fails_31 {G : sG} {d : Nat} {vs0 : List Value} {σ0 : sS} {v0 : Nat} {v2 : Int32} {v3 : Int32} {v4 : Int32} {σ : sS} {z : sZ Int32} {r : Int32 × sS} (hf : T_X8_fails_31 v0 v2 v3 v4 σ = some z) (k : s_K G (d + 4) M_X8_fails vs0 σ0 Y_X8_fails e_I z r) : s_V G (d + 4) M_X8_fails vs0 σ0 Y_X8_fails (31, [.ref v0, .int v2, .int v3, .int v4], σ) (e_I r) := by
  have le0 : s_le σ (e_I r).2 := s_lek hem_I (l_X8_fails_31 hf) k
  refine ⟨le0, ?_⟩
  intro p e s m below meth c H locs cells slots ls X I hn1 hn2 hl
  have hn : cells + σ0.2.1 ≤ σ.2.1 ∧ slots + σ0.2.2.1 ≤ σ.2.2.1 := ⟨hn1, hn2⟩
  have hl : lv_has ls 5 [(0, .ref v0), (2, .int v2), (3, .int v3), (4, .int v4)] := hl
  have hx := X.1
  have hb : c.code = cX8_fails := X.2.1
  have hown : s.vm.findClass RX8 = some m.cls := X.2.2.2.2.2.1
  have hts := X.2.2.2.2.2.2.1
  refine W.eq (g2 := F0 m 31 ls []) rfl ?_
  unfold T_X8_fails_31 at hf
  obtain ⟨q1, h1, hf⟩ := s_bind hf
  have le2 : s_le q1.2 (e_I r).2 := by
    refine s_lek hem_I ?_ k
    rcases s_ite hf with ⟨-, hf⟩ | ⟨-, hf⟩
    · cases hf
      exact s_le.rf
    · obtain ⟨x2, -, hf⟩ := s_bind hf
      obtain ⟨x3, -, hf⟩ := s_bind hf
      rcases s_ite hf with ⟨-, hf⟩ | ⟨-, hf⟩
      · obtain ⟨q4, hh, hf⟩ := s_bind hf
        refine s_lz.tr (l_X8_isTrue hh) ?_
        rcases s_ite hf with ⟨-, hf⟩ | ⟨-, hf⟩
        · cases hf
          exact s_le.rf
        · cases hf
          exact s_le.rf
      · cases hf
        exact s_le.rf
  refine lv_iload hx hb dX8_fails_31 (lv_at hl 3 rfl) ?_
  refine lv_aload_n hx hb dX8_fails_33 rfl (lv_at hl 0 rfl) ?_
  refine r_callV (Y := M_X8_formulas) (v := some (.int q1.1)) X I w_1813 my_X8_formulas (by omega) (t_X8_formulas (G := G) (d := d + 2) h1) (b_X8_formulas h1) rfl rfl hl.1 rfl (Nat.le_of_ble_eq_true rfl) hn le2 dX8_fails_34 (fun H locs cells slots I hn1 hn2 => ?_)
  have I : s_I G q1.2 s H locs := I
  have hn : cells + σ0.2.1 ≤ q1.2.2.1 ∧ slots + σ0.2.2.1 ≤ q1.2.2.2.1 := ⟨hn1, hn2⟩
  rcases s_ite hf with ⟨c3, hf⟩ | ⟨c3, hf⟩
  · refine lv_icmp_ge (tgt := 83) hx hb dX8_fails_37 (by decide) (fun _ => ?_) (fun n => absurd c3 n)
    cases hf
    have k : s_V G (d + 4) M_X8_fails vs0 σ0 Y_X8_fails (13, [.ref v0, .int v2, .int (v3 + 1)], q1.2) (e_I r) := k
    refine lv_iinc (v := (v3 + 1)) (lv' := [(3, .int (v3 + 1)), (0, .ref v0), (2, .int v2), (4, .int v4)]) hx hb dX8_fails_83 hl (k := 2) rfl rfl (by decide) rfl (fun ls hl => ?_)
    refine lv_goto (tgt := 13) hx hb dX8_fails_86 (by decide) ?_
    exact k.2 p e s m below meth c _ _ _ _ _ X I hn.1 hn.2 (lv_sub hl [1, 2, 0] rfl)
  · refine lv_icmp_ge (tgt := 83) hx hb dX8_fails_37 (by decide) (fun n => absurd n c3) (fun _ => ?_)
    obtain ⟨x2, h4, hf⟩ := s_bind hf
    obtain ⟨x3, h5, hf⟩ := s_bind hf
    refine lv_aload_n hx hb dX8_fails_40 rfl (lv_at hl 0 rfl) ?_
    refine r_gr X I fl_X8_50 h4 dX8_fails_41 ?_
    refine lv_iload_n hx hb dX8_fails_44 rfl (lv_at hl 2 rfl) ?_
    refine lv_dup2_11 hx hb dX8_fails_45 rfl rfl ?_
    refine r_iald X I h5 dX8_fails_46 ?_
    refine lv_iload_n hx hb dX8_fails_47 rfl (lv_at hl 1 rfl) ?_
    refine lv_iload hx hb dX8_fails_48 (lv_at hl 3 rfl) ?_
    refine lv_ishr hx hb dX8_fails_50 ?_
    refine lv_iconst (v := 1) hx hb dX8_fails_51 (by decide) ?_
    refine lv_iand hx hb dX8_fails_52 ?_
    refine lv_iconst (v := 1) hx hb dX8_fails_53 (by decide) ?_
    rcases s_ite hf with ⟨c6, hf⟩ | ⟨c6, hf⟩
    · refine lv_icmp_ne (tgt := 74) hx hb dX8_fails_54 (by decide) (fun n => absurd c6 n) (fun _ => ?_)
      obtain ⟨q4, h7, hf⟩ := s_bind hf
      have le8 : s_le q4.2 (e_I r).2 := by
        refine s_lek hem_I ?_ k
        rcases s_ite hf with ⟨-, hf⟩ | ⟨-, hf⟩
        · cases hf
          exact s_le.rf
        · cases hf
          exact s_le.rf
      refine lv_aload_n hx hb dX8_fails_57 rfl (lv_at hl 0 rfl) ?_
      refine lv_iload hx hb dX8_fails_58 (lv_at hl 3 rfl) ?_
      refine lv_iload_n hx hb dX8_fails_60 rfl (lv_at hl 2 rfl) ?_
      refine r_callV (Y := M_X8_isTrue) (v := some (.int q4.1)) X I w_1947 my_X8_isTrue (by omega) (t_X8_isTrue (G := G) (d := d + 0) h7) (b_X8_isTrue h7) rfl rfl hl.1 rfl (Nat.le_of_ble_eq_true rfl) hn le8 dX8_fails_61 (fun H locs cells slots I hn1 hn2 => ?_)
      have I : s_I G q4.2 s H locs := I
      have hn : cells + σ0.2.1 ≤ q4.2.2.1 ∧ slots + σ0.2.2.1 ≤ q4.2.2.2.1 := ⟨hn1, hn2⟩
      rcases s_ite hf with ⟨c9, hf⟩ | ⟨c9, hf⟩
      · refine lv_if_ne (tgt := 74) hx hb dX8_fails_64 (by decide) (fun n => absurd c9 n) (fun _ => ?_)
        cases hf
        have k : s_V G (d + 4) M_X8_fails vs0 σ0 Y_X8_fails (75, [.ref v0, .int v2, .int v3, .int v4, .int (1 <<< (v4 &&& 31)), .int x3, .int v3, .ref x2], q4.2) (e_I r) := k
        refine lv_iconst (v := 1) hx hb dX8_fails_67 (by decide) ?_
        refine lv_iload hx hb dX8_fails_68 (lv_at hl 3 rfl) ?_
        refine lv_ishl hx hb dX8_fails_70 ?_
        refine lv_goto (tgt := 75) hx hb dX8_fails_71 (by decide) ?_
        exact k.2 p e s m below meth c _ _ _ _ _ X I hn.1 hn.2 (lv_sub hl [0, 1, 2, 3] rfl)
      · refine lv_if_ne (tgt := 74) hx hb dX8_fails_64 (by decide) (fun _ => ?_) (fun n => absurd n c9)
        cases hf
        have k : s_V G (d + 4) M_X8_fails vs0 σ0 Y_X8_fails (74, [.ref v0, .int v2, .int v3, .int v4, .int x3, .int v3, .ref x2], q4.2) (e_I r) := k
        exact k.2 p e s m below meth c _ _ _ _ _ X I hn.1 hn.2 (lv_sub hl [0, 1, 2, 3] rfl)
    · refine lv_icmp_ne (tgt := 74) hx hb dX8_fails_54 (by decide) (fun _ => ?_) (fun n => absurd n c6)
      cases hf
      have k : s_V G (d + 4) M_X8_fails vs0 σ0 Y_X8_fails (74, [.ref v0, .int v2, .int v3, .int v4, .int x3, .int v3, .ref x2], q1.2) (e_I r) := k
      exact k.2 p e s m below meth c _ _ _ _ _ X I hn.1 hn.2 (lv_sub hl [0, 1, 2, 3] rfl)
set_option maxRecDepth 100000 in
set_option maxHeartbeats 4000000 in
theorem v_X8_fails_74 {G : sG} {d : Nat} {vs0 : List Value} {σ0 : sS} {v0 : Nat} {v2 : Int32} {v3 : Int32} {v4 : Int32} {w0 : Int32} {w1 : Int32} {w2 : Nat} {σ : sS} {z : sZ Int32} {r : Int32 × sS} (hf : T_X8_fails_74 v0 v2 v3 v4 w0 w1 w2 σ = some z) (k : s_K G (d + 4) M_X8_fails vs0 σ0 Y_X8_fails e_I z r) : s_V G (d + 4) M_X8_fails vs0 σ0 Y_X8_fails (74, [.ref v0, .int v2, .int v3, .int v4, .int w0, .int w1, .ref w2], σ) (e_I r) := by
  have le0 : s_le σ (e_I r).2 := s_lek hem_I (l_X8_fails_74 hf) k
  refine ⟨le0, ?_⟩
  intro p e s m below meth c H locs cells slots ls X I hn1 hn2 hl
  have hn : cells + σ0.2.1 ≤ σ.2.1 ∧ slots + σ0.2.2.1 ≤ σ.2.2.1 := ⟨hn1, hn2⟩
  have hl : lv_has ls 5 [(0, .ref v0), (2, .int v2), (3, .int v3), (4, .int v4)] := hl
  have hx := X.1
  have hb : c.code = cX8_fails := X.2.1
  have hown : s.vm.findClass RX8 = some m.cls := X.2.2.2.2.2.1
  have hts := X.2.2.2.2.2.2.1
  refine W.eq (g2 := F0 m 74 ls [.int w0, .int w1, .ref w2]) rfl ?_
  unfold T_X8_fails_74 at hf
  cases hf
  have k : s_V G (d + 4) M_X8_fails vs0 σ0 Y_X8_fails (75, [.ref v0, .int v2, .int v3, .int v4, .int 0, .int w0, .int w1, .ref w2], σ) (e_I r) := k
  refine lv_iconst (v := 0) hx hb dX8_fails_74 (by decide) ?_
  exact k.2 p e s m below meth c _ _ _ _ _ X I hn.1 hn.2 (lv_sub hl [0, 1, 2, 3] rfl)
set_option maxRecDepth 100000 in
set_option maxHeartbeats 4000000 in
theorem v_X8_fails_75 {G : sG} {d : Nat} {vs0 : List Value} {σ0 : sS} {v0 : Nat} {v2 : Int32} {v3 : Int32} {v4 : Int32} {w0 : Int32} {w1 : Int32} {w2 : Int32} {w3 : Nat} {σ : sS} {z : sZ Int32} {r : Int32 × sS} (hf : T_X8_fails_75 v0 v2 v3 v4 w0 w1 w2 w3 σ = some z) (k : s_K G (d + 4) M_X8_fails vs0 σ0 Y_X8_fails e_I z r) : s_V G (d + 4) M_X8_fails vs0 σ0 Y_X8_fails (75, [.ref v0, .int v2, .int v3, .int v4, .int w0, .int w1, .int w2, .ref w3], σ) (e_I r) := by
  have le0 : s_le σ (e_I r).2 := s_lek hem_I (l_X8_fails_75 hf) k
  refine ⟨le0, ?_⟩
  intro p e s m below meth c H locs cells slots ls X I hn1 hn2 hl
  have hn : cells + σ0.2.1 ≤ σ.2.1 ∧ slots + σ0.2.2.1 ≤ σ.2.2.1 := ⟨hn1, hn2⟩
  have hl : lv_has ls 5 [(0, .ref v0), (2, .int v2), (3, .int v3), (4, .int v4)] := hl
  have hx := X.1
  have hb : c.code = cX8_fails := X.2.1
  have hown : s.vm.findClass RX8 = some m.cls := X.2.2.2.2.2.1
  have hts := X.2.2.2.2.2.2.1
  refine W.eq (g2 := F0 m 75 ls [.int w0, .int w1, .int w2, .ref w3]) rfl ?_
  unfold T_X8_fails_75 at hf
  obtain ⟨σ1, h1, hf⟩ := s_bind hf
  cases hf
  have k : s_V G (d + 4) M_X8_fails vs0 σ0 Y_X8_fails (31, [.ref v0, .int v2, .int v3, .int (v4 + 1)], σ1) (e_I r) := k
  have le2 : s_le σ1 (e_I r).2 := k.1
  refine lv_ior hx hb dX8_fails_75 ?_
  refine r_iast X I h1 dX8_fails_76 (fun H locs I => ?_)
  have hn := s_k2 (s_si_2 h1) hn
  refine lv_iinc (v := (v4 + 1)) (lv' := [(4, .int (v4 + 1)), (0, .ref v0), (2, .int v2), (3, .int v3)]) hx hb dX8_fails_77 hl (k := 3) rfl rfl (by decide) rfl (fun ls hl => ?_)
  refine lv_goto (tgt := 31) hx hb dX8_fails_80 (by decide) ?_
  exact k.2 p e s m below meth c _ _ _ _ _ X I hn.1 hn.2 (lv_sub hl [1, 2, 3, 0] rfl)
theorem v_X8_fails {G : sG} {d : Nat} {vs0 : List Value} {σ0 : sS} {x : sL} {z : sZ Int32} {r : Int32 × sS} (hs : S_X8_fails x = some z) (k : s_K G (d + 4) M_X8_fails vs0 σ0 Y_X8_fails e_I z r) : s_V G (d + 4) M_X8_fails vs0 σ0 Y_X8_fails x (e_I r) := by
  obtain ⟨pc, vs, σ⟩ := x
  unfold S_X8_fails at hs
  dsimp only at hs
  rcases s_ite hs with ⟨c, hs⟩ | ⟨-, hs⟩
  · subst c
    unfold U_X8_fails_0 at hs
    obtain ⟨a0, g0, hs⟩ := s_bind hs
    obtain ⟨a1, g1, hs⟩ := s_bind hs
    obtain ⟨u9, ge, hs⟩ := s_bind hs
    rw [g_r_to g0, g_i_to g1, g_e_to ge]
    exact v_X8_fails_0 hs k
  rcases s_ite hs with ⟨c, hs⟩ | ⟨-, hs⟩
  · subst c
    unfold U_X8_fails_13 at hs
    obtain ⟨a0, g0, hs⟩ := s_bind hs
    obtain ⟨a1, g1, hs⟩ := s_bind hs
    obtain ⟨a2, g2, hs⟩ := s_bind hs
    obtain ⟨u9, ge, hs⟩ := s_bind hs
    rw [g_r_to g0, g_i_to g1, g_i_to g2, g_e_to ge]
    exact v_X8_fails_13 hs k
  rcases s_ite hs with ⟨c, hs⟩ | ⟨-, hs⟩
  · subst c
    unfold U_X8_fails_31 at hs
    obtain ⟨a0, g0, hs⟩ := s_bind hs
    obtain ⟨a1, g1, hs⟩ := s_bind hs
    obtain ⟨a2, g2, hs⟩ := s_bind hs
    obtain ⟨a3, g3, hs⟩ := s_bind hs
    obtain ⟨u9, ge, hs⟩ := s_bind hs
    rw [g_r_to g0, g_i_to g1, g_i_to g2, g_i_to g3, g_e_to ge]
    exact v_X8_fails_31 hs k
  rcases s_ite hs with ⟨c, hs⟩ | ⟨-, hs⟩
  · subst c
    unfold U_X8_fails_74 at hs
    obtain ⟨a0, g0, hs⟩ := s_bind hs
    obtain ⟨a1, g1, hs⟩ := s_bind hs
    obtain ⟨a2, g2, hs⟩ := s_bind hs
    obtain ⟨a3, g3, hs⟩ := s_bind hs
    obtain ⟨a4, g4, hs⟩ := s_bind hs
    obtain ⟨a5, g5, hs⟩ := s_bind hs
    obtain ⟨a6, g6, hs⟩ := s_bind hs
    obtain ⟨u9, ge, hs⟩ := s_bind hs
    rw [g_r_to g0, g_i_to g1, g_i_to g2, g_i_to g3, g_i_to g4, g_i_to g5, g_r_to g6, g_e_to ge]
    exact v_X8_fails_74 hs k
  rcases s_ite hs with ⟨c, hs⟩ | ⟨-, hs⟩
  · subst c
    unfold U_X8_fails_75 at hs
    obtain ⟨a0, g0, hs⟩ := s_bind hs
    obtain ⟨a1, g1, hs⟩ := s_bind hs
    obtain ⟨a2, g2, hs⟩ := s_bind hs
    obtain ⟨a3, g3, hs⟩ := s_bind hs
    obtain ⟨a4, g4, hs⟩ := s_bind hs
    obtain ⟨a5, g5, hs⟩ := s_bind hs
    obtain ⟨a6, g6, hs⟩ := s_bind hs
    obtain ⟨a7, g7, hs⟩ := s_bind hs
    obtain ⟨u9, ge, hs⟩ := s_bind hs
    rw [g_r_to g0, g_i_to g1, g_i_to g2, g_i_to g3, g_i_to g4, g_i_to g5, g_i_to g6, g_r_to g7, g_e_to ge]
    exact v_X8_fails_75 hs k
  cases hs
theorem t_X8_fails {G : sG} {d : Nat} {v0 : Nat} {v1 : Int32} {σ : sS} {q : Int32 × sS} (h : F_X8_fails v0 v1 σ = some q) : s_T G (d + 4) M_X8_fails [.ref v0, .int v1] σ (e_I q) := by
  unfold F_X8_fails at h
  obtain ⟨-, -, h⟩ := s_bind h
  exact s_ofV rfl (by decide) (Nat.le_of_ble_eq_true rfl) rfl rfl (s_run_ind (V := fun x r => s_V G (d + 4) M_X8_fails [.ref v0, .int v1] σ Y_X8_fails x (e_I r)) (fun x z r hs hk => v_X8_fails hs (by cases z <;> exact hk)) h)
/-! X8_isFewer -/
noncomputable def T_X8_isFewer_0 (v0 : Int32) (v1 : Int32) (σ : sS) : Option (sZ Int32) :=
  (F_J6_bitCount_0f7a4 v0 σ).bind fun q1 =>
  (F_J6_bitCount_0f7a4 v1 q1.2).bind fun q2 =>
  if q1.1 = q2.1 then (if v1 ≤ v0 then (some (.inr (0, q2.2)))
  else (some (.inr (1, q2.2))))
  else ((F_J6_bitCount_0f7a4 v0 q2.2).bind fun q3 =>
  (F_J6_bitCount_0f7a4 v1 q3.2).bind fun q4 =>
  if q4.1 ≤ q3.1 then (some (.inr (0, q4.2)))
  else (some (.inr (1, q4.2))))
noncomputable def U_X8_isFewer_0 (vs : List Value) (σ : sS) : Option (sZ Int32) := (g_i vs).bind fun a0 => (g_i a0.2).bind fun a1 => (g_e a1.2).bind fun _ => T_X8_isFewer_0 a0.1 a1.1 σ
noncomputable def S_X8_isFewer (x : sL) : Option (sZ Int32) := if x.1 = 0 then U_X8_isFewer_0 x.2.1 x.2.2 else none
def Y_X8_isFewer (pc : Nat) : List Nat := if pc = 0 then [0, 1] else []
noncomputable def F_X8_isFewer (v0 : Int32) (v1 : Int32) (σ : sS) : Option (Int32 × sS) := s_run S_X8_isFewer (0, [.int v0, .int v1], σ)
theorem l_X8_isFewer_0 {v0 : Int32} {v1 : Int32} {σ : sS} {z : sZ Int32} (hf : T_X8_isFewer_0 v0 v1 σ = some z) : s_lz σ z := by
  unfold T_X8_isFewer_0 at hf
  obtain ⟨q1, hh, hf⟩ := s_bind hf
  refine s_lz.tr (l_J6_bitCount_0f7a4 hh) ?_
  obtain ⟨q2, hh, hf⟩ := s_bind hf
  refine s_lz.tr (l_J6_bitCount_0f7a4 hh) ?_
  rcases s_ite hf with ⟨-, hf⟩ | ⟨-, hf⟩
  · rcases s_ite hf with ⟨-, hf⟩ | ⟨-, hf⟩
    · cases hf
      exact s_le.rf
    · cases hf
      exact s_le.rf
  · obtain ⟨q3, hh, hf⟩ := s_bind hf
    refine s_lz.tr (l_J6_bitCount_0f7a4 hh) ?_
    obtain ⟨q4, hh, hf⟩ := s_bind hf
    refine s_lz.tr (l_J6_bitCount_0f7a4 hh) ?_
    rcases s_ite hf with ⟨-, hf⟩ | ⟨-, hf⟩
    · cases hf
      exact s_le.rf
    · cases hf
      exact s_le.rf
theorem l_X8_isFewer_s {x : sL} {z : sZ Int32} (hs : S_X8_isFewer x = some z) : s_lz x.2.2 z := by
  obtain ⟨pc, vs, σ⟩ := x
  unfold S_X8_isFewer at hs
  dsimp only at hs ⊢
  rcases s_ite hs with ⟨c, hs⟩ | ⟨-, hs⟩
  · subst c
    unfold U_X8_isFewer_0 at hs
    obtain ⟨a0, g0, hs⟩ := s_bind hs
    obtain ⟨a1, g1, hs⟩ := s_bind hs
    obtain ⟨u9, ge, hs⟩ := s_bind hs
    exact l_X8_isFewer_0 hs
  cases hs
theorem l_X8_isFewer {v0 : Int32} {v1 : Int32} {σ : sS} {q : Int32 × sS} (h : F_X8_isFewer v0 v1 σ = some q) : s_le σ q.2 := by
  unfold F_X8_isFewer at h
  exact s_run_ind (V := fun x r => s_le x.2.2 r.2) (fun x z r hs hk => by
    have h9 := l_X8_isFewer_s hs
    cases z with
    | inl y => exact s_le.tr h9 hk
    | inr q => cases hk; exact h9) h
set_option maxRecDepth 100000 in
set_option maxHeartbeats 4000000 in
theorem v_X8_isFewer_0 {G : sG} {d : Nat} {vs0 : List Value} {σ0 : sS} {v0 : Int32} {v1 : Int32} {σ : sS} {z : sZ Int32} {r : Int32 × sS} (hf : T_X8_isFewer_0 v0 v1 σ = some z) (k : s_K G (d + 2) M_X8_isFewer vs0 σ0 Y_X8_isFewer e_I z r) : s_V G (d + 2) M_X8_isFewer vs0 σ0 Y_X8_isFewer (0, [.int v0, .int v1], σ) (e_I r) := by
  have le0 : s_le σ (e_I r).2 := s_lek hem_I (l_X8_isFewer_0 hf) k
  refine ⟨le0, ?_⟩
  intro p e s m below meth c H locs cells slots ls X I hn1 hn2 hl
  have hn : cells + σ0.2.1 ≤ σ.2.1 ∧ slots + σ0.2.2.1 ≤ σ.2.2.1 := ⟨hn1, hn2⟩
  have hl : lv_has ls 2 [(0, .int v0), (1, .int v1)] := hl
  have hx := X.1
  have hb : c.code = cX8_isFewer := X.2.1
  have hown : s.vm.findClass RX8 = some m.cls := X.2.2.2.2.2.1
  have hts := X.2.2.2.2.2.2.1
  refine W.eq (g2 := F0 m 0 ls []) rfl ?_
  unfold T_X8_isFewer_0 at hf
  obtain ⟨q1, h1, hf⟩ := s_bind hf
  obtain ⟨q2, h2, hf⟩ := s_bind hf
  have le3 : s_le q2.2 (e_I r).2 := by
    refine s_lek hem_I ?_ k
    rcases s_ite hf with ⟨-, hf⟩ | ⟨-, hf⟩
    · rcases s_ite hf with ⟨-, hf⟩ | ⟨-, hf⟩
      · cases hf
        exact s_le.rf
      · cases hf
        exact s_le.rf
    · obtain ⟨q3, hh, hf⟩ := s_bind hf
      refine s_lz.tr (l_J6_bitCount_0f7a4 hh) ?_
      obtain ⟨q4, hh, hf⟩ := s_bind hf
      refine s_lz.tr (l_J6_bitCount_0f7a4 hh) ?_
      rcases s_ite hf with ⟨-, hf⟩ | ⟨-, hf⟩
      · cases hf
        exact s_le.rf
      · cases hf
        exact s_le.rf
  have le4 := s_le.tr (l_J6_bitCount_0f7a4 h2) le3
  refine lv_iload_n hx hb dX8_isFewer_0 rfl (lv_at hl 0 rfl) ?_
  refine r_callS (Y := M_J6_bitCount_0f7a4) (v := some (.int q1.1)) X I w_2168 my_J6_bitCount_0f7a4 (by omega) (t_J6_bitCount_0f7a4 (G := G) (d := d + 0) h1) rfl rfl hl.1 rfl (Nat.le_of_ble_eq_true rfl) hn le4 dX8_isFewer_1 (fun H locs cells slots I hn1 hn2 => ?_)
  have I : s_I G q1.2 s H locs := I
  have hn : cells + σ0.2.1 ≤ q1.2.2.1 ∧ slots + σ0.2.2.1 ≤ q1.2.2.2.1 := ⟨hn1, hn2⟩
  refine lv_iload_n hx hb dX8_isFewer_4 rfl (lv_at hl 1 rfl) ?_
  refine r_callS (Y := M_J6_bitCount_0f7a4) (v := some (.int q2.1)) X I w_2168 my_J6_bitCount_0f7a4 (by omega) (t_J6_bitCount_0f7a4 (G := G) (d := d + 0) h2) rfl rfl hl.1 rfl (Nat.le_of_ble_eq_true rfl) hn le3 dX8_isFewer_5 (fun H locs cells slots I hn1 hn2 => ?_)
  have I : s_I G q2.2 s H locs := I
  have hn : cells + σ0.2.1 ≤ q2.2.2.1 ∧ slots + σ0.2.2.1 ≤ q2.2.2.2.1 := ⟨hn1, hn2⟩
  rcases s_ite hf with ⟨c5, hf⟩ | ⟨c5, hf⟩
  · refine lv_icmp_eq (tgt := 30) hx hb dX8_isFewer_8 (by decide) (fun _ => ?_) (fun n => absurd c5 n)
    refine lv_iload_n hx hb dX8_isFewer_30 rfl (lv_at hl 0 rfl) ?_
    refine lv_iload_n hx hb dX8_isFewer_31 rfl (lv_at hl 1 rfl) ?_
    rcases s_ite hf with ⟨c6, hf⟩ | ⟨c6, hf⟩
    · refine lv_icmp_ge (tgt := 39) hx hb dX8_isFewer_32 (by decide) (fun _ => ?_) (fun n => absurd c6 n)
      cases hf
      have k : _ = r := k
      subst k
      refine lv_iconst (v := 0) hx hb dX8_isFewer_39 (by decide) ?_
      exact r_iret X I rfl rfl rfl hn dX8_isFewer_40
    · refine lv_icmp_ge (tgt := 39) hx hb dX8_isFewer_32 (by decide) (fun n => absurd n c6) (fun _ => ?_)
      cases hf
      have k : _ = r := k
      subst k
      refine lv_iconst (v := 1) hx hb dX8_isFewer_35 (by decide) ?_
      refine lv_goto (tgt := 40) hx hb dX8_isFewer_36 (by decide) ?_
      exact r_iret X I rfl rfl rfl hn dX8_isFewer_40
  · refine lv_icmp_eq (tgt := 30) hx hb dX8_isFewer_8 (by decide) (fun n => absurd n c5) (fun _ => ?_)
    obtain ⟨q3, h7, hf⟩ := s_bind hf
    obtain ⟨q4, h8, hf⟩ := s_bind hf
    have le9 : s_le q4.2 (e_I r).2 := by
      refine s_lek hem_I ?_ k
      rcases s_ite hf with ⟨-, hf⟩ | ⟨-, hf⟩
      · cases hf
        exact s_le.rf
      · cases hf
        exact s_le.rf
    have le10 := s_le.tr (l_J6_bitCount_0f7a4 h8) le9
    refine lv_iload_n hx hb dX8_isFewer_11 rfl (lv_at hl 0 rfl) ?_
    refine r_callS (Y := M_J6_bitCount_0f7a4) (v := some (.int q3.1)) X I w_2168 my_J6_bitCount_0f7a4 (by omega) (t_J6_bitCount_0f7a4 (G := G) (d := d + 0) h7) rfl rfl hl.1 rfl (Nat.le_of_ble_eq_true rfl) hn le10 dX8_isFewer_12 (fun H locs cells slots I hn1 hn2 => ?_)
    have I : s_I G q3.2 s H locs := I
    have hn : cells + σ0.2.1 ≤ q3.2.2.1 ∧ slots + σ0.2.2.1 ≤ q3.2.2.2.1 := ⟨hn1, hn2⟩
    refine lv_iload_n hx hb dX8_isFewer_15 rfl (lv_at hl 1 rfl) ?_
    refine r_callS (Y := M_J6_bitCount_0f7a4) (v := some (.int q4.1)) X I w_2168 my_J6_bitCount_0f7a4 (by omega) (t_J6_bitCount_0f7a4 (G := G) (d := d + 0) h8) rfl rfl hl.1 rfl (Nat.le_of_ble_eq_true rfl) hn le9 dX8_isFewer_16 (fun H locs cells slots I hn1 hn2 => ?_)
    have I : s_I G q4.2 s H locs := I
    have hn : cells + σ0.2.1 ≤ q4.2.2.1 ∧ slots + σ0.2.2.1 ≤ q4.2.2.2.1 := ⟨hn1, hn2⟩
    rcases s_ite hf with ⟨c11, hf⟩ | ⟨c11, hf⟩
    · refine lv_icmp_ge (tgt := 26) hx hb dX8_isFewer_19 (by decide) (fun _ => ?_) (fun n => absurd c11 n)
      cases hf
      have k : _ = r := k
      subst k
      refine lv_iconst (v := 0) hx hb dX8_isFewer_26 (by decide) ?_
      refine lv_goto (tgt := 40) hx hb dX8_isFewer_27 (by decide) ?_
      exact r_iret X I rfl rfl rfl hn dX8_isFewer_40
    · refine lv_icmp_ge (tgt := 26) hx hb dX8_isFewer_19 (by decide) (fun n => absurd n c11) (fun _ => ?_)
      cases hf
      have k : _ = r := k
      subst k
      refine lv_iconst (v := 1) hx hb dX8_isFewer_22 (by decide) ?_
      refine lv_goto (tgt := 40) hx hb dX8_isFewer_23 (by decide) ?_
      exact r_iret X I rfl rfl rfl hn dX8_isFewer_40
theorem v_X8_isFewer {G : sG} {d : Nat} {vs0 : List Value} {σ0 : sS} {x : sL} {z : sZ Int32} {r : Int32 × sS} (hs : S_X8_isFewer x = some z) (k : s_K G (d + 2) M_X8_isFewer vs0 σ0 Y_X8_isFewer e_I z r) : s_V G (d + 2) M_X8_isFewer vs0 σ0 Y_X8_isFewer x (e_I r) := by
  obtain ⟨pc, vs, σ⟩ := x
  unfold S_X8_isFewer at hs
  dsimp only at hs
  rcases s_ite hs with ⟨c, hs⟩ | ⟨-, hs⟩
  · subst c
    unfold U_X8_isFewer_0 at hs
    obtain ⟨a0, g0, hs⟩ := s_bind hs
    obtain ⟨a1, g1, hs⟩ := s_bind hs
    obtain ⟨u9, ge, hs⟩ := s_bind hs
    rw [g_i_to g0, g_i_to g1, g_e_to ge]
    exact v_X8_isFewer_0 hs k
  cases hs
theorem t_X8_isFewer {G : sG} {d : Nat} {v0 : Int32} {v1 : Int32} {σ : sS} {q : Int32 × sS} (h : F_X8_isFewer v0 v1 σ = some q) : s_T G (d + 2) M_X8_isFewer [.int v0, .int v1] σ (e_I q) := by
  unfold F_X8_isFewer at h
  exact s_ofV rfl (by decide) (Nat.le_of_ble_eq_true rfl) rfl rfl (s_run_ind (V := fun x r => s_V G (d + 2) M_X8_isFewer [.int v0, .int v1] σ Y_X8_isFewer x (e_I r)) (fun x z r hs hk => v_X8_isFewer hs (by cases z <;> exact hk)) h)
/-! X8_withdraw -/
noncomputable def T_X8_withdraw_0 (v0 : Nat) (v1 : Int32) (σ : sS) : Option (sZ Int32) :=
  (s_pf σ v0 8 0 (.int 0)).bind fun σ1 =>
  (F_X8_fails v0 v1 σ1).bind fun q2 =>
  (F_J6_bitCount_0f7a4 q2.1 q2.2).bind fun q3 =>
  if q3.1 ≤ 14 then (some (.inl (26, [.ref v0, .int 0, .ref v0], q3.2)))
  else (some (.inl (26, [.ref v0, .int 1, .ref v0], q3.2)))
noncomputable def U_X8_withdraw_0 (vs : List Value) (σ : sS) : Option (sZ Int32) := (g_r vs).bind fun a0 => (g_i a0.2).bind fun a1 => (g_e a1.2).bind fun _ => T_X8_withdraw_0 a0.1 a1.1 σ
noncomputable def T_X8_withdraw_26 (v0 : Nat) (w0 : Int32) (w1 : Nat) (σ : sS) : Option (sZ Int32) :=
  (F_X8_throwsIf w1 w0 1 σ).bind fun q1 =>
  if q1.1 = 0 then ((s_fr q1.2 v0 8 20).bind fun x2 =>
  (s_ai q1.2 x2 0).bind fun x3 =>
  some (.inl (45, [.ref v0, .int x3, .int 1], q1.2)))
  else (some (.inr (0, q1.2)))
noncomputable def U_X8_withdraw_26 (vs : List Value) (σ : sS) : Option (sZ Int32) := (g_r vs).bind fun a0 => (g_i a0.2).bind fun a1 => (g_r a1.2).bind fun a2 => (g_e a2.2).bind fun _ => T_X8_withdraw_26 a0.1 a1.1 a2.1 σ
noncomputable def T_X8_withdraw_45 (v0 : Nat) (v3 : Int32) (v4 : Int32) (σ : sS) : Option (sZ Int32) :=
  (F_X8_worldsMany v0 σ).bind fun q1 =>
  if q1.1 ≤ v4 then (some (.inr (v3, q1.2)))
  else ((s_fr q1.2 v0 8 20).bind fun x2 =>
  (s_ai q1.2 x2 v4).bind fun x3 =>
  (F_X8_isFewer x3 v3 q1.2).bind fun q4 =>
  if q4.1 = 0 then (some (.inl (79, [.ref v0, .int v4, .int v3], q4.2)))
  else ((s_fr q4.2 v0 8 20).bind fun x5 =>
  (s_ai q4.2 x5 v4).bind fun x6 =>
  some (.inl (79, [.ref v0, .int v4, .int x6], q4.2))))
noncomputable def U_X8_withdraw_45 (vs : List Value) (σ : sS) : Option (sZ Int32) := (g_r vs).bind fun a0 => (g_i a0.2).bind fun a1 => (g_i a1.2).bind fun a2 => (g_e a2.2).bind fun _ => T_X8_withdraw_45 a0.1 a1.1 a2.1 σ
noncomputable def T_X8_withdraw_79 (v0 : Nat) (v4 : Int32) (w0 : Int32) (σ : sS) : Option (sZ Int32) :=
  some (.inl (45, [.ref v0, .int w0, .int (v4 + 1)], σ))
noncomputable def U_X8_withdraw_79 (vs : List Value) (σ : sS) : Option (sZ Int32) := (g_r vs).bind fun a0 => (g_i a0.2).bind fun a1 => (g_i a1.2).bind fun a2 => (g_e a2.2).bind fun _ => T_X8_withdraw_79 a0.1 a1.1 a2.1 σ
noncomputable def S_X8_withdraw (x : sL) : Option (sZ Int32) := if x.1 = 0 then U_X8_withdraw_0 x.2.1 x.2.2 else if x.1 = 26 then U_X8_withdraw_26 x.2.1 x.2.2 else if x.1 = 45 then U_X8_withdraw_45 x.2.1 x.2.2 else if x.1 = 79 then U_X8_withdraw_79 x.2.1 x.2.2 else none
def Y_X8_withdraw (pc : Nat) : List Nat := if pc = 0 then [0, 1] else if pc = 26 then [0] else if pc = 45 then [0, 3, 4] else if pc = 79 then [0, 4] else []
noncomputable def F_X8_withdraw (v0 : Nat) (v1 : Int32) (σ : sS) : Option (Int32 × sS) := (s_is σ v0 8).bind fun _ => s_run S_X8_withdraw (0, [.ref v0, .int v1], σ)
theorem l_X8_withdraw_0 {v0 : Nat} {v1 : Int32} {σ : sS} {z : sZ Int32} (hf : T_X8_withdraw_0 v0 v1 σ = some z) : s_lz σ z := by
  unfold T_X8_withdraw_0 at hf
  obtain ⟨σ1, hh, hf⟩ := s_bind hf
  refine s_lz.tr (s_le2 (s_pf_2 hh)) ?_
  obtain ⟨q2, hh, hf⟩ := s_bind hf
  refine s_lz.tr (l_X8_fails hh) ?_
  obtain ⟨q3, hh, hf⟩ := s_bind hf
  refine s_lz.tr (l_J6_bitCount_0f7a4 hh) ?_
  rcases s_ite hf with ⟨-, hf⟩ | ⟨-, hf⟩
  · cases hf
    exact s_le.rf
  · cases hf
    exact s_le.rf
theorem l_X8_withdraw_26 {v0 : Nat} {w0 : Int32} {w1 : Nat} {σ : sS} {z : sZ Int32} (hf : T_X8_withdraw_26 v0 w0 w1 σ = some z) : s_lz σ z := by
  unfold T_X8_withdraw_26 at hf
  obtain ⟨q1, hh, hf⟩ := s_bind hf
  refine s_lz.tr (l_X8_throwsIf hh) ?_
  rcases s_ite hf with ⟨-, hf⟩ | ⟨-, hf⟩
  · obtain ⟨x2, -, hf⟩ := s_bind hf
    obtain ⟨x3, -, hf⟩ := s_bind hf
    cases hf
    exact s_le.rf
  · cases hf
    exact s_le.rf
theorem l_X8_withdraw_45 {v0 : Nat} {v3 : Int32} {v4 : Int32} {σ : sS} {z : sZ Int32} (hf : T_X8_withdraw_45 v0 v3 v4 σ = some z) : s_lz σ z := by
  unfold T_X8_withdraw_45 at hf
  obtain ⟨q1, hh, hf⟩ := s_bind hf
  refine s_lz.tr (l_X8_worldsMany hh) ?_
  rcases s_ite hf with ⟨-, hf⟩ | ⟨-, hf⟩
  · cases hf
    exact s_le.rf
  · obtain ⟨x2, -, hf⟩ := s_bind hf
    obtain ⟨x3, -, hf⟩ := s_bind hf
    obtain ⟨q4, hh, hf⟩ := s_bind hf
    refine s_lz.tr (l_X8_isFewer hh) ?_
    rcases s_ite hf with ⟨-, hf⟩ | ⟨-, hf⟩
    · cases hf
      exact s_le.rf
    · obtain ⟨x5, -, hf⟩ := s_bind hf
      obtain ⟨x6, -, hf⟩ := s_bind hf
      cases hf
      exact s_le.rf
theorem l_X8_withdraw_79 {v0 : Nat} {v4 : Int32} {w0 : Int32} {σ : sS} {z : sZ Int32} (hf : T_X8_withdraw_79 v0 v4 w0 σ = some z) : s_lz σ z := by
  unfold T_X8_withdraw_79 at hf
  cases hf
  exact s_le.rf
theorem l_X8_withdraw_s {x : sL} {z : sZ Int32} (hs : S_X8_withdraw x = some z) : s_lz x.2.2 z := by
  obtain ⟨pc, vs, σ⟩ := x
  unfold S_X8_withdraw at hs
  dsimp only at hs ⊢
  rcases s_ite hs with ⟨c, hs⟩ | ⟨-, hs⟩
  · subst c
    unfold U_X8_withdraw_0 at hs
    obtain ⟨a0, g0, hs⟩ := s_bind hs
    obtain ⟨a1, g1, hs⟩ := s_bind hs
    obtain ⟨u9, ge, hs⟩ := s_bind hs
    exact l_X8_withdraw_0 hs
  rcases s_ite hs with ⟨c, hs⟩ | ⟨-, hs⟩
  · subst c
    unfold U_X8_withdraw_26 at hs
    obtain ⟨a0, g0, hs⟩ := s_bind hs
    obtain ⟨a1, g1, hs⟩ := s_bind hs
    obtain ⟨a2, g2, hs⟩ := s_bind hs
    obtain ⟨u9, ge, hs⟩ := s_bind hs
    exact l_X8_withdraw_26 hs
  rcases s_ite hs with ⟨c, hs⟩ | ⟨-, hs⟩
  · subst c
    unfold U_X8_withdraw_45 at hs
    obtain ⟨a0, g0, hs⟩ := s_bind hs
    obtain ⟨a1, g1, hs⟩ := s_bind hs
    obtain ⟨a2, g2, hs⟩ := s_bind hs
    obtain ⟨u9, ge, hs⟩ := s_bind hs
    exact l_X8_withdraw_45 hs
  rcases s_ite hs with ⟨c, hs⟩ | ⟨-, hs⟩
  · subst c
    unfold U_X8_withdraw_79 at hs
    obtain ⟨a0, g0, hs⟩ := s_bind hs
    obtain ⟨a1, g1, hs⟩ := s_bind hs
    obtain ⟨a2, g2, hs⟩ := s_bind hs
    obtain ⟨u9, ge, hs⟩ := s_bind hs
    exact l_X8_withdraw_79 hs
  cases hs
theorem l_X8_withdraw {v0 : Nat} {v1 : Int32} {σ : sS} {q : Int32 × sS} (h : F_X8_withdraw v0 v1 σ = some q) : s_le σ q.2 := by
  unfold F_X8_withdraw at h
  obtain ⟨-, -, h⟩ := s_bind h
  exact s_run_ind (V := fun x r => s_le x.2.2 r.2) (fun x z r hs hk => by
    have h9 := l_X8_withdraw_s hs
    cases z with
    | inl y => exact s_le.tr h9 hk
    | inr q => cases hk; exact h9) h
theorem b_X8_withdraw {v0 : Nat} {v1 : Int32} {σ : sS} {q : Int32 × sS} (h : F_X8_withdraw v0 v1 σ = some q) : ∃ fs, σ.1 v0 = some (.inr (8, fs)) := by
  unfold F_X8_withdraw at h
  obtain ⟨u, hu, -⟩ := s_bind h
  exact s_is_to hu
set_option maxRecDepth 100000 in
set_option maxHeartbeats 4000000 in
theorem v_X8_withdraw_0 {G : sG} {d : Nat} {vs0 : List Value} {σ0 : sS} {v0 : Nat} {v1 : Int32} {σ : sS} {z : sZ Int32} {r : Int32 × sS} (hf : T_X8_withdraw_0 v0 v1 σ = some z) (k : s_K G (d + 5) M_X8_withdraw vs0 σ0 Y_X8_withdraw e_I z r) : s_V G (d + 5) M_X8_withdraw vs0 σ0 Y_X8_withdraw (0, [.ref v0, .int v1], σ) (e_I r) := by
  have le0 : s_le σ (e_I r).2 := s_lek hem_I (l_X8_withdraw_0 hf) k
  refine ⟨le0, ?_⟩
  intro p e s m below meth c H locs cells slots ls X I hn1 hn2 hl
  have hn : cells + σ0.2.1 ≤ σ.2.1 ∧ slots + σ0.2.2.1 ≤ σ.2.2.1 := ⟨hn1, hn2⟩
  have hl : lv_has ls 5 [(0, .ref v0), (1, .int v1)] := hl
  have hx := X.1
  have hb : c.code = cX8_withdraw := X.2.1
  have hown : s.vm.findClass RX8 = some m.cls := X.2.2.2.2.2.1
  have hts := X.2.2.2.2.2.2.1
  refine W.eq (g2 := F0 m 0 ls []) rfl ?_
  unfold T_X8_withdraw_0 at hf
  obtain ⟨σ1, h1, hf⟩ := s_bind hf
  obtain ⟨q2, h2, hf⟩ := s_bind hf
  obtain ⟨q3, h3, hf⟩ := s_bind hf
  have le4 : s_le q3.2 (e_I r).2 := by
    refine s_lek hem_I ?_ k
    rcases s_ite hf with ⟨-, hf⟩ | ⟨-, hf⟩
    · cases hf
      exact s_le.rf
    · cases hf
      exact s_le.rf
  have le5 := s_le.tr (l_J6_bitCount_0f7a4 h3) le4
  have le6 := s_le.tr (l_X8_fails h2) le5
  refine lv_aload_n hx hb dX8_withdraw_0 rfl (lv_at hl 0 rfl) ?_
  refine lv_iconst (v := 0) hx hb dX8_withdraw_1 (by decide) ?_
  refine r_put X I fp_X8_3 (fun h => by cases h) h1 rfl rfl dX8_withdraw_2 (fun H locs I => ?_)
  have hn := s_k2 (s_pf_2 h1) hn
  refine lv_aload_n hx hb dX8_withdraw_5 rfl (lv_at hl 0 rfl) ?_
  refine lv_iload_n hx hb dX8_withdraw_6 rfl (lv_at hl 1 rfl) ?_
  refine r_callV (Y := M_X8_fails) (v := some (.int q2.1)) X I w_2164 my_X8_fails (by omega) (t_X8_fails (G := G) (d := d + 0) h2) (b_X8_fails h2) rfl rfl hl.1 rfl (Nat.le_of_ble_eq_true rfl) hn le5 dX8_withdraw_7 (fun H locs cells slots I hn1 hn2 => ?_)
  have I : s_I G q2.2 s H locs := I
  have hn : cells + σ0.2.1 ≤ q2.2.2.1 ∧ slots + σ0.2.2.1 ≤ q2.2.2.2.1 := ⟨hn1, hn2⟩
  refine lv_istore_n (lv' := [(2, .int q2.1), (0, .ref v0), (1, .int v1)]) hx hb dX8_withdraw_10 rfl hl (by decide) rfl (fun ls hl => ?_)
  refine lv_aload_n hx hb dX8_withdraw_11 rfl (lv_at hl 1 rfl) ?_
  refine lv_iload_n hx hb dX8_withdraw_12 rfl (lv_at hl 0 rfl) ?_
  refine r_callS (Y := M_J6_bitCount_0f7a4) (v := some (.int q3.1)) X I w_2168 my_J6_bitCount_0f7a4 (by omega) (t_J6_bitCount_0f7a4 (G := G) (d := d + 3) h3) rfl rfl hl.1 rfl (Nat.le_of_ble_eq_true rfl) hn le4 dX8_withdraw_13 (fun H locs cells slots I hn1 hn2 => ?_)
  have I : s_I G q3.2 s H locs := I
  have hn : cells + σ0.2.1 ≤ q3.2.2.1 ∧ slots + σ0.2.2.1 ≤ q3.2.2.2.1 := ⟨hn1, hn2⟩
  refine lv_bipush (v := 14) hx hb dX8_withdraw_16 (by decide) ?_
  rcases s_ite hf with ⟨c7, hf⟩ | ⟨c7, hf⟩
  · refine lv_icmp_le (tgt := 25) hx hb dX8_withdraw_18 (by decide) (fun _ => ?_) (fun n => absurd c7 n)
    cases hf
    have k : s_V G (d + 5) M_X8_withdraw vs0 σ0 Y_X8_withdraw (26, [.ref v0, .int 0, .ref v0], q3.2) (e_I r) := k
    refine lv_iconst (v := 0) hx hb dX8_withdraw_25 (by decide) ?_
    exact k.2 p e s m below meth c _ _ _ _ _ X I hn.1 hn.2 (lv_sub hl [1] rfl)
  · refine lv_icmp_le (tgt := 25) hx hb dX8_withdraw_18 (by decide) (fun n => absurd n c7) (fun _ => ?_)
    cases hf
    have k : s_V G (d + 5) M_X8_withdraw vs0 σ0 Y_X8_withdraw (26, [.ref v0, .int 1, .ref v0], q3.2) (e_I r) := k
    refine lv_iconst (v := 1) hx hb dX8_withdraw_21 (by decide) ?_
    refine lv_goto (tgt := 26) hx hb dX8_withdraw_22 (by decide) ?_
    exact k.2 p e s m below meth c _ _ _ _ _ X I hn.1 hn.2 (lv_sub hl [1] rfl)
set_option maxRecDepth 100000 in
set_option maxHeartbeats 4000000 in
theorem v_X8_withdraw_26 {G : sG} {d : Nat} {vs0 : List Value} {σ0 : sS} {v0 : Nat} {w0 : Int32} {w1 : Nat} {σ : sS} {z : sZ Int32} {r : Int32 × sS} (hf : T_X8_withdraw_26 v0 w0 w1 σ = some z) (k : s_K G (d + 5) M_X8_withdraw vs0 σ0 Y_X8_withdraw e_I z r) : s_V G (d + 5) M_X8_withdraw vs0 σ0 Y_X8_withdraw (26, [.ref v0, .int w0, .ref w1], σ) (e_I r) := by
  have le0 : s_le σ (e_I r).2 := s_lek hem_I (l_X8_withdraw_26 hf) k
  refine ⟨le0, ?_⟩
  intro p e s m below meth c H locs cells slots ls X I hn1 hn2 hl
  have hn : cells + σ0.2.1 ≤ σ.2.1 ∧ slots + σ0.2.2.1 ≤ σ.2.2.1 := ⟨hn1, hn2⟩
  have hl : lv_has ls 5 [(0, .ref v0)] := hl
  have hx := X.1
  have hb : c.code = cX8_withdraw := X.2.1
  have hown : s.vm.findClass RX8 = some m.cls := X.2.2.2.2.2.1
  have hts := X.2.2.2.2.2.2.1
  refine W.eq (g2 := F0 m 26 ls [.int w0, .ref w1]) rfl ?_
  unfold T_X8_withdraw_26 at hf
  obtain ⟨q1, h1, hf⟩ := s_bind hf
  have le2 : s_le q1.2 (e_I r).2 := by
    refine s_lek hem_I ?_ k
    rcases s_ite hf with ⟨-, hf⟩ | ⟨-, hf⟩
    · obtain ⟨x2, -, hf⟩ := s_bind hf
      obtain ⟨x3, -, hf⟩ := s_bind hf
      cases hf
      exact s_le.rf
    · cases hf
      exact s_le.rf
  refine lv_iconst (v := 1) hx hb dX8_withdraw_26 (by decide) ?_
  refine r_callV (Y := M_X8_throwsIf) (v := some (.int q1.1)) X I w_1897 my_X8_throwsIf (by omega) (t_X8_throwsIf (G := G) (d := d + 3) h1) (b_X8_throwsIf h1) rfl rfl hl.1 rfl (Nat.le_of_ble_eq_true rfl) hn le2 dX8_withdraw_27 (fun H locs cells slots I hn1 hn2 => ?_)
  have I : s_I G q1.2 s H locs := I
  have hn : cells + σ0.2.1 ≤ q1.2.2.1 ∧ slots + σ0.2.2.1 ≤ q1.2.2.2.1 := ⟨hn1, hn2⟩
  rcases s_ite hf with ⟨c3, hf⟩ | ⟨c3, hf⟩
  · refine lv_if_eq (tgt := 35) hx hb dX8_withdraw_30 (by decide) (fun _ => ?_) (fun n => absurd c3 n)
    obtain ⟨x2, h4, hf⟩ := s_bind hf
    obtain ⟨x3, h5, hf⟩ := s_bind hf
    cases hf
    have k : s_V G (d + 5) M_X8_withdraw vs0 σ0 Y_X8_withdraw (45, [.ref v0, .int x3, .int 1], q1.2) (e_I r) := k
    refine lv_aload_n hx hb dX8_withdraw_35 rfl (lv_at hl 0 rfl) ?_
    refine r_gr X I fl_X8_50 h4 dX8_withdraw_36 ?_
    refine lv_iconst (v := 0) hx hb dX8_withdraw_39 (by decide) ?_
    refine r_iald X I h5 dX8_withdraw_40 ?_
    refine lv_istore_n (lv' := [(3, .int x3), (0, .ref v0)]) hx hb dX8_withdraw_41 rfl hl (by decide) rfl (fun ls hl => ?_)
    refine lv_iconst (v := 1) hx hb dX8_withdraw_42 (by decide) ?_
    refine lv_istore (lv' := [(4, .int 1), (3, .int x3), (0, .ref v0)]) hx hb dX8_withdraw_43 hl (by decide) rfl (fun ls hl => ?_)
    exact k.2 p e s m below meth c _ _ _ _ _ X I hn.1 hn.2 (lv_sub hl [2, 1, 0] rfl)
  · refine lv_if_eq (tgt := 35) hx hb dX8_withdraw_30 (by decide) (fun n => absurd n c3) (fun _ => ?_)
    cases hf
    have k : _ = r := k
    subst k
    refine lv_iconst (v := 0) hx hb dX8_withdraw_33 (by decide) ?_
    exact r_iret X I rfl rfl rfl hn dX8_withdraw_34
set_option maxRecDepth 100000 in
set_option maxHeartbeats 4000000 in
theorem v_X8_withdraw_45 {G : sG} {d : Nat} {vs0 : List Value} {σ0 : sS} {v0 : Nat} {v3 : Int32} {v4 : Int32} {σ : sS} {z : sZ Int32} {r : Int32 × sS} (hf : T_X8_withdraw_45 v0 v3 v4 σ = some z) (k : s_K G (d + 5) M_X8_withdraw vs0 σ0 Y_X8_withdraw e_I z r) : s_V G (d + 5) M_X8_withdraw vs0 σ0 Y_X8_withdraw (45, [.ref v0, .int v3, .int v4], σ) (e_I r) := by
  have le0 : s_le σ (e_I r).2 := s_lek hem_I (l_X8_withdraw_45 hf) k
  refine ⟨le0, ?_⟩
  intro p e s m below meth c H locs cells slots ls X I hn1 hn2 hl
  have hn : cells + σ0.2.1 ≤ σ.2.1 ∧ slots + σ0.2.2.1 ≤ σ.2.2.1 := ⟨hn1, hn2⟩
  have hl : lv_has ls 5 [(0, .ref v0), (3, .int v3), (4, .int v4)] := hl
  have hx := X.1
  have hb : c.code = cX8_withdraw := X.2.1
  have hown : s.vm.findClass RX8 = some m.cls := X.2.2.2.2.2.1
  have hts := X.2.2.2.2.2.2.1
  refine W.eq (g2 := F0 m 45 ls []) rfl ?_
  unfold T_X8_withdraw_45 at hf
  obtain ⟨q1, h1, hf⟩ := s_bind hf
  have le2 : s_le q1.2 (e_I r).2 := by
    refine s_lek hem_I ?_ k
    rcases s_ite hf with ⟨-, hf⟩ | ⟨-, hf⟩
    · cases hf
      exact s_le.rf
    · obtain ⟨x2, -, hf⟩ := s_bind hf
      obtain ⟨x3, -, hf⟩ := s_bind hf
      obtain ⟨q4, hh, hf⟩ := s_bind hf
      refine s_lz.tr (l_X8_isFewer hh) ?_
      rcases s_ite hf with ⟨-, hf⟩ | ⟨-, hf⟩
      · cases hf
        exact s_le.rf
      · obtain ⟨x5, -, hf⟩ := s_bind hf
        obtain ⟨x6, -, hf⟩ := s_bind hf
        cases hf
        exact s_le.rf
  refine lv_iload hx hb dX8_withdraw_45 (lv_at hl 2 rfl) ?_
  refine lv_aload_n hx hb dX8_withdraw_47 rfl (lv_at hl 0 rfl) ?_
  refine r_callV (Y := M_X8_worldsMany) (v := some (.int q1.1)) X I w_1943 my_X8_worldsMany (by omega) (t_X8_worldsMany (G := G) (d := d + 2) h1) (b_X8_worldsMany h1) rfl rfl hl.1 rfl (Nat.le_of_ble_eq_true rfl) hn le2 dX8_withdraw_48 (fun H locs cells slots I hn1 hn2 => ?_)
  have I : s_I G q1.2 s H locs := I
  have hn : cells + σ0.2.1 ≤ q1.2.2.1 ∧ slots + σ0.2.2.1 ≤ q1.2.2.2.1 := ⟨hn1, hn2⟩
  rcases s_ite hf with ⟨c3, hf⟩ | ⟨c3, hf⟩
  · refine lv_icmp_ge (tgt := 86) hx hb dX8_withdraw_51 (by decide) (fun _ => ?_) (fun n => absurd c3 n)
    cases hf
    have k : _ = r := k
    subst k
    refine lv_iload_n hx hb dX8_withdraw_86 rfl (lv_at hl 1 rfl) ?_
    exact r_iret X I rfl rfl rfl hn dX8_withdraw_87
  · refine lv_icmp_ge (tgt := 86) hx hb dX8_withdraw_51 (by decide) (fun n => absurd n c3) (fun _ => ?_)
    obtain ⟨x2, h4, hf⟩ := s_bind hf
    obtain ⟨x3, h5, hf⟩ := s_bind hf
    obtain ⟨q4, h6, hf⟩ := s_bind hf
    have le7 : s_le q4.2 (e_I r).2 := by
      refine s_lek hem_I ?_ k
      rcases s_ite hf with ⟨-, hf⟩ | ⟨-, hf⟩
      · cases hf
        exact s_le.rf
      · obtain ⟨x5, -, hf⟩ := s_bind hf
        obtain ⟨x6, -, hf⟩ := s_bind hf
        cases hf
        exact s_le.rf
    refine lv_aload_n hx hb dX8_withdraw_54 rfl (lv_at hl 0 rfl) ?_
    refine r_gr X I fl_X8_50 h4 dX8_withdraw_55 ?_
    refine lv_iload hx hb dX8_withdraw_58 (lv_at hl 2 rfl) ?_
    refine r_iald X I h5 dX8_withdraw_60 ?_
    refine lv_iload_n hx hb dX8_withdraw_61 rfl (lv_at hl 1 rfl) ?_
    refine r_callS (Y := M_X8_isFewer) (v := some (.int q4.1)) X I w_2169 my_X8_isFewer (by omega) (t_X8_isFewer (G := G) (d := d + 2) h6) rfl rfl hl.1 rfl (Nat.le_of_ble_eq_true rfl) hn le7 dX8_withdraw_62 (fun H locs cells slots I hn1 hn2 => ?_)
    have I : s_I G q4.2 s H locs := I
    have hn : cells + σ0.2.1 ≤ q4.2.2.1 ∧ slots + σ0.2.2.1 ≤ q4.2.2.2.1 := ⟨hn1, hn2⟩
    rcases s_ite hf with ⟨c8, hf⟩ | ⟨c8, hf⟩
    · refine lv_if_eq (tgt := 78) hx hb dX8_withdraw_65 (by decide) (fun _ => ?_) (fun n => absurd c8 n)
      cases hf
      have k : s_V G (d + 5) M_X8_withdraw vs0 σ0 Y_X8_withdraw (79, [.ref v0, .int v4, .int v3], q4.2) (e_I r) := k
      refine lv_iload_n hx hb dX8_withdraw_78 rfl (lv_at hl 1 rfl) ?_
      exact k.2 p e s m below meth c _ _ _ _ _ X I hn.1 hn.2 (lv_sub hl [0, 2] rfl)
    · refine lv_if_eq (tgt := 78) hx hb dX8_withdraw_65 (by decide) (fun n => absurd n c8) (fun _ => ?_)
      obtain ⟨x5, h9, hf⟩ := s_bind hf
      obtain ⟨x6, h10, hf⟩ := s_bind hf
      cases hf
      have k : s_V G (d + 5) M_X8_withdraw vs0 σ0 Y_X8_withdraw (79, [.ref v0, .int v4, .int x6], q4.2) (e_I r) := k
      refine lv_aload_n hx hb dX8_withdraw_68 rfl (lv_at hl 0 rfl) ?_
      refine r_gr X I fl_X8_50 h9 dX8_withdraw_69 ?_
      refine lv_iload hx hb dX8_withdraw_72 (lv_at hl 2 rfl) ?_
      refine r_iald X I h10 dX8_withdraw_74 ?_
      refine lv_goto (tgt := 79) hx hb dX8_withdraw_75 (by decide) ?_
      exact k.2 p e s m below meth c _ _ _ _ _ X I hn.1 hn.2 (lv_sub hl [0, 2] rfl)
set_option maxRecDepth 100000 in
set_option maxHeartbeats 4000000 in
theorem v_X8_withdraw_79 {G : sG} {d : Nat} {vs0 : List Value} {σ0 : sS} {v0 : Nat} {v4 : Int32} {w0 : Int32} {σ : sS} {z : sZ Int32} {r : Int32 × sS} (hf : T_X8_withdraw_79 v0 v4 w0 σ = some z) (k : s_K G (d + 5) M_X8_withdraw vs0 σ0 Y_X8_withdraw e_I z r) : s_V G (d + 5) M_X8_withdraw vs0 σ0 Y_X8_withdraw (79, [.ref v0, .int v4, .int w0], σ) (e_I r) := by
  have le0 : s_le σ (e_I r).2 := s_lek hem_I (l_X8_withdraw_79 hf) k
  refine ⟨le0, ?_⟩
  intro p e s m below meth c H locs cells slots ls X I hn1 hn2 hl
  have hn : cells + σ0.2.1 ≤ σ.2.1 ∧ slots + σ0.2.2.1 ≤ σ.2.2.1 := ⟨hn1, hn2⟩
  have hl : lv_has ls 5 [(0, .ref v0), (4, .int v4)] := hl
  have hx := X.1
  have hb : c.code = cX8_withdraw := X.2.1
  have hown : s.vm.findClass RX8 = some m.cls := X.2.2.2.2.2.1
  have hts := X.2.2.2.2.2.2.1
  refine W.eq (g2 := F0 m 79 ls [.int w0]) rfl ?_
  unfold T_X8_withdraw_79 at hf
  cases hf
  have k : s_V G (d + 5) M_X8_withdraw vs0 σ0 Y_X8_withdraw (45, [.ref v0, .int w0, .int (v4 + 1)], σ) (e_I r) := k
  refine lv_istore_n (lv' := [(3, .int w0), (0, .ref v0), (4, .int v4)]) hx hb dX8_withdraw_79 rfl hl (by decide) rfl (fun ls hl => ?_)
  refine lv_iinc (v := (v4 + 1)) (lv' := [(4, .int (v4 + 1)), (3, .int w0), (0, .ref v0)]) hx hb dX8_withdraw_80 hl (k := 2) rfl rfl (by decide) rfl (fun ls hl => ?_)
  refine lv_goto (tgt := 45) hx hb dX8_withdraw_83 (by decide) ?_
  exact k.2 p e s m below meth c _ _ _ _ _ X I hn.1 hn.2 (lv_sub hl [2, 1, 0] rfl)
theorem v_X8_withdraw {G : sG} {d : Nat} {vs0 : List Value} {σ0 : sS} {x : sL} {z : sZ Int32} {r : Int32 × sS} (hs : S_X8_withdraw x = some z) (k : s_K G (d + 5) M_X8_withdraw vs0 σ0 Y_X8_withdraw e_I z r) : s_V G (d + 5) M_X8_withdraw vs0 σ0 Y_X8_withdraw x (e_I r) := by
  obtain ⟨pc, vs, σ⟩ := x
  unfold S_X8_withdraw at hs
  dsimp only at hs
  rcases s_ite hs with ⟨c, hs⟩ | ⟨-, hs⟩
  · subst c
    unfold U_X8_withdraw_0 at hs
    obtain ⟨a0, g0, hs⟩ := s_bind hs
    obtain ⟨a1, g1, hs⟩ := s_bind hs
    obtain ⟨u9, ge, hs⟩ := s_bind hs
    rw [g_r_to g0, g_i_to g1, g_e_to ge]
    exact v_X8_withdraw_0 hs k
  rcases s_ite hs with ⟨c, hs⟩ | ⟨-, hs⟩
  · subst c
    unfold U_X8_withdraw_26 at hs
    obtain ⟨a0, g0, hs⟩ := s_bind hs
    obtain ⟨a1, g1, hs⟩ := s_bind hs
    obtain ⟨a2, g2, hs⟩ := s_bind hs
    obtain ⟨u9, ge, hs⟩ := s_bind hs
    rw [g_r_to g0, g_i_to g1, g_r_to g2, g_e_to ge]
    exact v_X8_withdraw_26 hs k
  rcases s_ite hs with ⟨c, hs⟩ | ⟨-, hs⟩
  · subst c
    unfold U_X8_withdraw_45 at hs
    obtain ⟨a0, g0, hs⟩ := s_bind hs
    obtain ⟨a1, g1, hs⟩ := s_bind hs
    obtain ⟨a2, g2, hs⟩ := s_bind hs
    obtain ⟨u9, ge, hs⟩ := s_bind hs
    rw [g_r_to g0, g_i_to g1, g_i_to g2, g_e_to ge]
    exact v_X8_withdraw_45 hs k
  rcases s_ite hs with ⟨c, hs⟩ | ⟨-, hs⟩
  · subst c
    unfold U_X8_withdraw_79 at hs
    obtain ⟨a0, g0, hs⟩ := s_bind hs
    obtain ⟨a1, g1, hs⟩ := s_bind hs
    obtain ⟨a2, g2, hs⟩ := s_bind hs
    obtain ⟨u9, ge, hs⟩ := s_bind hs
    rw [g_r_to g0, g_i_to g1, g_i_to g2, g_e_to ge]
    exact v_X8_withdraw_79 hs k
  cases hs
theorem t_X8_withdraw {G : sG} {d : Nat} {v0 : Nat} {v1 : Int32} {σ : sS} {q : Int32 × sS} (h : F_X8_withdraw v0 v1 σ = some q) : s_T G (d + 5) M_X8_withdraw [.ref v0, .int v1] σ (e_I q) := by
  unfold F_X8_withdraw at h
  obtain ⟨-, -, h⟩ := s_bind h
  exact s_ofV rfl (by decide) (Nat.le_of_ble_eq_true rfl) rfl rfl (s_run_ind (V := fun x r => s_V G (d + 5) M_X8_withdraw [.ref v0, .int v1] σ Y_X8_withdraw x (e_I r)) (fun x z r hs hk => v_X8_withdraw hs (by cases z <;> exact hk)) h)
/-! X8_idle -/
noncomputable def T_X8_idle_0 (v0 : Nat) (v1 : Int32) (σ : sS) : Option (sZ Int32) :=
  (s_pf σ v0 8 0 (.int 0)).bind fun σ1 =>
  (F_X8_noCustomer v1 σ1).bind fun q2 =>
  (F_X8_throwsIf v0 q2.1 1 q2.2).bind fun q3 =>
  if q3.1 = 0 then (some (.inl (23, [.ref v0, .int v1, .int 0, .int 0], q3.2)))
  else (some (.inr (0, q3.2)))
noncomputable def U_X8_idle_0 (vs : List Value) (σ : sS) : Option (sZ Int32) := (g_r vs).bind fun a0 => (g_i a0.2).bind fun a1 => (g_e a1.2).bind fun _ => T_X8_idle_0 a0.1 a1.1 σ
noncomputable def T_X8_idle_23 (v0 : Nat) (v1 : Int32) (v2 : Int32) (v3 : Int32) (σ : sS) : Option (sZ Int32) :=
  (F_X8_formulas v0 σ).bind fun q1 =>
  if q1.1 ≤ v3 then (some (.inr (v2, q1.2)))
  else ((F_X8_beliefsOf v0 v1 q1.2).bind fun q2 =>
  if ((q2.1 >>> (v3 &&& 31)) &&& 1) = 1 then ((F_X8_beliefsOf v0 v1 q2.2).bind fun q3 =>
  (F_X8_leastWorld v0 (q3.1 &&& ((1 <<< (v3 &&& 31)) ^^^ (-1))) v3 q3.2).bind fun q4 =>
  if (0 : Int32) ≤ q4.1 then (some (.inl (70, [.ref v0, .int v1, .int v3, .int v2], q4.2)))
  else (some (.inl (71, [.ref v0, .int v1, .int v3, .int (1 <<< (v3 &&& 31)), .int v2], q4.2))))
  else (some (.inl (70, [.ref v0, .int v1, .int v3, .int v2], q2.2))))
noncomputable def U_X8_idle_23 (vs : List Value) (σ : sS) : Option (sZ Int32) := (g_r vs).bind fun a0 => (g_i a0.2).bind fun a1 => (g_i a1.2).bind fun a2 => (g_i a2.2).bind fun a3 => (g_e a3.2).bind fun _ => T_X8_idle_23 a0.1 a1.1 a2.1 a3.1 σ
noncomputable def T_X8_idle_70 (v0 : Nat) (v1 : Int32) (v3 : Int32) (w0 : Int32) (σ : sS) : Option (sZ Int32) :=
  some (.inl (71, [.ref v0, .int v1, .int v3, .int 0, .int w0], σ))
noncomputable def U_X8_idle_70 (vs : List Value) (σ : sS) : Option (sZ Int32) := (g_r vs).bind fun a0 => (g_i a0.2).bind fun a1 => (g_i a1.2).bind fun a2 => (g_i a2.2).bind fun a3 => (g_e a3.2).bind fun _ => T_X8_idle_70 a0.1 a1.1 a2.1 a3.1 σ
noncomputable def T_X8_idle_71 (v0 : Nat) (v1 : Int32) (v3 : Int32) (w0 : Int32) (w1 : Int32) (σ : sS) : Option (sZ Int32) :=
  some (.inl (23, [.ref v0, .int v1, .int (w1 ||| w0), .int (v3 + 1)], σ))
noncomputable def U_X8_idle_71 (vs : List Value) (σ : sS) : Option (sZ Int32) := (g_r vs).bind fun a0 => (g_i a0.2).bind fun a1 => (g_i a1.2).bind fun a2 => (g_i a2.2).bind fun a3 => (g_i a3.2).bind fun a4 => (g_e a4.2).bind fun _ => T_X8_idle_71 a0.1 a1.1 a2.1 a3.1 a4.1 σ
noncomputable def S_X8_idle (x : sL) : Option (sZ Int32) := if x.1 = 0 then U_X8_idle_0 x.2.1 x.2.2 else if x.1 = 23 then U_X8_idle_23 x.2.1 x.2.2 else if x.1 = 70 then U_X8_idle_70 x.2.1 x.2.2 else if x.1 = 71 then U_X8_idle_71 x.2.1 x.2.2 else none
def Y_X8_idle (pc : Nat) : List Nat := if pc = 0 then [0, 1] else if pc = 23 then [0, 1, 2, 3] else if pc = 70 then [0, 1, 3] else if pc = 71 then [0, 1, 3] else []
noncomputable def F_X8_idle (v0 : Nat) (v1 : Int32) (σ : sS) : Option (Int32 × sS) := (s_is σ v0 8).bind fun _ => s_run S_X8_idle (0, [.ref v0, .int v1], σ)
theorem l_X8_idle_0 {v0 : Nat} {v1 : Int32} {σ : sS} {z : sZ Int32} (hf : T_X8_idle_0 v0 v1 σ = some z) : s_lz σ z := by
  unfold T_X8_idle_0 at hf
  obtain ⟨σ1, hh, hf⟩ := s_bind hf
  refine s_lz.tr (s_le2 (s_pf_2 hh)) ?_
  obtain ⟨q2, hh, hf⟩ := s_bind hf
  refine s_lz.tr (l_X8_noCustomer hh) ?_
  obtain ⟨q3, hh, hf⟩ := s_bind hf
  refine s_lz.tr (l_X8_throwsIf hh) ?_
  rcases s_ite hf with ⟨-, hf⟩ | ⟨-, hf⟩
  · cases hf
    exact s_le.rf
  · cases hf
    exact s_le.rf
theorem l_X8_idle_23 {v0 : Nat} {v1 : Int32} {v2 : Int32} {v3 : Int32} {σ : sS} {z : sZ Int32} (hf : T_X8_idle_23 v0 v1 v2 v3 σ = some z) : s_lz σ z := by
  unfold T_X8_idle_23 at hf
  obtain ⟨q1, hh, hf⟩ := s_bind hf
  refine s_lz.tr (l_X8_formulas hh) ?_
  rcases s_ite hf with ⟨-, hf⟩ | ⟨-, hf⟩
  · cases hf
    exact s_le.rf
  · obtain ⟨q2, hh, hf⟩ := s_bind hf
    refine s_lz.tr (l_X8_beliefsOf hh) ?_
    rcases s_ite hf with ⟨-, hf⟩ | ⟨-, hf⟩
    · obtain ⟨q3, hh, hf⟩ := s_bind hf
      refine s_lz.tr (l_X8_beliefsOf hh) ?_
      obtain ⟨q4, hh, hf⟩ := s_bind hf
      refine s_lz.tr (l_X8_leastWorld hh) ?_
      rcases s_ite hf with ⟨-, hf⟩ | ⟨-, hf⟩
      · cases hf
        exact s_le.rf
      · cases hf
        exact s_le.rf
    · cases hf
      exact s_le.rf
theorem l_X8_idle_70 {v0 : Nat} {v1 : Int32} {v3 : Int32} {w0 : Int32} {σ : sS} {z : sZ Int32} (hf : T_X8_idle_70 v0 v1 v3 w0 σ = some z) : s_lz σ z := by
  unfold T_X8_idle_70 at hf
  cases hf
  exact s_le.rf
theorem l_X8_idle_71 {v0 : Nat} {v1 : Int32} {v3 : Int32} {w0 : Int32} {w1 : Int32} {σ : sS} {z : sZ Int32} (hf : T_X8_idle_71 v0 v1 v3 w0 w1 σ = some z) : s_lz σ z := by
  unfold T_X8_idle_71 at hf
  cases hf
  exact s_le.rf
theorem l_X8_idle_s {x : sL} {z : sZ Int32} (hs : S_X8_idle x = some z) : s_lz x.2.2 z := by
  obtain ⟨pc, vs, σ⟩ := x
  unfold S_X8_idle at hs
  dsimp only at hs ⊢
  rcases s_ite hs with ⟨c, hs⟩ | ⟨-, hs⟩
  · subst c
    unfold U_X8_idle_0 at hs
    obtain ⟨a0, g0, hs⟩ := s_bind hs
    obtain ⟨a1, g1, hs⟩ := s_bind hs
    obtain ⟨u9, ge, hs⟩ := s_bind hs
    exact l_X8_idle_0 hs
  rcases s_ite hs with ⟨c, hs⟩ | ⟨-, hs⟩
  · subst c
    unfold U_X8_idle_23 at hs
    obtain ⟨a0, g0, hs⟩ := s_bind hs
    obtain ⟨a1, g1, hs⟩ := s_bind hs
    obtain ⟨a2, g2, hs⟩ := s_bind hs
    obtain ⟨a3, g3, hs⟩ := s_bind hs
    obtain ⟨u9, ge, hs⟩ := s_bind hs
    exact l_X8_idle_23 hs
  rcases s_ite hs with ⟨c, hs⟩ | ⟨-, hs⟩
  · subst c
    unfold U_X8_idle_70 at hs
    obtain ⟨a0, g0, hs⟩ := s_bind hs
    obtain ⟨a1, g1, hs⟩ := s_bind hs
    obtain ⟨a2, g2, hs⟩ := s_bind hs
    obtain ⟨a3, g3, hs⟩ := s_bind hs
    obtain ⟨u9, ge, hs⟩ := s_bind hs
    exact l_X8_idle_70 hs
  rcases s_ite hs with ⟨c, hs⟩ | ⟨-, hs⟩
  · subst c
    unfold U_X8_idle_71 at hs
    obtain ⟨a0, g0, hs⟩ := s_bind hs
    obtain ⟨a1, g1, hs⟩ := s_bind hs
    obtain ⟨a2, g2, hs⟩ := s_bind hs
    obtain ⟨a3, g3, hs⟩ := s_bind hs
    obtain ⟨a4, g4, hs⟩ := s_bind hs
    obtain ⟨u9, ge, hs⟩ := s_bind hs
    exact l_X8_idle_71 hs
  cases hs
theorem l_X8_idle {v0 : Nat} {v1 : Int32} {σ : sS} {q : Int32 × sS} (h : F_X8_idle v0 v1 σ = some q) : s_le σ q.2 := by
  unfold F_X8_idle at h
  obtain ⟨-, -, h⟩ := s_bind h
  exact s_run_ind (V := fun x r => s_le x.2.2 r.2) (fun x z r hs hk => by
    have h9 := l_X8_idle_s hs
    cases z with
    | inl y => exact s_le.tr h9 hk
    | inr q => cases hk; exact h9) h
theorem b_X8_idle {v0 : Nat} {v1 : Int32} {σ : sS} {q : Int32 × sS} (h : F_X8_idle v0 v1 σ = some q) : ∃ fs, σ.1 v0 = some (.inr (8, fs)) := by
  unfold F_X8_idle at h
  obtain ⟨u, hu, -⟩ := s_bind h
  exact s_is_to hu
set_option maxRecDepth 100000 in
set_option maxHeartbeats 4000000 in
theorem v_X8_idle_0 {G : sG} {d : Nat} {vs0 : List Value} {σ0 : sS} {v0 : Nat} {v1 : Int32} {σ : sS} {z : sZ Int32} {r : Int32 × sS} (hf : T_X8_idle_0 v0 v1 σ = some z) (k : s_K G (d + 6) M_X8_idle vs0 σ0 Y_X8_idle e_I z r) : s_V G (d + 6) M_X8_idle vs0 σ0 Y_X8_idle (0, [.ref v0, .int v1], σ) (e_I r) := by
  have le0 : s_le σ (e_I r).2 := s_lek hem_I (l_X8_idle_0 hf) k
  refine ⟨le0, ?_⟩
  intro p e s m below meth c H locs cells slots ls X I hn1 hn2 hl
  have hn : cells + σ0.2.1 ≤ σ.2.1 ∧ slots + σ0.2.2.1 ≤ σ.2.2.1 := ⟨hn1, hn2⟩
  have hl : lv_has ls 4 [(0, .ref v0), (1, .int v1)] := hl
  have hx := X.1
  have hb : c.code = cX8_idle := X.2.1
  have hown : s.vm.findClass RX8 = some m.cls := X.2.2.2.2.2.1
  have hts := X.2.2.2.2.2.2.1
  refine W.eq (g2 := F0 m 0 ls []) rfl ?_
  unfold T_X8_idle_0 at hf
  obtain ⟨σ1, h1, hf⟩ := s_bind hf
  obtain ⟨q2, h2, hf⟩ := s_bind hf
  obtain ⟨q3, h3, hf⟩ := s_bind hf
  have le4 : s_le q3.2 (e_I r).2 := by
    refine s_lek hem_I ?_ k
    rcases s_ite hf with ⟨-, hf⟩ | ⟨-, hf⟩
    · cases hf
      exact s_le.rf
    · cases hf
      exact s_le.rf
  have le5 := s_le.tr (l_X8_throwsIf h3) le4
  have le6 := s_le.tr (l_X8_noCustomer h2) le5
  refine lv_aload_n hx hb dX8_idle_0 rfl (lv_at hl 0 rfl) ?_
  refine lv_iconst (v := 0) hx hb dX8_idle_1 (by decide) ?_
  refine r_put X I fp_X8_3 (fun h => by cases h) h1 rfl rfl dX8_idle_2 (fun H locs I => ?_)
  have hn := s_k2 (s_pf_2 h1) hn
  refine lv_aload_n hx hb dX8_idle_5 rfl (lv_at hl 0 rfl) ?_
  refine lv_iload_n hx hb dX8_idle_6 rfl (lv_at hl 1 rfl) ?_
  refine r_callS (Y := M_X8_noCustomer) (v := some (.int q2.1)) X I w_1984 my_X8_noCustomer (by omega) (t_X8_noCustomer (G := G) (d := d + 3) h2) rfl rfl hl.1 rfl (Nat.le_of_ble_eq_true rfl) hn le5 dX8_idle_7 (fun H locs cells slots I hn1 hn2 => ?_)
  have I : s_I G q2.2 s H locs := I
  have hn : cells + σ0.2.1 ≤ q2.2.2.1 ∧ slots + σ0.2.2.1 ≤ q2.2.2.2.1 := ⟨hn1, hn2⟩
  refine lv_iconst (v := 1) hx hb dX8_idle_10 (by decide) ?_
  refine r_callV (Y := M_X8_throwsIf) (v := some (.int q3.1)) X I w_1897 my_X8_throwsIf (by omega) (t_X8_throwsIf (G := G) (d := d + 4) h3) (b_X8_throwsIf h3) rfl rfl hl.1 rfl (Nat.le_of_ble_eq_true rfl) hn le4 dX8_idle_11 (fun H locs cells slots I hn1 hn2 => ?_)
  have I : s_I G q3.2 s H locs := I
  have hn : cells + σ0.2.1 ≤ q3.2.2.1 ∧ slots + σ0.2.2.1 ≤ q3.2.2.2.1 := ⟨hn1, hn2⟩
  rcases s_ite hf with ⟨c7, hf⟩ | ⟨c7, hf⟩
  · refine lv_if_eq (tgt := 19) hx hb dX8_idle_14 (by decide) (fun _ => ?_) (fun n => absurd c7 n)
    cases hf
    have k : s_V G (d + 6) M_X8_idle vs0 σ0 Y_X8_idle (23, [.ref v0, .int v1, .int 0, .int 0], q3.2) (e_I r) := k
    refine lv_iconst (v := 0) hx hb dX8_idle_19 (by decide) ?_
    refine lv_istore_n (lv' := [(2, .int 0), (0, .ref v0), (1, .int v1)]) hx hb dX8_idle_20 rfl hl (by decide) rfl (fun ls hl => ?_)
    refine lv_iconst (v := 0) hx hb dX8_idle_21 (by decide) ?_
    refine lv_istore_n (lv' := [(3, .int 0), (2, .int 0), (0, .ref v0), (1, .int v1)]) hx hb dX8_idle_22 rfl hl (by decide) rfl (fun ls hl => ?_)
    exact k.2 p e s m below meth c _ _ _ _ _ X I hn.1 hn.2 (lv_sub hl [2, 3, 1, 0] rfl)
  · refine lv_if_eq (tgt := 19) hx hb dX8_idle_14 (by decide) (fun n => absurd n c7) (fun _ => ?_)
    cases hf
    have k : _ = r := k
    subst k
    refine lv_iconst (v := 0) hx hb dX8_idle_17 (by decide) ?_
    exact r_iret X I rfl rfl rfl hn dX8_idle_18
set_option maxRecDepth 100000 in
set_option maxHeartbeats 4000000 in
theorem v_X8_idle_23 {G : sG} {d : Nat} {vs0 : List Value} {σ0 : sS} {v0 : Nat} {v1 : Int32} {v2 : Int32} {v3 : Int32} {σ : sS} {z : sZ Int32} {r : Int32 × sS} (hf : T_X8_idle_23 v0 v1 v2 v3 σ = some z) (k : s_K G (d + 6) M_X8_idle vs0 σ0 Y_X8_idle e_I z r) : s_V G (d + 6) M_X8_idle vs0 σ0 Y_X8_idle (23, [.ref v0, .int v1, .int v2, .int v3], σ) (e_I r) := by
  have le0 : s_le σ (e_I r).2 := s_lek hem_I (l_X8_idle_23 hf) k
  refine ⟨le0, ?_⟩
  intro p e s m below meth c H locs cells slots ls X I hn1 hn2 hl
  have hn : cells + σ0.2.1 ≤ σ.2.1 ∧ slots + σ0.2.2.1 ≤ σ.2.2.1 := ⟨hn1, hn2⟩
  have hl : lv_has ls 4 [(0, .ref v0), (1, .int v1), (2, .int v2), (3, .int v3)] := hl
  have hx := X.1
  have hb : c.code = cX8_idle := X.2.1
  have hown : s.vm.findClass RX8 = some m.cls := X.2.2.2.2.2.1
  have hts := X.2.2.2.2.2.2.1
  refine W.eq (g2 := F0 m 23 ls []) rfl ?_
  unfold T_X8_idle_23 at hf
  obtain ⟨q1, h1, hf⟩ := s_bind hf
  have le2 : s_le q1.2 (e_I r).2 := by
    refine s_lek hem_I ?_ k
    rcases s_ite hf with ⟨-, hf⟩ | ⟨-, hf⟩
    · cases hf
      exact s_le.rf
    · obtain ⟨q2, hh, hf⟩ := s_bind hf
      refine s_lz.tr (l_X8_beliefsOf hh) ?_
      rcases s_ite hf with ⟨-, hf⟩ | ⟨-, hf⟩
      · obtain ⟨q3, hh, hf⟩ := s_bind hf
        refine s_lz.tr (l_X8_beliefsOf hh) ?_
        obtain ⟨q4, hh, hf⟩ := s_bind hf
        refine s_lz.tr (l_X8_leastWorld hh) ?_
        rcases s_ite hf with ⟨-, hf⟩ | ⟨-, hf⟩
        · cases hf
          exact s_le.rf
        · cases hf
          exact s_le.rf
      · cases hf
        exact s_le.rf
  refine lv_iload_n hx hb dX8_idle_23 rfl (lv_at hl 3 rfl) ?_
  refine lv_aload_n hx hb dX8_idle_24 rfl (lv_at hl 0 rfl) ?_
  refine r_callV (Y := M_X8_formulas) (v := some (.int q1.1)) X I w_1813 my_X8_formulas (by omega) (t_X8_formulas (G := G) (d := d + 4) h1) (b_X8_formulas h1) rfl rfl hl.1 rfl (Nat.le_of_ble_eq_true rfl) hn le2 dX8_idle_25 (fun H locs cells slots I hn1 hn2 => ?_)
  have I : s_I G q1.2 s H locs := I
  have hn : cells + σ0.2.1 ≤ q1.2.2.1 ∧ slots + σ0.2.2.1 ≤ q1.2.2.2.1 := ⟨hn1, hn2⟩
  rcases s_ite hf with ⟨c3, hf⟩ | ⟨c3, hf⟩
  · refine lv_icmp_ge (tgt := 79) hx hb dX8_idle_28 (by decide) (fun _ => ?_) (fun n => absurd c3 n)
    cases hf
    have k : _ = r := k
    subst k
    refine lv_iload_n hx hb dX8_idle_79 rfl (lv_at hl 2 rfl) ?_
    exact r_iret X I rfl rfl rfl hn dX8_idle_80
  · refine lv_icmp_ge (tgt := 79) hx hb dX8_idle_28 (by decide) (fun n => absurd n c3) (fun _ => ?_)
    obtain ⟨q2, h4, hf⟩ := s_bind hf
    have le5 : s_le q2.2 (e_I r).2 := by
      refine s_lek hem_I ?_ k
      rcases s_ite hf with ⟨-, hf⟩ | ⟨-, hf⟩
      · obtain ⟨q3, hh, hf⟩ := s_bind hf
        refine s_lz.tr (l_X8_beliefsOf hh) ?_
        obtain ⟨q4, hh, hf⟩ := s_bind hf
        refine s_lz.tr (l_X8_leastWorld hh) ?_
        rcases s_ite hf with ⟨-, hf⟩ | ⟨-, hf⟩
        · cases hf
          exact s_le.rf
        · cases hf
          exact s_le.rf
      · cases hf
        exact s_le.rf
    refine lv_iload_n hx hb dX8_idle_31 rfl (lv_at hl 2 rfl) ?_
    refine lv_aload_n hx hb dX8_idle_32 rfl (lv_at hl 0 rfl) ?_
    refine lv_iload_n hx hb dX8_idle_33 rfl (lv_at hl 1 rfl) ?_
    refine r_callV (Y := M_X8_beliefsOf) (v := some (.int q2.1)) X I w_1987 my_X8_beliefsOf (by omega) (t_X8_beliefsOf (G := G) (d := d + 4) h4) (b_X8_beliefsOf h4) rfl rfl hl.1 rfl (Nat.le_of_ble_eq_true rfl) hn le5 dX8_idle_34 (fun H locs cells slots I hn1 hn2 => ?_)
    have I : s_I G q2.2 s H locs := I
    have hn : cells + σ0.2.1 ≤ q2.2.2.1 ∧ slots + σ0.2.2.1 ≤ q2.2.2.2.1 := ⟨hn1, hn2⟩
    refine lv_iload_n hx hb dX8_idle_37 rfl (lv_at hl 3 rfl) ?_
    refine lv_ishr hx hb dX8_idle_38 ?_
    refine lv_iconst (v := 1) hx hb dX8_idle_39 (by decide) ?_
    refine lv_iand hx hb dX8_idle_40 ?_
    refine lv_iconst (v := 1) hx hb dX8_idle_41 (by decide) ?_
    rcases s_ite hf with ⟨c6, hf⟩ | ⟨c6, hf⟩
    · refine lv_icmp_ne (tgt := 70) hx hb dX8_idle_42 (by decide) (fun n => absurd c6 n) (fun _ => ?_)
      obtain ⟨q3, h7, hf⟩ := s_bind hf
      obtain ⟨q4, h8, hf⟩ := s_bind hf
      have le9 : s_le q4.2 (e_I r).2 := by
        refine s_lek hem_I ?_ k
        rcases s_ite hf with ⟨-, hf⟩ | ⟨-, hf⟩
        · cases hf
          exact s_le.rf
        · cases hf
          exact s_le.rf
      have le10 := s_le.tr (l_X8_leastWorld h8) le9
      refine lv_aload_n hx hb dX8_idle_45 rfl (lv_at hl 0 rfl) ?_
      refine lv_aload_n hx hb dX8_idle_46 rfl (lv_at hl 0 rfl) ?_
      refine lv_iload_n hx hb dX8_idle_47 rfl (lv_at hl 1 rfl) ?_
      refine r_callV (Y := M_X8_beliefsOf) (v := some (.int q3.1)) X I w_1987 my_X8_beliefsOf (by omega) (t_X8_beliefsOf (G := G) (d := d + 4) h7) (b_X8_beliefsOf h7) rfl rfl hl.1 rfl (Nat.le_of_ble_eq_true rfl) hn le10 dX8_idle_48 (fun H locs cells slots I hn1 hn2 => ?_)
      have I : s_I G q3.2 s H locs := I
      have hn : cells + σ0.2.1 ≤ q3.2.2.1 ∧ slots + σ0.2.2.1 ≤ q3.2.2.2.1 := ⟨hn1, hn2⟩
      refine lv_iconst (v := 1) hx hb dX8_idle_51 (by decide) ?_
      refine lv_iload_n hx hb dX8_idle_52 rfl (lv_at hl 3 rfl) ?_
      refine lv_ishl hx hb dX8_idle_53 ?_
      refine lv_iconst (v := (-1)) hx hb dX8_idle_54 (by decide) ?_
      refine lv_ixor hx hb dX8_idle_55 ?_
      refine lv_iand hx hb dX8_idle_56 ?_
      refine lv_iload_n hx hb dX8_idle_57 rfl (lv_at hl 3 rfl) ?_
      refine r_callV (Y := M_X8_leastWorld) (v := some (.int q4.1)) X I w_2136 my_X8_leastWorld (by omega) (t_X8_leastWorld (G := G) (d := d + 0) h8) (b_X8_leastWorld h8) rfl rfl hl.1 rfl (Nat.le_of_ble_eq_true rfl) hn le9 dX8_idle_58 (fun H locs cells slots I hn1 hn2 => ?_)
      have I : s_I G q4.2 s H locs := I
      have hn : cells + σ0.2.1 ≤ q4.2.2.1 ∧ slots + σ0.2.2.1 ≤ q4.2.2.2.1 := ⟨hn1, hn2⟩
      rcases s_ite hf with ⟨c11, hf⟩ | ⟨c11, hf⟩
      · refine lv_if_ge (tgt := 70) hx hb dX8_idle_61 (by decide) (fun _ => ?_) (fun n => absurd c11 n)
        cases hf
        have k : s_V G (d + 6) M_X8_idle vs0 σ0 Y_X8_idle (70, [.ref v0, .int v1, .int v3, .int v2], q4.2) (e_I r) := k
        exact k.2 p e s m below meth c _ _ _ _ _ X I hn.1 hn.2 (lv_sub hl [0, 1, 3] rfl)
      · refine lv_if_ge (tgt := 70) hx hb dX8_idle_61 (by decide) (fun n => absurd n c11) (fun _ => ?_)
        cases hf
        have k : s_V G (d + 6) M_X8_idle vs0 σ0 Y_X8_idle (71, [.ref v0, .int v1, .int v3, .int (1 <<< (v3 &&& 31)), .int v2], q4.2) (e_I r) := k
        refine lv_iconst (v := 1) hx hb dX8_idle_64 (by decide) ?_
        refine lv_iload_n hx hb dX8_idle_65 rfl (lv_at hl 3 rfl) ?_
        refine lv_ishl hx hb dX8_idle_66 ?_
        refine lv_goto (tgt := 71) hx hb dX8_idle_67 (by decide) ?_
        exact k.2 p e s m below meth c _ _ _ _ _ X I hn.1 hn.2 (lv_sub hl [0, 1, 3] rfl)
    · refine lv_icmp_ne (tgt := 70) hx hb dX8_idle_42 (by decide) (fun _ => ?_) (fun n => absurd n c6)
      cases hf
      have k : s_V G (d + 6) M_X8_idle vs0 σ0 Y_X8_idle (70, [.ref v0, .int v1, .int v3, .int v2], q2.2) (e_I r) := k
      exact k.2 p e s m below meth c _ _ _ _ _ X I hn.1 hn.2 (lv_sub hl [0, 1, 3] rfl)
set_option maxRecDepth 100000 in
set_option maxHeartbeats 4000000 in
theorem v_X8_idle_70 {G : sG} {d : Nat} {vs0 : List Value} {σ0 : sS} {v0 : Nat} {v1 : Int32} {v3 : Int32} {w0 : Int32} {σ : sS} {z : sZ Int32} {r : Int32 × sS} (hf : T_X8_idle_70 v0 v1 v3 w0 σ = some z) (k : s_K G (d + 6) M_X8_idle vs0 σ0 Y_X8_idle e_I z r) : s_V G (d + 6) M_X8_idle vs0 σ0 Y_X8_idle (70, [.ref v0, .int v1, .int v3, .int w0], σ) (e_I r) := by
  have le0 : s_le σ (e_I r).2 := s_lek hem_I (l_X8_idle_70 hf) k
  refine ⟨le0, ?_⟩
  intro p e s m below meth c H locs cells slots ls X I hn1 hn2 hl
  have hn : cells + σ0.2.1 ≤ σ.2.1 ∧ slots + σ0.2.2.1 ≤ σ.2.2.1 := ⟨hn1, hn2⟩
  have hl : lv_has ls 4 [(0, .ref v0), (1, .int v1), (3, .int v3)] := hl
  have hx := X.1
  have hb : c.code = cX8_idle := X.2.1
  have hown : s.vm.findClass RX8 = some m.cls := X.2.2.2.2.2.1
  have hts := X.2.2.2.2.2.2.1
  refine W.eq (g2 := F0 m 70 ls [.int w0]) rfl ?_
  unfold T_X8_idle_70 at hf
  cases hf
  have k : s_V G (d + 6) M_X8_idle vs0 σ0 Y_X8_idle (71, [.ref v0, .int v1, .int v3, .int 0, .int w0], σ) (e_I r) := k
  refine lv_iconst (v := 0) hx hb dX8_idle_70 (by decide) ?_
  exact k.2 p e s m below meth c _ _ _ _ _ X I hn.1 hn.2 (lv_sub hl [0, 1, 2] rfl)
set_option maxRecDepth 100000 in
set_option maxHeartbeats 4000000 in
theorem v_X8_idle_71 {G : sG} {d : Nat} {vs0 : List Value} {σ0 : sS} {v0 : Nat} {v1 : Int32} {v3 : Int32} {w0 : Int32} {w1 : Int32} {σ : sS} {z : sZ Int32} {r : Int32 × sS} (hf : T_X8_idle_71 v0 v1 v3 w0 w1 σ = some z) (k : s_K G (d + 6) M_X8_idle vs0 σ0 Y_X8_idle e_I z r) : s_V G (d + 6) M_X8_idle vs0 σ0 Y_X8_idle (71, [.ref v0, .int v1, .int v3, .int w0, .int w1], σ) (e_I r) := by
  have le0 : s_le σ (e_I r).2 := s_lek hem_I (l_X8_idle_71 hf) k
  refine ⟨le0, ?_⟩
  intro p e s m below meth c H locs cells slots ls X I hn1 hn2 hl
  have hn : cells + σ0.2.1 ≤ σ.2.1 ∧ slots + σ0.2.2.1 ≤ σ.2.2.1 := ⟨hn1, hn2⟩
  have hl : lv_has ls 4 [(0, .ref v0), (1, .int v1), (3, .int v3)] := hl
  have hx := X.1
  have hb : c.code = cX8_idle := X.2.1
  have hown : s.vm.findClass RX8 = some m.cls := X.2.2.2.2.2.1
  have hts := X.2.2.2.2.2.2.1
  refine W.eq (g2 := F0 m 71 ls [.int w0, .int w1]) rfl ?_
  unfold T_X8_idle_71 at hf
  cases hf
  have k : s_V G (d + 6) M_X8_idle vs0 σ0 Y_X8_idle (23, [.ref v0, .int v1, .int (w1 ||| w0), .int (v3 + 1)], σ) (e_I r) := k
  refine lv_ior hx hb dX8_idle_71 ?_
  refine lv_istore_n (lv' := [(2, .int (w1 ||| w0)), (0, .ref v0), (1, .int v1), (3, .int v3)]) hx hb dX8_idle_72 rfl hl (by decide) rfl (fun ls hl => ?_)
  refine lv_iinc (v := (v3 + 1)) (lv' := [(3, .int (v3 + 1)), (2, .int (w1 ||| w0)), (0, .ref v0), (1, .int v1)]) hx hb dX8_idle_73 hl (k := 3) rfl rfl (by decide) rfl (fun ls hl => ?_)
  refine lv_goto (tgt := 23) hx hb dX8_idle_76 (by decide) ?_
  exact k.2 p e s m below meth c _ _ _ _ _ X I hn.1 hn.2 (lv_sub hl [2, 3, 1, 0] rfl)
theorem v_X8_idle {G : sG} {d : Nat} {vs0 : List Value} {σ0 : sS} {x : sL} {z : sZ Int32} {r : Int32 × sS} (hs : S_X8_idle x = some z) (k : s_K G (d + 6) M_X8_idle vs0 σ0 Y_X8_idle e_I z r) : s_V G (d + 6) M_X8_idle vs0 σ0 Y_X8_idle x (e_I r) := by
  obtain ⟨pc, vs, σ⟩ := x
  unfold S_X8_idle at hs
  dsimp only at hs
  rcases s_ite hs with ⟨c, hs⟩ | ⟨-, hs⟩
  · subst c
    unfold U_X8_idle_0 at hs
    obtain ⟨a0, g0, hs⟩ := s_bind hs
    obtain ⟨a1, g1, hs⟩ := s_bind hs
    obtain ⟨u9, ge, hs⟩ := s_bind hs
    rw [g_r_to g0, g_i_to g1, g_e_to ge]
    exact v_X8_idle_0 hs k
  rcases s_ite hs with ⟨c, hs⟩ | ⟨-, hs⟩
  · subst c
    unfold U_X8_idle_23 at hs
    obtain ⟨a0, g0, hs⟩ := s_bind hs
    obtain ⟨a1, g1, hs⟩ := s_bind hs
    obtain ⟨a2, g2, hs⟩ := s_bind hs
    obtain ⟨a3, g3, hs⟩ := s_bind hs
    obtain ⟨u9, ge, hs⟩ := s_bind hs
    rw [g_r_to g0, g_i_to g1, g_i_to g2, g_i_to g3, g_e_to ge]
    exact v_X8_idle_23 hs k
  rcases s_ite hs with ⟨c, hs⟩ | ⟨-, hs⟩
  · subst c
    unfold U_X8_idle_70 at hs
    obtain ⟨a0, g0, hs⟩ := s_bind hs
    obtain ⟨a1, g1, hs⟩ := s_bind hs
    obtain ⟨a2, g2, hs⟩ := s_bind hs
    obtain ⟨a3, g3, hs⟩ := s_bind hs
    obtain ⟨u9, ge, hs⟩ := s_bind hs
    rw [g_r_to g0, g_i_to g1, g_i_to g2, g_i_to g3, g_e_to ge]
    exact v_X8_idle_70 hs k
  rcases s_ite hs with ⟨c, hs⟩ | ⟨-, hs⟩
  · subst c
    unfold U_X8_idle_71 at hs
    obtain ⟨a0, g0, hs⟩ := s_bind hs
    obtain ⟨a1, g1, hs⟩ := s_bind hs
    obtain ⟨a2, g2, hs⟩ := s_bind hs
    obtain ⟨a3, g3, hs⟩ := s_bind hs
    obtain ⟨a4, g4, hs⟩ := s_bind hs
    obtain ⟨u9, ge, hs⟩ := s_bind hs
    rw [g_r_to g0, g_i_to g1, g_i_to g2, g_i_to g3, g_i_to g4, g_e_to ge]
    exact v_X8_idle_71 hs k
  cases hs
theorem t_X8_idle {G : sG} {d : Nat} {v0 : Nat} {v1 : Int32} {σ : sS} {q : Int32 × sS} (h : F_X8_idle v0 v1 σ = some q) : s_T G (d + 6) M_X8_idle [.ref v0, .int v1] σ (e_I q) := by
  unfold F_X8_idle at h
  obtain ⟨-, -, h⟩ := s_bind h
  exact s_ofV rfl (by decide) (Nat.le_of_ble_eq_true rfl) rfl rfl (s_run_ind (V := fun x r => s_V G (d + 6) M_X8_idle [.ref v0, .int v1] σ Y_X8_idle x (e_I r)) (fun x z r hs hk => v_X8_idle hs (by cases z <;> exact hk)) h)
/-! X8_alike -/
noncomputable def T_X8_alike_0 (v0 : Nat) (v1 : Int32) (σ : sS) : Option (sZ Int32) :=
  (s_pf σ v0 8 0 (.int 0)).bind fun σ1 =>
  (F_X8_noFormula v0 v1 σ1).bind fun q2 =>
  (F_X8_throwsIf v0 q2.1 1 q2.2).bind fun q3 =>
  if q3.1 = 0 then (some (.inl (24, [.ref v0, .int v1, .int 0, .int 0], q3.2)))
  else (some (.inr (0, q3.2)))
noncomputable def U_X8_alike_0 (vs : List Value) (σ : sS) : Option (sZ Int32) := (g_r vs).bind fun a0 => (g_i a0.2).bind fun a1 => (g_e a1.2).bind fun _ => T_X8_alike_0 a0.1 a1.1 σ
noncomputable def T_X8_alike_24 (v0 : Nat) (v1 : Int32) (v2 : Int32) (v3 : Int32) (σ : sS) : Option (sZ Int32) :=
  (F_X8_formulas v0 σ).bind fun q1 =>
  if q1.1 ≤ v3 then (some (.inr (v2, q1.2)))
  else (some (.inl (38, [.ref v0, .int v1, .int v2, .int v3, .int 1, .int 0], q1.2)))
noncomputable def U_X8_alike_24 (vs : List Value) (σ : sS) : Option (sZ Int32) := (g_r vs).bind fun a0 => (g_i a0.2).bind fun a1 => (g_i a1.2).bind fun a2 => (g_i a2.2).bind fun a3 => (g_e a3.2).bind fun _ => T_X8_alike_24 a0.1 a1.1 a2.1 a3.1 σ
noncomputable def T_X8_alike_38 (v0 : Nat) (v1 : Int32) (v2 : Int32) (v3 : Int32) (v4 : Int32) (v5 : Int32) (σ : sS) : Option (sZ Int32) :=
  (F_X8_worldsMany v0 σ).bind fun q1 =>
  if q1.1 ≤ v5 then (some (.inl (82, [.ref v0, .int v1, .int v2, .int v3, .int v4], q1.2)))
  else (if v4 = 0 then (some (.inl (82, [.ref v0, .int v1, .int v2, .int v3, .int v4], q1.2)))
  else ((F_X8_isTrue v0 v3 v5 q1.2).bind fun q2 =>
  (F_X8_isTrue v0 v1 v5 q2.2).bind fun q3 =>
  if q2.1 = q3.1 then (some (.inl (74, [.ref v0, .int v1, .int v2, .int v3, .int v5, .int 1], q3.2)))
  else (some (.inl (74, [.ref v0, .int v1, .int v2, .int v3, .int v5, .int 0], q3.2)))))
noncomputable def U_X8_alike_38 (vs : List Value) (σ : sS) : Option (sZ Int32) := (g_r vs).bind fun a0 => (g_i a0.2).bind fun a1 => (g_i a1.2).bind fun a2 => (g_i a2.2).bind fun a3 => (g_i a3.2).bind fun a4 => (g_i a4.2).bind fun a5 => (g_e a5.2).bind fun _ => T_X8_alike_38 a0.1 a1.1 a2.1 a3.1 a4.1 a5.1 σ
noncomputable def T_X8_alike_74 (v0 : Nat) (v1 : Int32) (v2 : Int32) (v3 : Int32) (v5 : Int32) (w0 : Int32) (σ : sS) : Option (sZ Int32) :=
  some (.inl (38, [.ref v0, .int v1, .int v2, .int v3, .int w0, .int (v5 + 1)], σ))
noncomputable def U_X8_alike_74 (vs : List Value) (σ : sS) : Option (sZ Int32) := (g_r vs).bind fun a0 => (g_i a0.2).bind fun a1 => (g_i a1.2).bind fun a2 => (g_i a2.2).bind fun a3 => (g_i a3.2).bind fun a4 => (g_i a4.2).bind fun a5 => (g_e a5.2).bind fun _ => T_X8_alike_74 a0.1 a1.1 a2.1 a3.1 a4.1 a5.1 σ
noncomputable def T_X8_alike_82 (v0 : Nat) (v1 : Int32) (v2 : Int32) (v3 : Int32) (v4 : Int32) (σ : sS) : Option (sZ Int32) :=
  if v4 = 0 then (some (.inl (95, [.ref v0, .int v1, .int v3, .int 0, .int v2], σ)))
  else (some (.inl (95, [.ref v0, .int v1, .int v3, .int (1 <<< (v3 &&& 31)), .int v2], σ)))
noncomputable def U_X8_alike_82 (vs : List Value) (σ : sS) : Option (sZ Int32) := (g_r vs).bind fun a0 => (g_i a0.2).bind fun a1 => (g_i a1.2).bind fun a2 => (g_i a2.2).bind fun a3 => (g_i a3.2).bind fun a4 => (g_e a4.2).bind fun _ => T_X8_alike_82 a0.1 a1.1 a2.1 a3.1 a4.1 σ
noncomputable def T_X8_alike_95 (v0 : Nat) (v1 : Int32) (v3 : Int32) (w0 : Int32) (w1 : Int32) (σ : sS) : Option (sZ Int32) :=
  some (.inl (24, [.ref v0, .int v1, .int (w1 ||| w0), .int (v3 + 1)], σ))
noncomputable def U_X8_alike_95 (vs : List Value) (σ : sS) : Option (sZ Int32) := (g_r vs).bind fun a0 => (g_i a0.2).bind fun a1 => (g_i a1.2).bind fun a2 => (g_i a2.2).bind fun a3 => (g_i a3.2).bind fun a4 => (g_e a4.2).bind fun _ => T_X8_alike_95 a0.1 a1.1 a2.1 a3.1 a4.1 σ
noncomputable def S_X8_alike (x : sL) : Option (sZ Int32) := if x.1 = 0 then U_X8_alike_0 x.2.1 x.2.2 else if x.1 = 24 then U_X8_alike_24 x.2.1 x.2.2 else if x.1 = 38 then U_X8_alike_38 x.2.1 x.2.2 else if x.1 = 74 then U_X8_alike_74 x.2.1 x.2.2 else if x.1 = 82 then U_X8_alike_82 x.2.1 x.2.2 else if x.1 = 95 then U_X8_alike_95 x.2.1 x.2.2 else none
def Y_X8_alike (pc : Nat) : List Nat := if pc = 0 then [0, 1] else if pc = 24 then [0, 1, 2, 3] else if pc = 38 then [0, 1, 2, 3, 4, 5] else if pc = 74 then [0, 1, 2, 3, 5] else if pc = 82 then [0, 1, 2, 3, 4] else if pc = 95 then [0, 1, 3] else []
noncomputable def F_X8_alike (v0 : Nat) (v1 : Int32) (σ : sS) : Option (Int32 × sS) := (s_is σ v0 8).bind fun _ => s_run S_X8_alike (0, [.ref v0, .int v1], σ)
theorem l_X8_alike_0 {v0 : Nat} {v1 : Int32} {σ : sS} {z : sZ Int32} (hf : T_X8_alike_0 v0 v1 σ = some z) : s_lz σ z := by
  unfold T_X8_alike_0 at hf
  obtain ⟨σ1, hh, hf⟩ := s_bind hf
  refine s_lz.tr (s_le2 (s_pf_2 hh)) ?_
  obtain ⟨q2, hh, hf⟩ := s_bind hf
  refine s_lz.tr (l_X8_noFormula hh) ?_
  obtain ⟨q3, hh, hf⟩ := s_bind hf
  refine s_lz.tr (l_X8_throwsIf hh) ?_
  rcases s_ite hf with ⟨-, hf⟩ | ⟨-, hf⟩
  · cases hf
    exact s_le.rf
  · cases hf
    exact s_le.rf
theorem l_X8_alike_24 {v0 : Nat} {v1 : Int32} {v2 : Int32} {v3 : Int32} {σ : sS} {z : sZ Int32} (hf : T_X8_alike_24 v0 v1 v2 v3 σ = some z) : s_lz σ z := by
  unfold T_X8_alike_24 at hf
  obtain ⟨q1, hh, hf⟩ := s_bind hf
  refine s_lz.tr (l_X8_formulas hh) ?_
  rcases s_ite hf with ⟨-, hf⟩ | ⟨-, hf⟩
  · cases hf
    exact s_le.rf
  · cases hf
    exact s_le.rf
theorem l_X8_alike_38 {v0 : Nat} {v1 : Int32} {v2 : Int32} {v3 : Int32} {v4 : Int32} {v5 : Int32} {σ : sS} {z : sZ Int32} (hf : T_X8_alike_38 v0 v1 v2 v3 v4 v5 σ = some z) : s_lz σ z := by
  unfold T_X8_alike_38 at hf
  obtain ⟨q1, hh, hf⟩ := s_bind hf
  refine s_lz.tr (l_X8_worldsMany hh) ?_
  rcases s_ite hf with ⟨-, hf⟩ | ⟨-, hf⟩
  · cases hf
    exact s_le.rf
  · rcases s_ite hf with ⟨-, hf⟩ | ⟨-, hf⟩
    · cases hf
      exact s_le.rf
    · obtain ⟨q2, hh, hf⟩ := s_bind hf
      refine s_lz.tr (l_X8_isTrue hh) ?_
      obtain ⟨q3, hh, hf⟩ := s_bind hf
      refine s_lz.tr (l_X8_isTrue hh) ?_
      rcases s_ite hf with ⟨-, hf⟩ | ⟨-, hf⟩
      · cases hf
        exact s_le.rf
      · cases hf
        exact s_le.rf
theorem l_X8_alike_74 {v0 : Nat} {v1 : Int32} {v2 : Int32} {v3 : Int32} {v5 : Int32} {w0 : Int32} {σ : sS} {z : sZ Int32} (hf : T_X8_alike_74 v0 v1 v2 v3 v5 w0 σ = some z) : s_lz σ z := by
  unfold T_X8_alike_74 at hf
  cases hf
  exact s_le.rf
theorem l_X8_alike_82 {v0 : Nat} {v1 : Int32} {v2 : Int32} {v3 : Int32} {v4 : Int32} {σ : sS} {z : sZ Int32} (hf : T_X8_alike_82 v0 v1 v2 v3 v4 σ = some z) : s_lz σ z := by
  unfold T_X8_alike_82 at hf
  rcases s_ite hf with ⟨-, hf⟩ | ⟨-, hf⟩
  · cases hf
    exact s_le.rf
  · cases hf
    exact s_le.rf
theorem l_X8_alike_95 {v0 : Nat} {v1 : Int32} {v3 : Int32} {w0 : Int32} {w1 : Int32} {σ : sS} {z : sZ Int32} (hf : T_X8_alike_95 v0 v1 v3 w0 w1 σ = some z) : s_lz σ z := by
  unfold T_X8_alike_95 at hf
  cases hf
  exact s_le.rf
theorem l_X8_alike_s {x : sL} {z : sZ Int32} (hs : S_X8_alike x = some z) : s_lz x.2.2 z := by
  obtain ⟨pc, vs, σ⟩ := x
  unfold S_X8_alike at hs
  dsimp only at hs ⊢
  rcases s_ite hs with ⟨c, hs⟩ | ⟨-, hs⟩
  · subst c
    unfold U_X8_alike_0 at hs
    obtain ⟨a0, g0, hs⟩ := s_bind hs
    obtain ⟨a1, g1, hs⟩ := s_bind hs
    obtain ⟨u9, ge, hs⟩ := s_bind hs
    exact l_X8_alike_0 hs
  rcases s_ite hs with ⟨c, hs⟩ | ⟨-, hs⟩
  · subst c
    unfold U_X8_alike_24 at hs
    obtain ⟨a0, g0, hs⟩ := s_bind hs
    obtain ⟨a1, g1, hs⟩ := s_bind hs
    obtain ⟨a2, g2, hs⟩ := s_bind hs
    obtain ⟨a3, g3, hs⟩ := s_bind hs
    obtain ⟨u9, ge, hs⟩ := s_bind hs
    exact l_X8_alike_24 hs
  rcases s_ite hs with ⟨c, hs⟩ | ⟨-, hs⟩
  · subst c
    unfold U_X8_alike_38 at hs
    obtain ⟨a0, g0, hs⟩ := s_bind hs
    obtain ⟨a1, g1, hs⟩ := s_bind hs
    obtain ⟨a2, g2, hs⟩ := s_bind hs
    obtain ⟨a3, g3, hs⟩ := s_bind hs
    obtain ⟨a4, g4, hs⟩ := s_bind hs
    obtain ⟨a5, g5, hs⟩ := s_bind hs
    obtain ⟨u9, ge, hs⟩ := s_bind hs
    exact l_X8_alike_38 hs
  rcases s_ite hs with ⟨c, hs⟩ | ⟨-, hs⟩
  · subst c
    unfold U_X8_alike_74 at hs
    obtain ⟨a0, g0, hs⟩ := s_bind hs
    obtain ⟨a1, g1, hs⟩ := s_bind hs
    obtain ⟨a2, g2, hs⟩ := s_bind hs
    obtain ⟨a3, g3, hs⟩ := s_bind hs
    obtain ⟨a4, g4, hs⟩ := s_bind hs
    obtain ⟨a5, g5, hs⟩ := s_bind hs
    obtain ⟨u9, ge, hs⟩ := s_bind hs
    exact l_X8_alike_74 hs
  rcases s_ite hs with ⟨c, hs⟩ | ⟨-, hs⟩
  · subst c
    unfold U_X8_alike_82 at hs
    obtain ⟨a0, g0, hs⟩ := s_bind hs
    obtain ⟨a1, g1, hs⟩ := s_bind hs
    obtain ⟨a2, g2, hs⟩ := s_bind hs
    obtain ⟨a3, g3, hs⟩ := s_bind hs
    obtain ⟨a4, g4, hs⟩ := s_bind hs
    obtain ⟨u9, ge, hs⟩ := s_bind hs
    exact l_X8_alike_82 hs
  rcases s_ite hs with ⟨c, hs⟩ | ⟨-, hs⟩
  · subst c
    unfold U_X8_alike_95 at hs
    obtain ⟨a0, g0, hs⟩ := s_bind hs
    obtain ⟨a1, g1, hs⟩ := s_bind hs
    obtain ⟨a2, g2, hs⟩ := s_bind hs
    obtain ⟨a3, g3, hs⟩ := s_bind hs
    obtain ⟨a4, g4, hs⟩ := s_bind hs
    obtain ⟨u9, ge, hs⟩ := s_bind hs
    exact l_X8_alike_95 hs
  cases hs
theorem l_X8_alike {v0 : Nat} {v1 : Int32} {σ : sS} {q : Int32 × sS} (h : F_X8_alike v0 v1 σ = some q) : s_le σ q.2 := by
  unfold F_X8_alike at h
  obtain ⟨-, -, h⟩ := s_bind h
  exact s_run_ind (V := fun x r => s_le x.2.2 r.2) (fun x z r hs hk => by
    have h9 := l_X8_alike_s hs
    cases z with
    | inl y => exact s_le.tr h9 hk
    | inr q => cases hk; exact h9) h
theorem b_X8_alike {v0 : Nat} {v1 : Int32} {σ : sS} {q : Int32 × sS} (h : F_X8_alike v0 v1 σ = some q) : ∃ fs, σ.1 v0 = some (.inr (8, fs)) := by
  unfold F_X8_alike at h
  obtain ⟨u, hu, -⟩ := s_bind h
  exact s_is_to hu
set_option maxRecDepth 100000 in
set_option maxHeartbeats 4000000 in
theorem v_X8_alike_0 {G : sG} {d : Nat} {vs0 : List Value} {σ0 : sS} {v0 : Nat} {v1 : Int32} {σ : sS} {z : sZ Int32} {r : Int32 × sS} (hf : T_X8_alike_0 v0 v1 σ = some z) (k : s_K G (d + 4) M_X8_alike vs0 σ0 Y_X8_alike e_I z r) : s_V G (d + 4) M_X8_alike vs0 σ0 Y_X8_alike (0, [.ref v0, .int v1], σ) (e_I r) := by
  have le0 : s_le σ (e_I r).2 := s_lek hem_I (l_X8_alike_0 hf) k
  refine ⟨le0, ?_⟩
  intro p e s m below meth c H locs cells slots ls X I hn1 hn2 hl
  have hn : cells + σ0.2.1 ≤ σ.2.1 ∧ slots + σ0.2.2.1 ≤ σ.2.2.1 := ⟨hn1, hn2⟩
  have hl : lv_has ls 6 [(0, .ref v0), (1, .int v1)] := hl
  have hx := X.1
  have hb : c.code = cX8_alike := X.2.1
  have hown : s.vm.findClass RX8 = some m.cls := X.2.2.2.2.2.1
  have hts := X.2.2.2.2.2.2.1
  refine W.eq (g2 := F0 m 0 ls []) rfl ?_
  unfold T_X8_alike_0 at hf
  obtain ⟨σ1, h1, hf⟩ := s_bind hf
  obtain ⟨q2, h2, hf⟩ := s_bind hf
  obtain ⟨q3, h3, hf⟩ := s_bind hf
  have le4 : s_le q3.2 (e_I r).2 := by
    refine s_lek hem_I ?_ k
    rcases s_ite hf with ⟨-, hf⟩ | ⟨-, hf⟩
    · cases hf
      exact s_le.rf
    · cases hf
      exact s_le.rf
  have le5 := s_le.tr (l_X8_throwsIf h3) le4
  have le6 := s_le.tr (l_X8_noFormula h2) le5
  refine lv_aload_n hx hb dX8_alike_0 rfl (lv_at hl 0 rfl) ?_
  refine lv_iconst (v := 0) hx hb dX8_alike_1 (by decide) ?_
  refine r_put X I fp_X8_3 (fun h => by cases h) h1 rfl rfl dX8_alike_2 (fun H locs I => ?_)
  have hn := s_k2 (s_pf_2 h1) hn
  refine lv_aload_n hx hb dX8_alike_5 rfl (lv_at hl 0 rfl) ?_
  refine lv_aload_n hx hb dX8_alike_6 rfl (lv_at hl 0 rfl) ?_
  refine lv_iload_n hx hb dX8_alike_7 rfl (lv_at hl 1 rfl) ?_
  refine r_callV (Y := M_X8_noFormula) (v := some (.int q2.1)) X I w_1916 my_X8_noFormula (by omega) (t_X8_noFormula (G := G) (d := d + 1) h2) (b_X8_noFormula h2) rfl rfl hl.1 rfl (Nat.le_of_ble_eq_true rfl) hn le5 dX8_alike_8 (fun H locs cells slots I hn1 hn2 => ?_)
  have I : s_I G q2.2 s H locs := I
  have hn : cells + σ0.2.1 ≤ q2.2.2.1 ∧ slots + σ0.2.2.1 ≤ q2.2.2.2.1 := ⟨hn1, hn2⟩
  refine lv_iconst (v := 1) hx hb dX8_alike_11 (by decide) ?_
  refine r_callV (Y := M_X8_throwsIf) (v := some (.int q3.1)) X I w_1897 my_X8_throwsIf (by omega) (t_X8_throwsIf (G := G) (d := d + 2) h3) (b_X8_throwsIf h3) rfl rfl hl.1 rfl (Nat.le_of_ble_eq_true rfl) hn le4 dX8_alike_12 (fun H locs cells slots I hn1 hn2 => ?_)
  have I : s_I G q3.2 s H locs := I
  have hn : cells + σ0.2.1 ≤ q3.2.2.1 ∧ slots + σ0.2.2.1 ≤ q3.2.2.2.1 := ⟨hn1, hn2⟩
  rcases s_ite hf with ⟨c7, hf⟩ | ⟨c7, hf⟩
  · refine lv_if_eq (tgt := 20) hx hb dX8_alike_15 (by decide) (fun _ => ?_) (fun n => absurd c7 n)
    cases hf
    have k : s_V G (d + 4) M_X8_alike vs0 σ0 Y_X8_alike (24, [.ref v0, .int v1, .int 0, .int 0], q3.2) (e_I r) := k
    refine lv_iconst (v := 0) hx hb dX8_alike_20 (by decide) ?_
    refine lv_istore_n (lv' := [(2, .int 0), (0, .ref v0), (1, .int v1)]) hx hb dX8_alike_21 rfl hl (by decide) rfl (fun ls hl => ?_)
    refine lv_iconst (v := 0) hx hb dX8_alike_22 (by decide) ?_
    refine lv_istore_n (lv' := [(3, .int 0), (2, .int 0), (0, .ref v0), (1, .int v1)]) hx hb dX8_alike_23 rfl hl (by decide) rfl (fun ls hl => ?_)
    exact k.2 p e s m below meth c _ _ _ _ _ X I hn.1 hn.2 (lv_sub hl [2, 3, 1, 0] rfl)
  · refine lv_if_eq (tgt := 20) hx hb dX8_alike_15 (by decide) (fun n => absurd n c7) (fun _ => ?_)
    cases hf
    have k : _ = r := k
    subst k
    refine lv_iconst (v := 0) hx hb dX8_alike_18 (by decide) ?_
    exact r_iret X I rfl rfl rfl hn dX8_alike_19
set_option maxRecDepth 100000 in
set_option maxHeartbeats 4000000 in
theorem v_X8_alike_24 {G : sG} {d : Nat} {vs0 : List Value} {σ0 : sS} {v0 : Nat} {v1 : Int32} {v2 : Int32} {v3 : Int32} {σ : sS} {z : sZ Int32} {r : Int32 × sS} (hf : T_X8_alike_24 v0 v1 v2 v3 σ = some z) (k : s_K G (d + 4) M_X8_alike vs0 σ0 Y_X8_alike e_I z r) : s_V G (d + 4) M_X8_alike vs0 σ0 Y_X8_alike (24, [.ref v0, .int v1, .int v2, .int v3], σ) (e_I r) := by
  have le0 : s_le σ (e_I r).2 := s_lek hem_I (l_X8_alike_24 hf) k
  refine ⟨le0, ?_⟩
  intro p e s m below meth c H locs cells slots ls X I hn1 hn2 hl
  have hn : cells + σ0.2.1 ≤ σ.2.1 ∧ slots + σ0.2.2.1 ≤ σ.2.2.1 := ⟨hn1, hn2⟩
  have hl : lv_has ls 6 [(0, .ref v0), (1, .int v1), (2, .int v2), (3, .int v3)] := hl
  have hx := X.1
  have hb : c.code = cX8_alike := X.2.1
  have hown : s.vm.findClass RX8 = some m.cls := X.2.2.2.2.2.1
  have hts := X.2.2.2.2.2.2.1
  refine W.eq (g2 := F0 m 24 ls []) rfl ?_
  unfold T_X8_alike_24 at hf
  obtain ⟨q1, h1, hf⟩ := s_bind hf
  have le2 : s_le q1.2 (e_I r).2 := by
    refine s_lek hem_I ?_ k
    rcases s_ite hf with ⟨-, hf⟩ | ⟨-, hf⟩
    · cases hf
      exact s_le.rf
    · cases hf
      exact s_le.rf
  refine lv_iload_n hx hb dX8_alike_24 rfl (lv_at hl 3 rfl) ?_
  refine lv_aload_n hx hb dX8_alike_25 rfl (lv_at hl 0 rfl) ?_
  refine r_callV (Y := M_X8_formulas) (v := some (.int q1.1)) X I w_1813 my_X8_formulas (by omega) (t_X8_formulas (G := G) (d := d + 2) h1) (b_X8_formulas h1) rfl rfl hl.1 rfl (Nat.le_of_ble_eq_true rfl) hn le2 dX8_alike_26 (fun H locs cells slots I hn1 hn2 => ?_)
  have I : s_I G q1.2 s H locs := I
  have hn : cells + σ0.2.1 ≤ q1.2.2.1 ∧ slots + σ0.2.2.1 ≤ q1.2.2.2.1 := ⟨hn1, hn2⟩
  rcases s_ite hf with ⟨c3, hf⟩ | ⟨c3, hf⟩
  · refine lv_icmp_ge (tgt := 103) hx hb dX8_alike_29 (by decide) (fun _ => ?_) (fun n => absurd c3 n)
    cases hf
    have k : _ = r := k
    subst k
    refine lv_iload_n hx hb dX8_alike_103 rfl (lv_at hl 2 rfl) ?_
    exact r_iret X I rfl rfl rfl hn dX8_alike_104
  · refine lv_icmp_ge (tgt := 103) hx hb dX8_alike_29 (by decide) (fun n => absurd n c3) (fun _ => ?_)
    cases hf
    have k : s_V G (d + 4) M_X8_alike vs0 σ0 Y_X8_alike (38, [.ref v0, .int v1, .int v2, .int v3, .int 1, .int 0], q1.2) (e_I r) := k
    refine lv_iconst (v := 1) hx hb dX8_alike_32 (by decide) ?_
    refine lv_istore (lv' := [(4, .int 1), (0, .ref v0), (1, .int v1), (2, .int v2), (3, .int v3)]) hx hb dX8_alike_33 hl (by decide) rfl (fun ls hl => ?_)
    refine lv_iconst (v := 0) hx hb dX8_alike_35 (by decide) ?_
    refine lv_istore (lv' := [(5, .int 0), (4, .int 1), (0, .ref v0), (1, .int v1), (2, .int v2), (3, .int v3)]) hx hb dX8_alike_36 hl (by decide) rfl (fun ls hl => ?_)
    exact k.2 p e s m below meth c _ _ _ _ _ X I hn.1 hn.2 (lv_sub hl [2, 3, 4, 5, 1, 0] rfl)
set_option maxRecDepth 100000 in
set_option maxHeartbeats 4000000 in
theorem v_X8_alike_38 {G : sG} {d : Nat} {vs0 : List Value} {σ0 : sS} {v0 : Nat} {v1 : Int32} {v2 : Int32} {v3 : Int32} {v4 : Int32} {v5 : Int32} {σ : sS} {z : sZ Int32} {r : Int32 × sS} (hf : T_X8_alike_38 v0 v1 v2 v3 v4 v5 σ = some z) (k : s_K G (d + 4) M_X8_alike vs0 σ0 Y_X8_alike e_I z r) : s_V G (d + 4) M_X8_alike vs0 σ0 Y_X8_alike (38, [.ref v0, .int v1, .int v2, .int v3, .int v4, .int v5], σ) (e_I r) := by
  have le0 : s_le σ (e_I r).2 := s_lek hem_I (l_X8_alike_38 hf) k
  refine ⟨le0, ?_⟩
  intro p e s m below meth c H locs cells slots ls X I hn1 hn2 hl
  have hn : cells + σ0.2.1 ≤ σ.2.1 ∧ slots + σ0.2.2.1 ≤ σ.2.2.1 := ⟨hn1, hn2⟩
  have hl : lv_has ls 6 [(0, .ref v0), (1, .int v1), (2, .int v2), (3, .int v3), (4, .int v4), (5, .int v5)] := hl
  have hx := X.1
  have hb : c.code = cX8_alike := X.2.1
  have hown : s.vm.findClass RX8 = some m.cls := X.2.2.2.2.2.1
  have hts := X.2.2.2.2.2.2.1
  refine W.eq (g2 := F0 m 38 ls []) rfl ?_
  unfold T_X8_alike_38 at hf
  obtain ⟨q1, h1, hf⟩ := s_bind hf
  have le2 : s_le q1.2 (e_I r).2 := by
    refine s_lek hem_I ?_ k
    rcases s_ite hf with ⟨-, hf⟩ | ⟨-, hf⟩
    · cases hf
      exact s_le.rf
    · rcases s_ite hf with ⟨-, hf⟩ | ⟨-, hf⟩
      · cases hf
        exact s_le.rf
      · obtain ⟨q2, hh, hf⟩ := s_bind hf
        refine s_lz.tr (l_X8_isTrue hh) ?_
        obtain ⟨q3, hh, hf⟩ := s_bind hf
        refine s_lz.tr (l_X8_isTrue hh) ?_
        rcases s_ite hf with ⟨-, hf⟩ | ⟨-, hf⟩
        · cases hf
          exact s_le.rf
        · cases hf
          exact s_le.rf
  refine lv_iload hx hb dX8_alike_38 (lv_at hl 5 rfl) ?_
  refine lv_aload_n hx hb dX8_alike_40 rfl (lv_at hl 0 rfl) ?_
  refine r_callV (Y := M_X8_worldsMany) (v := some (.int q1.1)) X I w_1943 my_X8_worldsMany (by omega) (t_X8_worldsMany (G := G) (d := d + 1) h1) (b_X8_worldsMany h1) rfl rfl hl.1 rfl (Nat.le_of_ble_eq_true rfl) hn le2 dX8_alike_41 (fun H locs cells slots I hn1 hn2 => ?_)
  have I : s_I G q1.2 s H locs := I
  have hn : cells + σ0.2.1 ≤ q1.2.2.1 ∧ slots + σ0.2.2.1 ≤ q1.2.2.2.1 := ⟨hn1, hn2⟩
  rcases s_ite hf with ⟨c3, hf⟩ | ⟨c3, hf⟩
  · refine lv_icmp_ge (tgt := 82) hx hb dX8_alike_44 (by decide) (fun _ => ?_) (fun n => absurd c3 n)
    cases hf
    have k : s_V G (d + 4) M_X8_alike vs0 σ0 Y_X8_alike (82, [.ref v0, .int v1, .int v2, .int v3, .int v4], q1.2) (e_I r) := k
    exact k.2 p e s m below meth c _ _ _ _ _ X I hn.1 hn.2 (lv_sub hl [0, 1, 2, 3, 4] rfl)
  · refine lv_icmp_ge (tgt := 82) hx hb dX8_alike_44 (by decide) (fun n => absurd n c3) (fun _ => ?_)
    refine lv_iload hx hb dX8_alike_47 (lv_at hl 4 rfl) ?_
    rcases s_ite hf with ⟨c4, hf⟩ | ⟨c4, hf⟩
    · refine lv_if_eq (tgt := 82) hx hb dX8_alike_49 (by decide) (fun _ => ?_) (fun n => absurd c4 n)
      cases hf
      have k : s_V G (d + 4) M_X8_alike vs0 σ0 Y_X8_alike (82, [.ref v0, .int v1, .int v2, .int v3, .int v4], q1.2) (e_I r) := k
      exact k.2 p e s m below meth c _ _ _ _ _ X I hn.1 hn.2 (lv_sub hl [0, 1, 2, 3, 4] rfl)
    · refine lv_if_eq (tgt := 82) hx hb dX8_alike_49 (by decide) (fun n => absurd n c4) (fun _ => ?_)
      obtain ⟨q2, h5, hf⟩ := s_bind hf
      obtain ⟨q3, h6, hf⟩ := s_bind hf
      have le7 : s_le q3.2 (e_I r).2 := by
        refine s_lek hem_I ?_ k
        rcases s_ite hf with ⟨-, hf⟩ | ⟨-, hf⟩
        · cases hf
          exact s_le.rf
        · cases hf
          exact s_le.rf
      have le8 := s_le.tr (l_X8_isTrue h6) le7
      refine lv_aload_n hx hb dX8_alike_52 rfl (lv_at hl 0 rfl) ?_
      refine lv_iload_n hx hb dX8_alike_53 rfl (lv_at hl 3 rfl) ?_
      refine lv_iload hx hb dX8_alike_54 (lv_at hl 5 rfl) ?_
      refine r_callV (Y := M_X8_isTrue) (v := some (.int q2.1)) X I w_1947 my_X8_isTrue (by omega) (t_X8_isTrue (G := G) (d := d + 0) h5) (b_X8_isTrue h5) rfl rfl hl.1 rfl (Nat.le_of_ble_eq_true rfl) hn le8 dX8_alike_56 (fun H locs cells slots I hn1 hn2 => ?_)
      have I : s_I G q2.2 s H locs := I
      have hn : cells + σ0.2.1 ≤ q2.2.2.1 ∧ slots + σ0.2.2.1 ≤ q2.2.2.2.1 := ⟨hn1, hn2⟩
      refine lv_aload_n hx hb dX8_alike_59 rfl (lv_at hl 0 rfl) ?_
      refine lv_iload_n hx hb dX8_alike_60 rfl (lv_at hl 1 rfl) ?_
      refine lv_iload hx hb dX8_alike_61 (lv_at hl 5 rfl) ?_
      refine r_callV (Y := M_X8_isTrue) (v := some (.int q3.1)) X I w_1947 my_X8_isTrue (by omega) (t_X8_isTrue (G := G) (d := d + 0) h6) (b_X8_isTrue h6) rfl rfl hl.1 rfl (Nat.le_of_ble_eq_true rfl) hn le7 dX8_alike_63 (fun H locs cells slots I hn1 hn2 => ?_)
      have I : s_I G q3.2 s H locs := I
      have hn : cells + σ0.2.1 ≤ q3.2.2.1 ∧ slots + σ0.2.2.1 ≤ q3.2.2.2.1 := ⟨hn1, hn2⟩
      rcases s_ite hf with ⟨c9, hf⟩ | ⟨c9, hf⟩
      · refine lv_icmp_ne (tgt := 73) hx hb dX8_alike_66 (by decide) (fun n => absurd c9 n) (fun _ => ?_)
        cases hf
        have k : s_V G (d + 4) M_X8_alike vs0 σ0 Y_X8_alike (74, [.ref v0, .int v1, .int v2, .int v3, .int v5, .int 1], q3.2) (e_I r) := k
        refine lv_iconst (v := 1) hx hb dX8_alike_69 (by decide) ?_
        refine lv_goto (tgt := 74) hx hb dX8_alike_70 (by decide) ?_
        exact k.2 p e s m below meth c _ _ _ _ _ X I hn.1 hn.2 (lv_sub hl [0, 1, 2, 3, 5] rfl)
      · refine lv_icmp_ne (tgt := 73) hx hb dX8_alike_66 (by decide) (fun _ => ?_) (fun n => absurd n c9)
        cases hf
        have k : s_V G (d + 4) M_X8_alike vs0 σ0 Y_X8_alike (74, [.ref v0, .int v1, .int v2, .int v3, .int v5, .int 0], q3.2) (e_I r) := k
        refine lv_iconst (v := 0) hx hb dX8_alike_73 (by decide) ?_
        exact k.2 p e s m below meth c _ _ _ _ _ X I hn.1 hn.2 (lv_sub hl [0, 1, 2, 3, 5] rfl)
set_option maxRecDepth 100000 in
set_option maxHeartbeats 4000000 in
theorem v_X8_alike_74 {G : sG} {d : Nat} {vs0 : List Value} {σ0 : sS} {v0 : Nat} {v1 : Int32} {v2 : Int32} {v3 : Int32} {v5 : Int32} {w0 : Int32} {σ : sS} {z : sZ Int32} {r : Int32 × sS} (hf : T_X8_alike_74 v0 v1 v2 v3 v5 w0 σ = some z) (k : s_K G (d + 4) M_X8_alike vs0 σ0 Y_X8_alike e_I z r) : s_V G (d + 4) M_X8_alike vs0 σ0 Y_X8_alike (74, [.ref v0, .int v1, .int v2, .int v3, .int v5, .int w0], σ) (e_I r) := by
  have le0 : s_le σ (e_I r).2 := s_lek hem_I (l_X8_alike_74 hf) k
  refine ⟨le0, ?_⟩
  intro p e s m below meth c H locs cells slots ls X I hn1 hn2 hl
  have hn : cells + σ0.2.1 ≤ σ.2.1 ∧ slots + σ0.2.2.1 ≤ σ.2.2.1 := ⟨hn1, hn2⟩
  have hl : lv_has ls 6 [(0, .ref v0), (1, .int v1), (2, .int v2), (3, .int v3), (5, .int v5)] := hl
  have hx := X.1
  have hb : c.code = cX8_alike := X.2.1
  have hown : s.vm.findClass RX8 = some m.cls := X.2.2.2.2.2.1
  have hts := X.2.2.2.2.2.2.1
  refine W.eq (g2 := F0 m 74 ls [.int w0]) rfl ?_
  unfold T_X8_alike_74 at hf
  cases hf
  have k : s_V G (d + 4) M_X8_alike vs0 σ0 Y_X8_alike (38, [.ref v0, .int v1, .int v2, .int v3, .int w0, .int (v5 + 1)], σ) (e_I r) := k
  refine lv_istore (lv' := [(4, .int w0), (0, .ref v0), (1, .int v1), (2, .int v2), (3, .int v3), (5, .int v5)]) hx hb dX8_alike_74 hl (by decide) rfl (fun ls hl => ?_)
  refine lv_iinc (v := (v5 + 1)) (lv' := [(5, .int (v5 + 1)), (4, .int w0), (0, .ref v0), (1, .int v1), (2, .int v2), (3, .int v3)]) hx hb dX8_alike_76 hl (k := 5) rfl rfl (by decide) rfl (fun ls hl => ?_)
  refine lv_goto (tgt := 38) hx hb dX8_alike_79 (by decide) ?_
  exact k.2 p e s m below meth c _ _ _ _ _ X I hn.1 hn.2 (lv_sub hl [2, 3, 4, 5, 1, 0] rfl)
set_option maxRecDepth 100000 in
set_option maxHeartbeats 4000000 in
theorem v_X8_alike_82 {G : sG} {d : Nat} {vs0 : List Value} {σ0 : sS} {v0 : Nat} {v1 : Int32} {v2 : Int32} {v3 : Int32} {v4 : Int32} {σ : sS} {z : sZ Int32} {r : Int32 × sS} (hf : T_X8_alike_82 v0 v1 v2 v3 v4 σ = some z) (k : s_K G (d + 4) M_X8_alike vs0 σ0 Y_X8_alike e_I z r) : s_V G (d + 4) M_X8_alike vs0 σ0 Y_X8_alike (82, [.ref v0, .int v1, .int v2, .int v3, .int v4], σ) (e_I r) := by
  have le0 : s_le σ (e_I r).2 := s_lek hem_I (l_X8_alike_82 hf) k
  refine ⟨le0, ?_⟩
  intro p e s m below meth c H locs cells slots ls X I hn1 hn2 hl
  have hn : cells + σ0.2.1 ≤ σ.2.1 ∧ slots + σ0.2.2.1 ≤ σ.2.2.1 := ⟨hn1, hn2⟩
  have hl : lv_has ls 6 [(0, .ref v0), (1, .int v1), (2, .int v2), (3, .int v3), (4, .int v4)] := hl
  have hx := X.1
  have hb : c.code = cX8_alike := X.2.1
  have hown : s.vm.findClass RX8 = some m.cls := X.2.2.2.2.2.1
  have hts := X.2.2.2.2.2.2.1
  refine W.eq (g2 := F0 m 82 ls []) rfl ?_
  unfold T_X8_alike_82 at hf
  refine lv_iload_n hx hb dX8_alike_82 rfl (lv_at hl 2 rfl) ?_
  refine lv_iload hx hb dX8_alike_83 (lv_at hl 4 rfl) ?_
  rcases s_ite hf with ⟨c1, hf⟩ | ⟨c1, hf⟩
  · refine lv_if_eq (tgt := 94) hx hb dX8_alike_85 (by decide) (fun _ => ?_) (fun n => absurd c1 n)
    cases hf
    have k : s_V G (d + 4) M_X8_alike vs0 σ0 Y_X8_alike (95, [.ref v0, .int v1, .int v3, .int 0, .int v2], σ) (e_I r) := k
    refine lv_iconst (v := 0) hx hb dX8_alike_94 (by decide) ?_
    exact k.2 p e s m below meth c _ _ _ _ _ X I hn.1 hn.2 (lv_sub hl [0, 1, 3] rfl)
  · refine lv_if_eq (tgt := 94) hx hb dX8_alike_85 (by decide) (fun n => absurd n c1) (fun _ => ?_)
    cases hf
    have k : s_V G (d + 4) M_X8_alike vs0 σ0 Y_X8_alike (95, [.ref v0, .int v1, .int v3, .int (1 <<< (v3 &&& 31)), .int v2], σ) (e_I r) := k
    refine lv_iconst (v := 1) hx hb dX8_alike_88 (by decide) ?_
    refine lv_iload_n hx hb dX8_alike_89 rfl (lv_at hl 3 rfl) ?_
    refine lv_ishl hx hb dX8_alike_90 ?_
    refine lv_goto (tgt := 95) hx hb dX8_alike_91 (by decide) ?_
    exact k.2 p e s m below meth c _ _ _ _ _ X I hn.1 hn.2 (lv_sub hl [0, 1, 3] rfl)
set_option maxRecDepth 100000 in
set_option maxHeartbeats 4000000 in
theorem v_X8_alike_95 {G : sG} {d : Nat} {vs0 : List Value} {σ0 : sS} {v0 : Nat} {v1 : Int32} {v3 : Int32} {w0 : Int32} {w1 : Int32} {σ : sS} {z : sZ Int32} {r : Int32 × sS} (hf : T_X8_alike_95 v0 v1 v3 w0 w1 σ = some z) (k : s_K G (d + 4) M_X8_alike vs0 σ0 Y_X8_alike e_I z r) : s_V G (d + 4) M_X8_alike vs0 σ0 Y_X8_alike (95, [.ref v0, .int v1, .int v3, .int w0, .int w1], σ) (e_I r) := by
  have le0 : s_le σ (e_I r).2 := s_lek hem_I (l_X8_alike_95 hf) k
  refine ⟨le0, ?_⟩
  intro p e s m below meth c H locs cells slots ls X I hn1 hn2 hl
  have hn : cells + σ0.2.1 ≤ σ.2.1 ∧ slots + σ0.2.2.1 ≤ σ.2.2.1 := ⟨hn1, hn2⟩
  have hl : lv_has ls 6 [(0, .ref v0), (1, .int v1), (3, .int v3)] := hl
  have hx := X.1
  have hb : c.code = cX8_alike := X.2.1
  have hown : s.vm.findClass RX8 = some m.cls := X.2.2.2.2.2.1
  have hts := X.2.2.2.2.2.2.1
  refine W.eq (g2 := F0 m 95 ls [.int w0, .int w1]) rfl ?_
  unfold T_X8_alike_95 at hf
  cases hf
  have k : s_V G (d + 4) M_X8_alike vs0 σ0 Y_X8_alike (24, [.ref v0, .int v1, .int (w1 ||| w0), .int (v3 + 1)], σ) (e_I r) := k
  refine lv_ior hx hb dX8_alike_95 ?_
  refine lv_istore_n (lv' := [(2, .int (w1 ||| w0)), (0, .ref v0), (1, .int v1), (3, .int v3)]) hx hb dX8_alike_96 rfl hl (by decide) rfl (fun ls hl => ?_)
  refine lv_iinc (v := (v3 + 1)) (lv' := [(3, .int (v3 + 1)), (2, .int (w1 ||| w0)), (0, .ref v0), (1, .int v1)]) hx hb dX8_alike_97 hl (k := 3) rfl rfl (by decide) rfl (fun ls hl => ?_)
  refine lv_goto (tgt := 24) hx hb dX8_alike_100 (by decide) ?_
  exact k.2 p e s m below meth c _ _ _ _ _ X I hn.1 hn.2 (lv_sub hl [2, 3, 1, 0] rfl)
theorem v_X8_alike {G : sG} {d : Nat} {vs0 : List Value} {σ0 : sS} {x : sL} {z : sZ Int32} {r : Int32 × sS} (hs : S_X8_alike x = some z) (k : s_K G (d + 4) M_X8_alike vs0 σ0 Y_X8_alike e_I z r) : s_V G (d + 4) M_X8_alike vs0 σ0 Y_X8_alike x (e_I r) := by
  obtain ⟨pc, vs, σ⟩ := x
  unfold S_X8_alike at hs
  dsimp only at hs
  rcases s_ite hs with ⟨c, hs⟩ | ⟨-, hs⟩
  · subst c
    unfold U_X8_alike_0 at hs
    obtain ⟨a0, g0, hs⟩ := s_bind hs
    obtain ⟨a1, g1, hs⟩ := s_bind hs
    obtain ⟨u9, ge, hs⟩ := s_bind hs
    rw [g_r_to g0, g_i_to g1, g_e_to ge]
    exact v_X8_alike_0 hs k
  rcases s_ite hs with ⟨c, hs⟩ | ⟨-, hs⟩
  · subst c
    unfold U_X8_alike_24 at hs
    obtain ⟨a0, g0, hs⟩ := s_bind hs
    obtain ⟨a1, g1, hs⟩ := s_bind hs
    obtain ⟨a2, g2, hs⟩ := s_bind hs
    obtain ⟨a3, g3, hs⟩ := s_bind hs
    obtain ⟨u9, ge, hs⟩ := s_bind hs
    rw [g_r_to g0, g_i_to g1, g_i_to g2, g_i_to g3, g_e_to ge]
    exact v_X8_alike_24 hs k
  rcases s_ite hs with ⟨c, hs⟩ | ⟨-, hs⟩
  · subst c
    unfold U_X8_alike_38 at hs
    obtain ⟨a0, g0, hs⟩ := s_bind hs
    obtain ⟨a1, g1, hs⟩ := s_bind hs
    obtain ⟨a2, g2, hs⟩ := s_bind hs
    obtain ⟨a3, g3, hs⟩ := s_bind hs
    obtain ⟨a4, g4, hs⟩ := s_bind hs
    obtain ⟨a5, g5, hs⟩ := s_bind hs
    obtain ⟨u9, ge, hs⟩ := s_bind hs
    rw [g_r_to g0, g_i_to g1, g_i_to g2, g_i_to g3, g_i_to g4, g_i_to g5, g_e_to ge]
    exact v_X8_alike_38 hs k
  rcases s_ite hs with ⟨c, hs⟩ | ⟨-, hs⟩
  · subst c
    unfold U_X8_alike_74 at hs
    obtain ⟨a0, g0, hs⟩ := s_bind hs
    obtain ⟨a1, g1, hs⟩ := s_bind hs
    obtain ⟨a2, g2, hs⟩ := s_bind hs
    obtain ⟨a3, g3, hs⟩ := s_bind hs
    obtain ⟨a4, g4, hs⟩ := s_bind hs
    obtain ⟨a5, g5, hs⟩ := s_bind hs
    obtain ⟨u9, ge, hs⟩ := s_bind hs
    rw [g_r_to g0, g_i_to g1, g_i_to g2, g_i_to g3, g_i_to g4, g_i_to g5, g_e_to ge]
    exact v_X8_alike_74 hs k
  rcases s_ite hs with ⟨c, hs⟩ | ⟨-, hs⟩
  · subst c
    unfold U_X8_alike_82 at hs
    obtain ⟨a0, g0, hs⟩ := s_bind hs
    obtain ⟨a1, g1, hs⟩ := s_bind hs
    obtain ⟨a2, g2, hs⟩ := s_bind hs
    obtain ⟨a3, g3, hs⟩ := s_bind hs
    obtain ⟨a4, g4, hs⟩ := s_bind hs
    obtain ⟨u9, ge, hs⟩ := s_bind hs
    rw [g_r_to g0, g_i_to g1, g_i_to g2, g_i_to g3, g_i_to g4, g_e_to ge]
    exact v_X8_alike_82 hs k
  rcases s_ite hs with ⟨c, hs⟩ | ⟨-, hs⟩
  · subst c
    unfold U_X8_alike_95 at hs
    obtain ⟨a0, g0, hs⟩ := s_bind hs
    obtain ⟨a1, g1, hs⟩ := s_bind hs
    obtain ⟨a2, g2, hs⟩ := s_bind hs
    obtain ⟨a3, g3, hs⟩ := s_bind hs
    obtain ⟨a4, g4, hs⟩ := s_bind hs
    obtain ⟨u9, ge, hs⟩ := s_bind hs
    rw [g_r_to g0, g_i_to g1, g_i_to g2, g_i_to g3, g_i_to g4, g_e_to ge]
    exact v_X8_alike_95 hs k
  cases hs
theorem t_X8_alike {G : sG} {d : Nat} {v0 : Nat} {v1 : Int32} {σ : sS} {q : Int32 × sS} (h : F_X8_alike v0 v1 σ = some q) : s_T G (d + 4) M_X8_alike [.ref v0, .int v1] σ (e_I q) := by
  unfold F_X8_alike at h
  obtain ⟨-, -, h⟩ := s_bind h
  exact s_ofV rfl (by decide) (Nat.le_of_ble_eq_true rfl) rfl rfl (s_run_ind (V := fun x r => s_V G (d + 4) M_X8_alike [.ref v0, .int v1] σ Y_X8_alike x (e_I r)) (fun x z r hs hk => v_X8_alike hs (by cases z <;> exact hk)) h)
