/-! X7_resold -/
noncomputable def T_X7_resold_0 (v0 : Nat) (v1 : Int32) (v2 : Int32) (v3 : Int32) (σ : sS) : Option (sZ (Int32 ⊕ String)) :=
  (F_X7_needProof v0 v1 v2 v3 σ).bind fun q1 => s_sum q1.1 (fun x2 => (s_fr q1.2 v0 7 6).bind fun x4 =>
  (F_X4_costResold x4 v1 q1.2).bind fun q5 =>
  some (.inr (.inl q5.1, q5.2))) (fun E3 => some (.inr (.inr E3, q1.2)))
noncomputable def U_X7_resold_0 (vs : List Value) (σ : sS) : Option (sZ (Int32 ⊕ String)) := (g_r vs).bind fun a0 => (g_i a0.2).bind fun a1 => (g_i a1.2).bind fun a2 => (g_i a2.2).bind fun a3 => (g_e a3.2).bind fun _ => T_X7_resold_0 a0.1 a1.1 a2.1 a3.1 σ
noncomputable def S_X7_resold (x : sL) : Option (sZ (Int32 ⊕ String)) := if x.1 = 0 then U_X7_resold_0 x.2.1 x.2.2 else none
def Y_X7_resold (pc : Nat) : List Nat := if pc = 0 then [0, 1, 2, 3] else []
noncomputable def F_X7_resold (v0 : Nat) (v1 : Int32) (v2 : Int32) (v3 : Int32) (σ : sS) : Option ((Int32 ⊕ String) × sS) := (s_is σ v0 7).bind fun _ => s_run S_X7_resold (0, [.ref v0, .int v1, .int v2, .int v3], σ)
theorem l_X7_resold_0 {v0 : Nat} {v1 : Int32} {v2 : Int32} {v3 : Int32} {σ : sS} {z : sZ (Int32 ⊕ String)} (hf : T_X7_resold_0 v0 v1 v2 v3 σ = some z) : s_lz σ z := by
  unfold T_X7_resold_0 at hf
  obtain ⟨q1, hh, hf⟩ := s_bind hf
  refine s_lz.tr (l_X7_needProof hh) ?_
  rcases s_sum_some hf with ⟨x2, -, hf⟩ | ⟨E3, -, hf⟩
  · obtain ⟨x4, -, hf⟩ := s_bind hf
    obtain ⟨q5, hh, hf⟩ := s_bind hf
    refine s_lz.tr (l_X4_costResold hh) ?_
    cases hf
    exact s_le.rf
  · cases hf
    exact s_le.rf
theorem l_X7_resold_s {x : sL} {z : sZ (Int32 ⊕ String)} (hs : S_X7_resold x = some z) : s_lz x.2.2 z := by
  obtain ⟨pc, vs, σ⟩ := x
  unfold S_X7_resold at hs
  dsimp only at hs ⊢
  rcases s_ite hs with ⟨c, hs⟩ | ⟨-, hs⟩
  · subst c
    unfold U_X7_resold_0 at hs
    obtain ⟨a0, g0, hs⟩ := s_bind hs
    obtain ⟨a1, g1, hs⟩ := s_bind hs
    obtain ⟨a2, g2, hs⟩ := s_bind hs
    obtain ⟨a3, g3, hs⟩ := s_bind hs
    obtain ⟨u9, ge, hs⟩ := s_bind hs
    exact l_X7_resold_0 hs
  cases hs
theorem l_X7_resold {v0 : Nat} {v1 : Int32} {v2 : Int32} {v3 : Int32} {σ : sS} {q : (Int32 ⊕ String) × sS} (h : F_X7_resold v0 v1 v2 v3 σ = some q) : s_le σ q.2 := by
  unfold F_X7_resold at h
  obtain ⟨-, -, h⟩ := s_bind h
  exact s_run_ind (V := fun x r => s_le x.2.2 r.2) (fun x z r hs hk => by
    have h9 := l_X7_resold_s hs
    cases z with
    | inl y => exact s_le.tr h9 hk
    | inr q => cases hk; exact h9) h
theorem b_X7_resold {v0 : Nat} {v1 : Int32} {v2 : Int32} {v3 : Int32} {σ : sS} {q : (Int32 ⊕ String) × sS} (h : F_X7_resold v0 v1 v2 v3 σ = some q) : ∃ fs, σ.1 v0 = some (.inr (7, fs)) := by
  unfold F_X7_resold at h
  obtain ⟨u, hu, -⟩ := s_bind h
  exact s_is_to hu
set_option maxRecDepth 100000 in
set_option maxHeartbeats 4000000 in
theorem v_X7_resold_0 {G : sG} {d : Nat} {vs0 : List Value} {σ0 : sS} {v0 : Nat} {v1 : Int32} {v2 : Int32} {v3 : Int32} {σ : sS} {z : sZ (Int32 ⊕ String)} {r : (Int32 ⊕ String) × sS} (hf : T_X7_resold_0 v0 v1 v2 v3 σ = some z) (k : s_K G (d + 69) M_X7_resold vs0 σ0 Y_X7_resold e_IX z r) : s_V G (d + 69) M_X7_resold vs0 σ0 Y_X7_resold (0, [.ref v0, .int v1, .int v2, .int v3], σ) (e_IX r) := by
  have le0 : s_le σ (e_IX r).2 := s_lek hem_IX (l_X7_resold_0 hf) k
  refine ⟨le0, ?_⟩
  intro p e s m below meth c H locs cells slots ls X I hn1 hn2 hl
  have hn : cells + σ0.2.1 ≤ σ.2.1 ∧ slots + σ0.2.2.1 ≤ σ.2.2.1 := ⟨hn1, hn2⟩
  have hl : lv_has ls 4 [(0, .ref v0), (1, .int v1), (2, .int v2), (3, .int v3)] := hl
  have hx := X.1
  have hb : c.code = cX7_resold := X.2.1
  have hown : s.vm.findClass RX7 = some m.cls := X.2.2.2.2.2.1
  have hts := X.2.2.2.2.2.2.1
  refine W.eq (g2 := F0 m 0 ls []) rfl ?_
  unfold T_X7_resold_0 at hf
  obtain ⟨q1, h1, hf⟩ := s_bind hf
  refine lv_aload_n hx hb dX7_resold_0 rfl (lv_at hl 0 rfl) ?_
  refine lv_iload_n hx hb dX7_resold_1 rfl (lv_at hl 1 rfl) ?_
  refine lv_iload_n hx hb dX7_resold_2 rfl (lv_at hl 2 rfl) ?_
  refine lv_iload_n hx hb dX7_resold_3 rfl (lv_at hl 3 rfl) ?_
  rcases s_sum_some hf with ⟨x2, hq2, hf⟩ | ⟨E3, hq2, hf⟩
  · have le3 : s_le q1.2 (e_IX r).2 := by
      refine s_lek hem_IX ?_ k
      obtain ⟨x4, -, hf⟩ := s_bind hf
      obtain ⟨q5, hh, hf⟩ := s_bind hf
      refine s_lz.tr (l_X4_costResold hh) ?_
      cases hf
      exact s_le.rf
    refine r_callV (Y := M_X7_needProof) (v := none) X I w_1279 my_X7_needProof (by omega) (t_X7_needProof (G := G) (d := d + 0) h1) (b_X7_needProof h1) (e_VX_l hq2) rfl hl.1 rfl (Nat.le_of_ble_eq_true rfl) hn le3 dX7_resold_4 (fun H locs cells slots I hn1 hn2 => ?_)
    have I : s_I G q1.2 s H locs := I
    have hn : cells + σ0.2.1 ≤ q1.2.2.1 ∧ slots + σ0.2.2.1 ≤ q1.2.2.2.1 := ⟨hn1, hn2⟩
    obtain ⟨x4, h4, hf⟩ := s_bind hf
    obtain ⟨q5, h5, hf⟩ := s_bind hf
    cases hf
    have k : _ = r := k
    subst k
    have le6 : s_le q5.2 q5.2 := s_le.rf
    refine lv_aload_n hx hb dX7_resold_7 rfl (lv_at hl 0 rfl) ?_
    refine r_gr X I fl_X7_56 h4 dX7_resold_8 ?_
    refine lv_iload_n hx hb dX7_resold_11 rfl (lv_at hl 1 rfl) ?_
    refine r_callV (Y := M_X4_costResold) (v := some (.int q5.1)) X I w_1418 my_X4_costResold (by omega) (t_X4_costResold (G := G) (d := d + 62) h5) (b_X4_costResold h5) rfl rfl hl.1 rfl (Nat.le_of_ble_eq_true rfl) hn le6 dX7_resold_12 (fun H locs cells slots I hn1 hn2 => ?_)
    have I : s_I G q5.2 s H locs := I
    have hn : cells + σ0.2.1 ≤ q5.2.2.1 ∧ slots + σ0.2.2.1 ≤ q5.2.2.2.1 := ⟨hn1, hn2⟩
    exact r_iret X I rfl rfl rfl hn dX7_resold_15
  · cases hf
    have k : _ = r := k
    subst k
    exact r_callVx (Y := M_X7_needProof) X I rfl w_1279 my_X7_needProof (by omega) (t_X7_needProof (G := G) (d := d + 0) h1) (b_X7_needProof h1) (e_VX_r hq2) rfl hl.1 rfl (Nat.le_of_ble_eq_true rfl) hn rfl dX7_resold_4
theorem v_X7_resold {G : sG} {d : Nat} {vs0 : List Value} {σ0 : sS} {x : sL} {z : sZ (Int32 ⊕ String)} {r : (Int32 ⊕ String) × sS} (hs : S_X7_resold x = some z) (k : s_K G (d + 69) M_X7_resold vs0 σ0 Y_X7_resold e_IX z r) : s_V G (d + 69) M_X7_resold vs0 σ0 Y_X7_resold x (e_IX r) := by
  obtain ⟨pc, vs, σ⟩ := x
  unfold S_X7_resold at hs
  dsimp only at hs
  rcases s_ite hs with ⟨c, hs⟩ | ⟨-, hs⟩
  · subst c
    unfold U_X7_resold_0 at hs
    obtain ⟨a0, g0, hs⟩ := s_bind hs
    obtain ⟨a1, g1, hs⟩ := s_bind hs
    obtain ⟨a2, g2, hs⟩ := s_bind hs
    obtain ⟨a3, g3, hs⟩ := s_bind hs
    obtain ⟨u9, ge, hs⟩ := s_bind hs
    rw [g_r_to g0, g_i_to g1, g_i_to g2, g_i_to g3, g_e_to ge]
    exact v_X7_resold_0 hs k
  cases hs
theorem t_X7_resold {G : sG} {d : Nat} {v0 : Nat} {v1 : Int32} {v2 : Int32} {v3 : Int32} {σ : sS} {q : (Int32 ⊕ String) × sS} (h : F_X7_resold v0 v1 v2 v3 σ = some q) : s_T G (d + 69) M_X7_resold [.ref v0, .int v1, .int v2, .int v3] σ (e_IX q) := by
  unfold F_X7_resold at h
  obtain ⟨-, -, h⟩ := s_bind h
  exact s_ofV rfl (by decide) (Nat.le_of_ble_eq_true rfl) rfl rfl (s_run_ind (V := fun x r => s_V G (d + 69) M_X7_resold [.ref v0, .int v1, .int v2, .int v3] σ Y_X7_resold x (e_IX r)) (fun x z r hs hk => v_X7_resold hs (by cases z <;> exact hk)) h)
/-! L_resold -/
noncomputable def T_L_resold_0 (v0 : Nat) (v1 : Int32) (v2 : Int32) (v3 : Int32) (v4 : Nat) (σ : sS) : Option (sZ Int32) :=
  (F_X7_resold v0 v1 v2 v3 σ).bind fun q1 => s_sum q1.1 (fun x2 => (s_sl q1.2 v4 0 ((x2 : Int32).toInt64)).bind fun σ4 =>
  some (.inr (0, σ4))) (fun E3 => if E3 = "java/lang/IndexOutOfBoundsException" then (some (.inr (1, q1.2))) else none)
noncomputable def U_L_resold_0 (vs : List Value) (σ : sS) : Option (sZ Int32) := (g_r vs).bind fun a0 => (g_i a0.2).bind fun a1 => (g_i a1.2).bind fun a2 => (g_i a2.2).bind fun a3 => (g_r a3.2).bind fun a4 => (g_e a4.2).bind fun _ => T_L_resold_0 a0.1 a1.1 a2.1 a3.1 a4.1 σ
noncomputable def S_L_resold (x : sL) : Option (sZ Int32) := if x.1 = 0 then U_L_resold_0 x.2.1 x.2.2 else none
def Y_L_resold (pc : Nat) : List Nat := if pc = 0 then [0, 1, 2, 3, 4] else []
noncomputable def F_L_resold (v0 : Nat) (v1 : Int32) (v2 : Int32) (v3 : Int32) (v4 : Nat) (σ : sS) : Option (Int32 × sS) := s_run S_L_resold (0, [.ref v0, .int v1, .int v2, .int v3, .ref v4], σ)
theorem l_L_resold_0 {v0 : Nat} {v1 : Int32} {v2 : Int32} {v3 : Int32} {v4 : Nat} {σ : sS} {z : sZ Int32} (hf : T_L_resold_0 v0 v1 v2 v3 v4 σ = some z) : s_lz σ z := by
  unfold T_L_resold_0 at hf
  obtain ⟨q1, hh, hf⟩ := s_bind hf
  refine s_lz.tr (l_X7_resold hh) ?_
  rcases s_sum_some hf with ⟨x2, -, hf⟩ | ⟨E3, -, hf⟩
  · obtain ⟨σ4, hh, hf⟩ := s_bind hf
    refine s_lz.tr (s_le2 (s_sl_2 hh)) ?_
    cases hf
    exact s_le.rf
  · rcases s_ite hf with ⟨-, hf⟩ | ⟨-, hf⟩
    · cases hf
      exact s_le.rf
    cases hf
theorem l_L_resold_s {x : sL} {z : sZ Int32} (hs : S_L_resold x = some z) : s_lz x.2.2 z := by
  obtain ⟨pc, vs, σ⟩ := x
  unfold S_L_resold at hs
  dsimp only at hs ⊢
  rcases s_ite hs with ⟨c, hs⟩ | ⟨-, hs⟩
  · subst c
    unfold U_L_resold_0 at hs
    obtain ⟨a0, g0, hs⟩ := s_bind hs
    obtain ⟨a1, g1, hs⟩ := s_bind hs
    obtain ⟨a2, g2, hs⟩ := s_bind hs
    obtain ⟨a3, g3, hs⟩ := s_bind hs
    obtain ⟨a4, g4, hs⟩ := s_bind hs
    obtain ⟨u9, ge, hs⟩ := s_bind hs
    exact l_L_resold_0 hs
  cases hs
theorem l_L_resold {v0 : Nat} {v1 : Int32} {v2 : Int32} {v3 : Int32} {v4 : Nat} {σ : sS} {q : Int32 × sS} (h : F_L_resold v0 v1 v2 v3 v4 σ = some q) : s_le σ q.2 := by
  unfold F_L_resold at h
  exact s_run_ind (V := fun x r => s_le x.2.2 r.2) (fun x z r hs hk => by
    have h9 := l_L_resold_s hs
    cases z with
    | inl y => exact s_le.tr h9 hk
    | inr q => cases hk; exact h9) h
set_option maxRecDepth 100000 in
set_option maxHeartbeats 4000000 in
theorem v_L_resold_0 {G : sG} {d : Nat} {vs0 : List Value} {σ0 : sS} {v0 : Nat} {v1 : Int32} {v2 : Int32} {v3 : Int32} {v4 : Nat} {σ : sS} {z : sZ Int32} {r : Int32 × sS} (hf : T_L_resold_0 v0 v1 v2 v3 v4 σ = some z) (k : s_K G (d + 70) M_L_resold vs0 σ0 Y_L_resold e_I z r) : s_V G (d + 70) M_L_resold vs0 σ0 Y_L_resold (0, [.ref v0, .int v1, .int v2, .int v3, .ref v4], σ) (e_I r) := by
  have le0 : s_le σ (e_I r).2 := s_lek hem_I (l_L_resold_0 hf) k
  refine ⟨le0, ?_⟩
  intro p e s m below meth c H locs cells slots ls X I hn1 hn2 hl
  have hn : cells + σ0.2.1 ≤ σ.2.1 ∧ slots + σ0.2.2.1 ≤ σ.2.2.1 := ⟨hn1, hn2⟩
  have hl : lv_has ls 6 [(0, .ref v0), (1, .int v1), (2, .int v2), (3, .int v3), (4, .ref v4)] := hl
  have hx := X.1
  have hb : c.code = cL_resold := X.2.1
  have hown : s.vm.findClass RL = some m.cls := X.2.2.2.2.2.1
  have hts := X.2.2.2.2.2.2.1
  refine W.eq (g2 := F0 m 0 ls []) rfl ?_
  unfold T_L_resold_0 at hf
  obtain ⟨q1, h1, hf⟩ := s_bind hf
  refine lv_aload hx hb dL_resold_0 (lv_at hl 4 rfl) ?_
  refine lv_iconst (v := 0) hx hb dL_resold_2 (by decide) ?_
  refine lv_aload_n hx hb dL_resold_3 rfl (lv_at hl 0 rfl) ?_
  refine lv_iload_n hx hb dL_resold_4 rfl (lv_at hl 1 rfl) ?_
  refine lv_iload_n hx hb dL_resold_5 rfl (lv_at hl 2 rfl) ?_
  refine lv_iload_n hx hb dL_resold_6 rfl (lv_at hl 3 rfl) ?_
  rcases s_sum_some hf with ⟨x2, hq2, hf⟩ | ⟨E3, hq2, hf⟩
  · have le3 : s_le q1.2 (e_I r).2 := by
      refine s_lek hem_I ?_ k
      obtain ⟨σ4, hh, hf⟩ := s_bind hf
      refine s_lz.tr (s_le2 (s_sl_2 hh)) ?_
      cases hf
      exact s_le.rf
    refine r_callV (Y := M_X7_resold) (v := some (.int x2)) X I w_1414 my_X7_resold (by omega) (t_X7_resold (G := G) (d := d + 0) h1) (b_X7_resold h1) (e_IX_l hq2) rfl hl.1 rfl (Nat.le_of_ble_eq_true rfl) hn le3 dL_resold_7 (fun H locs cells slots I hn1 hn2 => ?_)
    have I : s_I G q1.2 s H locs := I
    have hn : cells + σ0.2.1 ≤ q1.2.2.1 ∧ slots + σ0.2.2.1 ≤ q1.2.2.2.1 := ⟨hn1, hn2⟩
    obtain ⟨σ4, h4, hf⟩ := s_bind hf
    cases hf
    have k : _ = r := k
    subst k
    have le5 : s_le σ4 σ4 := s_le.rf
    refine lv_i2l hx hb dL_resold_10 rfl ?_
    refine r_last X I h4 dL_resold_11 (fun H locs I => ?_)
    have hn := s_k2 (s_sl_2 h4) hn
    refine lv_goto (tgt := 19) hx hb dL_resold_12 (by decide) ?_
    refine lv_iconst (v := 0) hx hb dL_resold_19 (by decide) ?_
    exact r_iret X I rfl rfl rfl hn dL_resold_20
  · rcases s_ite hf with ⟨c6, hf⟩ | ⟨c6, hf⟩
    · subst c6
      have le7 : s_le q1.2 (e_I r).2 := by
        refine s_lek hem_I ?_ k
        cases hf
        exact s_le.rf
      refine r_callVh (x := (0, 12, 15, 27)) (Y := M_X7_resold) (E := "java/lang/IndexOutOfBoundsException") (name := "java/lang/IndexOutOfBoundsException") X I [] [] rfl (fun z hz => by cases hz) rfl (by decide) w_1011 (by decide +kernel) w_1414 my_X7_resold (by omega) (t_X7_resold (G := G) (d := d + 0) h1) (b_X7_resold h1) (e_IX_r hq2) rfl hl.1 rfl (Nat.le_of_ble_eq_true rfl) hn le7 dL_resold_7 (fun a5 H locs cells slots I hn1 hn2 => ?_)
      have I : s_I G q1.2 s H locs := I
      have hn : cells + σ0.2.1 ≤ q1.2.2.1 ∧ slots + σ0.2.2.1 ≤ q1.2.2.2.1 := ⟨hn1, hn2⟩
      cases hf
      have k : _ = r := k
      subst k
      refine lv_astore (lv' := [(5, .ref a5), (0, .ref v0), (1, .int v1), (2, .int v2), (3, .int v3), (4, .ref v4)]) hx hb dL_resold_15 hl (by decide) rfl (fun ls hl => ?_)
      refine lv_iconst (v := 1) hx hb dL_resold_17 (by decide) ?_
      exact r_iret X I rfl rfl rfl hn dL_resold_18
    cases hf
theorem v_L_resold {G : sG} {d : Nat} {vs0 : List Value} {σ0 : sS} {x : sL} {z : sZ Int32} {r : Int32 × sS} (hs : S_L_resold x = some z) (k : s_K G (d + 70) M_L_resold vs0 σ0 Y_L_resold e_I z r) : s_V G (d + 70) M_L_resold vs0 σ0 Y_L_resold x (e_I r) := by
  obtain ⟨pc, vs, σ⟩ := x
  unfold S_L_resold at hs
  dsimp only at hs
  rcases s_ite hs with ⟨c, hs⟩ | ⟨-, hs⟩
  · subst c
    unfold U_L_resold_0 at hs
    obtain ⟨a0, g0, hs⟩ := s_bind hs
    obtain ⟨a1, g1, hs⟩ := s_bind hs
    obtain ⟨a2, g2, hs⟩ := s_bind hs
    obtain ⟨a3, g3, hs⟩ := s_bind hs
    obtain ⟨a4, g4, hs⟩ := s_bind hs
    obtain ⟨u9, ge, hs⟩ := s_bind hs
    rw [g_r_to g0, g_i_to g1, g_i_to g2, g_i_to g3, g_r_to g4, g_e_to ge]
    exact v_L_resold_0 hs k
  cases hs
theorem t_L_resold {G : sG} {d : Nat} {v0 : Nat} {v1 : Int32} {v2 : Int32} {v3 : Int32} {v4 : Nat} {σ : sS} {q : Int32 × sS} (h : F_L_resold v0 v1 v2 v3 v4 σ = some q) : s_T G (d + 70) M_L_resold [.ref v0, .int v1, .int v2, .int v3, .ref v4] σ (e_I q) := by
  unfold F_L_resold at h
  exact s_ofVH rfl (by decide) (Nat.le_of_ble_eq_true rfl) rfl rfl (s_run_ind (V := fun x r => s_V G (d + 70) M_L_resold [.ref v0, .int v1, .int v2, .int v3, .ref v4] σ Y_L_resold x (e_I r)) (fun x z r hs hk => v_L_resold hs (by cases z <;> exact hk)) h)
/-! X8_resoldBy -/
noncomputable def T_X8_resoldBy_0 (v0 : Nat) (v1 : Int32) (v2 : Int32) (v3 : Int32) (σ : sS) : Option (sZ Int32) :=
  (F_X8_hasRule v0 v1 15 σ).bind fun q1 =>
  if q1.1 = 0 then (some (.inr ((-1), q1.2)))
  else (some (.inl (20, [.ref v0, .int v1, .int v2, .int v3, .int 268435456, .int 0], q1.2)))
noncomputable def U_X8_resoldBy_0 (vs : List Value) (σ : sS) : Option (sZ Int32) := (g_r vs).bind fun a0 => (g_i a0.2).bind fun a1 => (g_i a1.2).bind fun a2 => (g_i a2.2).bind fun a3 => (g_e a3.2).bind fun _ => T_X8_resoldBy_0 a0.1 a1.1 a2.1 a3.1 σ
noncomputable def T_X8_resoldBy_20 (v0 : Nat) (v1 : Int32) (v2 : Int32) (v3 : Int32) (v4 : Int32) (v5 : Int32) (σ : sS) : Option (sZ Int32) :=
  if (3 : Int32) ≤ v5 then (if v4 < 268435456 then ((F_X8_costOf v0 v1 15 v3 σ).bind fun q1 =>
  some (.inr ((v4 + q1.1), q1.2)))
  else (some (.inr ((-1), σ))))
  else (if v5 = v1 then (some (.inl (44, [.ref v0, .int v1, .int v2, .int v3, .int v4, .int v5, .int (-1)], σ)))
  else ((F_X8_costs v0 v5 v2 v3 σ).bind fun q2 =>
  some (.inl (44, [.ref v0, .int v1, .int v2, .int v3, .int v4, .int v5, .int q2.1], q2.2))))
noncomputable def U_X8_resoldBy_20 (vs : List Value) (σ : sS) : Option (sZ Int32) := (g_r vs).bind fun a0 => (g_i a0.2).bind fun a1 => (g_i a1.2).bind fun a2 => (g_i a2.2).bind fun a3 => (g_i a3.2).bind fun a4 => (g_i a4.2).bind fun a5 => (g_e a5.2).bind fun _ => T_X8_resoldBy_20 a0.1 a1.1 a2.1 a3.1 a4.1 a5.1 σ
noncomputable def T_X8_resoldBy_44 (v0 : Nat) (v1 : Int32) (v2 : Int32) (v3 : Int32) (v4 : Int32) (v5 : Int32) (w0 : Int32) (σ : sS) : Option (sZ Int32) :=
  if (0 : Int32) ≤ w0 then (some (.inl (63, [.ref v0, .int v1, .int v2, .int v3, .int v5, .int (if w0 < v4 then w0 else v4)], σ)))
  else (some (.inl (63, [.ref v0, .int v1, .int v2, .int v3, .int v5, .int v4], σ)))
noncomputable def U_X8_resoldBy_44 (vs : List Value) (σ : sS) : Option (sZ Int32) := (g_r vs).bind fun a0 => (g_i a0.2).bind fun a1 => (g_i a1.2).bind fun a2 => (g_i a2.2).bind fun a3 => (g_i a3.2).bind fun a4 => (g_i a4.2).bind fun a5 => (g_i a5.2).bind fun a6 => (g_e a6.2).bind fun _ => T_X8_resoldBy_44 a0.1 a1.1 a2.1 a3.1 a4.1 a5.1 a6.1 σ
noncomputable def T_X8_resoldBy_63 (v0 : Nat) (v1 : Int32) (v2 : Int32) (v3 : Int32) (v5 : Int32) (w0 : Int32) (σ : sS) : Option (sZ Int32) :=
  some (.inl (20, [.ref v0, .int v1, .int v2, .int v3, .int w0, .int (v5 + 1)], σ))
noncomputable def U_X8_resoldBy_63 (vs : List Value) (σ : sS) : Option (sZ Int32) := (g_r vs).bind fun a0 => (g_i a0.2).bind fun a1 => (g_i a1.2).bind fun a2 => (g_i a2.2).bind fun a3 => (g_i a3.2).bind fun a4 => (g_i a4.2).bind fun a5 => (g_e a5.2).bind fun _ => T_X8_resoldBy_63 a0.1 a1.1 a2.1 a3.1 a4.1 a5.1 σ
noncomputable def S_X8_resoldBy (x : sL) : Option (sZ Int32) := if x.1 = 0 then U_X8_resoldBy_0 x.2.1 x.2.2 else if x.1 = 20 then U_X8_resoldBy_20 x.2.1 x.2.2 else if x.1 = 44 then U_X8_resoldBy_44 x.2.1 x.2.2 else if x.1 = 63 then U_X8_resoldBy_63 x.2.1 x.2.2 else none
def Y_X8_resoldBy (pc : Nat) : List Nat := if pc = 0 then [0, 1, 2, 3] else if pc = 20 then [0, 1, 2, 3, 4, 5] else if pc = 44 then [0, 1, 2, 3, 4, 5] else if pc = 63 then [0, 1, 2, 3, 5] else []
noncomputable def F_X8_resoldBy (v0 : Nat) (v1 : Int32) (v2 : Int32) (v3 : Int32) (σ : sS) : Option (Int32 × sS) := (s_is σ v0 8).bind fun _ => s_run S_X8_resoldBy (0, [.ref v0, .int v1, .int v2, .int v3], σ)
theorem l_X8_resoldBy_0 {v0 : Nat} {v1 : Int32} {v2 : Int32} {v3 : Int32} {σ : sS} {z : sZ Int32} (hf : T_X8_resoldBy_0 v0 v1 v2 v3 σ = some z) : s_lz σ z := by
  unfold T_X8_resoldBy_0 at hf
  obtain ⟨q1, hh, hf⟩ := s_bind hf
  refine s_lz.tr (l_X8_hasRule hh) ?_
  rcases s_ite hf with ⟨-, hf⟩ | ⟨-, hf⟩
  · cases hf
    exact s_le.rf
  · cases hf
    exact s_le.rf
theorem l_X8_resoldBy_20 {v0 : Nat} {v1 : Int32} {v2 : Int32} {v3 : Int32} {v4 : Int32} {v5 : Int32} {σ : sS} {z : sZ Int32} (hf : T_X8_resoldBy_20 v0 v1 v2 v3 v4 v5 σ = some z) : s_lz σ z := by
  unfold T_X8_resoldBy_20 at hf
  rcases s_ite hf with ⟨-, hf⟩ | ⟨-, hf⟩
  · rcases s_ite hf with ⟨-, hf⟩ | ⟨-, hf⟩
    · obtain ⟨q1, hh, hf⟩ := s_bind hf
      refine s_lz.tr (l_X8_costOf hh) ?_
      cases hf
      exact s_le.rf
    · cases hf
      exact s_le.rf
  · rcases s_ite hf with ⟨-, hf⟩ | ⟨-, hf⟩
    · cases hf
      exact s_le.rf
    · obtain ⟨q2, hh, hf⟩ := s_bind hf
      refine s_lz.tr (l_X8_costs hh) ?_
      cases hf
      exact s_le.rf
theorem l_X8_resoldBy_44 {v0 : Nat} {v1 : Int32} {v2 : Int32} {v3 : Int32} {v4 : Int32} {v5 : Int32} {w0 : Int32} {σ : sS} {z : sZ Int32} (hf : T_X8_resoldBy_44 v0 v1 v2 v3 v4 v5 w0 σ = some z) : s_lz σ z := by
  unfold T_X8_resoldBy_44 at hf
  rcases s_ite hf with ⟨-, hf⟩ | ⟨-, hf⟩
  · cases hf
    exact s_le.rf
  · cases hf
    exact s_le.rf
theorem l_X8_resoldBy_63 {v0 : Nat} {v1 : Int32} {v2 : Int32} {v3 : Int32} {v5 : Int32} {w0 : Int32} {σ : sS} {z : sZ Int32} (hf : T_X8_resoldBy_63 v0 v1 v2 v3 v5 w0 σ = some z) : s_lz σ z := by
  unfold T_X8_resoldBy_63 at hf
  cases hf
  exact s_le.rf
theorem l_X8_resoldBy_s {x : sL} {z : sZ Int32} (hs : S_X8_resoldBy x = some z) : s_lz x.2.2 z := by
  obtain ⟨pc, vs, σ⟩ := x
  unfold S_X8_resoldBy at hs
  dsimp only at hs ⊢
  rcases s_ite hs with ⟨c, hs⟩ | ⟨-, hs⟩
  · subst c
    unfold U_X8_resoldBy_0 at hs
    obtain ⟨a0, g0, hs⟩ := s_bind hs
    obtain ⟨a1, g1, hs⟩ := s_bind hs
    obtain ⟨a2, g2, hs⟩ := s_bind hs
    obtain ⟨a3, g3, hs⟩ := s_bind hs
    obtain ⟨u9, ge, hs⟩ := s_bind hs
    exact l_X8_resoldBy_0 hs
  rcases s_ite hs with ⟨c, hs⟩ | ⟨-, hs⟩
  · subst c
    unfold U_X8_resoldBy_20 at hs
    obtain ⟨a0, g0, hs⟩ := s_bind hs
    obtain ⟨a1, g1, hs⟩ := s_bind hs
    obtain ⟨a2, g2, hs⟩ := s_bind hs
    obtain ⟨a3, g3, hs⟩ := s_bind hs
    obtain ⟨a4, g4, hs⟩ := s_bind hs
    obtain ⟨a5, g5, hs⟩ := s_bind hs
    obtain ⟨u9, ge, hs⟩ := s_bind hs
    exact l_X8_resoldBy_20 hs
  rcases s_ite hs with ⟨c, hs⟩ | ⟨-, hs⟩
  · subst c
    unfold U_X8_resoldBy_44 at hs
    obtain ⟨a0, g0, hs⟩ := s_bind hs
    obtain ⟨a1, g1, hs⟩ := s_bind hs
    obtain ⟨a2, g2, hs⟩ := s_bind hs
    obtain ⟨a3, g3, hs⟩ := s_bind hs
    obtain ⟨a4, g4, hs⟩ := s_bind hs
    obtain ⟨a5, g5, hs⟩ := s_bind hs
    obtain ⟨a6, g6, hs⟩ := s_bind hs
    obtain ⟨u9, ge, hs⟩ := s_bind hs
    exact l_X8_resoldBy_44 hs
  rcases s_ite hs with ⟨c, hs⟩ | ⟨-, hs⟩
  · subst c
    unfold U_X8_resoldBy_63 at hs
    obtain ⟨a0, g0, hs⟩ := s_bind hs
    obtain ⟨a1, g1, hs⟩ := s_bind hs
    obtain ⟨a2, g2, hs⟩ := s_bind hs
    obtain ⟨a3, g3, hs⟩ := s_bind hs
    obtain ⟨a4, g4, hs⟩ := s_bind hs
    obtain ⟨a5, g5, hs⟩ := s_bind hs
    obtain ⟨u9, ge, hs⟩ := s_bind hs
    exact l_X8_resoldBy_63 hs
  cases hs
theorem l_X8_resoldBy {v0 : Nat} {v1 : Int32} {v2 : Int32} {v3 : Int32} {σ : sS} {q : Int32 × sS} (h : F_X8_resoldBy v0 v1 v2 v3 σ = some q) : s_le σ q.2 := by
  unfold F_X8_resoldBy at h
  obtain ⟨-, -, h⟩ := s_bind h
  exact s_run_ind (V := fun x r => s_le x.2.2 r.2) (fun x z r hs hk => by
    have h9 := l_X8_resoldBy_s hs
    cases z with
    | inl y => exact s_le.tr h9 hk
    | inr q => cases hk; exact h9) h
theorem b_X8_resoldBy {v0 : Nat} {v1 : Int32} {v2 : Int32} {v3 : Int32} {σ : sS} {q : Int32 × sS} (h : F_X8_resoldBy v0 v1 v2 v3 σ = some q) : ∃ fs, σ.1 v0 = some (.inr (8, fs)) := by
  unfold F_X8_resoldBy at h
  obtain ⟨u, hu, -⟩ := s_bind h
  exact s_is_to hu
set_option maxRecDepth 100000 in
set_option maxHeartbeats 4000000 in
theorem v_X8_resoldBy_0 {G : sG} {d : Nat} {vs0 : List Value} {σ0 : sS} {v0 : Nat} {v1 : Int32} {v2 : Int32} {v3 : Int32} {σ : sS} {z : sZ Int32} {r : Int32 × sS} (hf : T_X8_resoldBy_0 v0 v1 v2 v3 σ = some z) (k : s_K G (d + 8) M_X8_resoldBy vs0 σ0 Y_X8_resoldBy e_I z r) : s_V G (d + 8) M_X8_resoldBy vs0 σ0 Y_X8_resoldBy (0, [.ref v0, .int v1, .int v2, .int v3], σ) (e_I r) := by
  have le0 : s_le σ (e_I r).2 := s_lek hem_I (l_X8_resoldBy_0 hf) k
  refine ⟨le0, ?_⟩
  intro p e s m below meth c H locs cells slots ls X I hn1 hn2 hl
  have hn : cells + σ0.2.1 ≤ σ.2.1 ∧ slots + σ0.2.2.1 ≤ σ.2.2.1 := ⟨hn1, hn2⟩
  have hl : lv_has ls 7 [(0, .ref v0), (1, .int v1), (2, .int v2), (3, .int v3)] := hl
  have hx := X.1
  have hb : c.code = cX8_resoldBy := X.2.1
  have hown : s.vm.findClass RX8 = some m.cls := X.2.2.2.2.2.1
  have hts := X.2.2.2.2.2.2.1
  refine W.eq (g2 := F0 m 0 ls []) rfl ?_
  unfold T_X8_resoldBy_0 at hf
  obtain ⟨q1, h1, hf⟩ := s_bind hf
  have le2 : s_le q1.2 (e_I r).2 := by
    refine s_lek hem_I ?_ k
    rcases s_ite hf with ⟨-, hf⟩ | ⟨-, hf⟩
    · cases hf
      exact s_le.rf
    · cases hf
      exact s_le.rf
  refine lv_aload_n hx hb dX8_resoldBy_0 rfl (lv_at hl 0 rfl) ?_
  refine lv_iload_n hx hb dX8_resoldBy_1 rfl (lv_at hl 1 rfl) ?_
  refine lv_bipush (v := 15) hx hb dX8_resoldBy_2 (by decide) ?_
  refine r_callV (Y := M_X8_hasRule) (v := some (.int q1.1)) X I w_2035 my_X8_hasRule (by omega) (t_X8_hasRule (G := G) (d := d + 6) h1) (b_X8_hasRule h1) rfl rfl hl.1 rfl (Nat.le_of_ble_eq_true rfl) hn le2 dX8_resoldBy_4 (fun H locs cells slots I hn1 hn2 => ?_)
  have I : s_I G q1.2 s H locs := I
  have hn : cells + σ0.2.1 ≤ q1.2.2.1 ∧ slots + σ0.2.2.1 ≤ q1.2.2.2.1 := ⟨hn1, hn2⟩
  rcases s_ite hf with ⟨c3, hf⟩ | ⟨c3, hf⟩
  · refine lv_if_ne (tgt := 12) hx hb dX8_resoldBy_7 (by decide) (fun n => absurd c3 n) (fun _ => ?_)
    cases hf
    have k : _ = r := k
    subst k
    refine lv_iconst (v := (-1)) hx hb dX8_resoldBy_10 (by decide) ?_
    exact r_iret X I rfl rfl rfl hn dX8_resoldBy_11
  · refine lv_if_ne (tgt := 12) hx hb dX8_resoldBy_7 (by decide) (fun _ => ?_) (fun n => absurd n c3)
    cases hf
    have k : s_V G (d + 8) M_X8_resoldBy vs0 σ0 Y_X8_resoldBy (20, [.ref v0, .int v1, .int v2, .int v3, .int 268435456, .int 0], q1.2) (e_I r) := k
    refine lv_ldcw (own := RX8) hx hb hown (hts _ w_2248) dX8_resoldBy_12 ?_
    refine lv_istore (lv' := [(4, .int 268435456), (0, .ref v0), (1, .int v1), (2, .int v2), (3, .int v3)]) hx hb dX8_resoldBy_15 hl (by decide) rfl (fun ls hl => ?_)
    refine lv_iconst (v := 0) hx hb dX8_resoldBy_17 (by decide) ?_
    refine lv_istore (lv' := [(5, .int 0), (4, .int 268435456), (0, .ref v0), (1, .int v1), (2, .int v2), (3, .int v3)]) hx hb dX8_resoldBy_18 hl (by decide) rfl (fun ls hl => ?_)
    exact k.2 p e s m below meth c _ _ _ _ _ X I hn.1 hn.2 (lv_sub hl [2, 3, 4, 5, 1, 0] rfl)
set_option maxRecDepth 100000 in
set_option maxHeartbeats 4000000 in
theorem v_X8_resoldBy_20 {G : sG} {d : Nat} {vs0 : List Value} {σ0 : sS} {v0 : Nat} {v1 : Int32} {v2 : Int32} {v3 : Int32} {v4 : Int32} {v5 : Int32} {σ : sS} {z : sZ Int32} {r : Int32 × sS} (hf : T_X8_resoldBy_20 v0 v1 v2 v3 v4 v5 σ = some z) (k : s_K G (d + 8) M_X8_resoldBy vs0 σ0 Y_X8_resoldBy e_I z r) : s_V G (d + 8) M_X8_resoldBy vs0 σ0 Y_X8_resoldBy (20, [.ref v0, .int v1, .int v2, .int v3, .int v4, .int v5], σ) (e_I r) := by
  have le0 : s_le σ (e_I r).2 := s_lek hem_I (l_X8_resoldBy_20 hf) k
  refine ⟨le0, ?_⟩
  intro p e s m below meth c H locs cells slots ls X I hn1 hn2 hl
  have hn : cells + σ0.2.1 ≤ σ.2.1 ∧ slots + σ0.2.2.1 ≤ σ.2.2.1 := ⟨hn1, hn2⟩
  have hl : lv_has ls 7 [(0, .ref v0), (1, .int v1), (2, .int v2), (3, .int v3), (4, .int v4), (5, .int v5)] := hl
  have hx := X.1
  have hb : c.code = cX8_resoldBy := X.2.1
  have hown : s.vm.findClass RX8 = some m.cls := X.2.2.2.2.2.1
  have hts := X.2.2.2.2.2.2.1
  refine W.eq (g2 := F0 m 20 ls []) rfl ?_
  unfold T_X8_resoldBy_20 at hf
  refine lv_iload hx hb dX8_resoldBy_20 (lv_at hl 5 rfl) ?_
  refine lv_iconst (v := 3) hx hb dX8_resoldBy_22 (by decide) ?_
  rcases s_ite hf with ⟨c1, hf⟩ | ⟨c1, hf⟩
  · refine lv_icmp_ge (tgt := 71) hx hb dX8_resoldBy_23 (by decide) (fun _ => ?_) (fun n => absurd c1 n)
    refine lv_iload hx hb dX8_resoldBy_71 (lv_at hl 4 rfl) ?_
    refine lv_ldcw (own := RX8) hx hb hown (hts _ w_2248) dX8_resoldBy_73 ?_
    rcases s_ite hf with ⟨c2, hf⟩ | ⟨c2, hf⟩
    · refine lv_icmp_lt (tgt := 83) hx hb dX8_resoldBy_76 (by decide) (fun _ => ?_) (fun n => absurd c2 n)
      obtain ⟨q1, h3, hf⟩ := s_bind hf
      cases hf
      have k : _ = r := k
      subst k
      have le4 : s_le q1.2 q1.2 := s_le.rf
      refine lv_iload hx hb dX8_resoldBy_83 (lv_at hl 4 rfl) ?_
      refine lv_aload_n hx hb dX8_resoldBy_85 rfl (lv_at hl 0 rfl) ?_
      refine lv_iload_n hx hb dX8_resoldBy_86 rfl (lv_at hl 1 rfl) ?_
      refine lv_bipush (v := 15) hx hb dX8_resoldBy_87 (by decide) ?_
      refine lv_iload_n hx hb dX8_resoldBy_89 rfl (lv_at hl 3 rfl) ?_
      refine r_callV (Y := M_X8_costOf) (v := some (.int q1.1)) X I w_2019 my_X8_costOf (by omega) (t_X8_costOf (G := G) (d := d + 6) h3) (b_X8_costOf h3) rfl rfl hl.1 rfl (Nat.le_of_ble_eq_true rfl) hn le4 dX8_resoldBy_90 (fun H locs cells slots I hn1 hn2 => ?_)
      have I : s_I G q1.2 s H locs := I
      have hn : cells + σ0.2.1 ≤ q1.2.2.1 ∧ slots + σ0.2.2.1 ≤ q1.2.2.2.1 := ⟨hn1, hn2⟩
      refine lv_iadd hx hb dX8_resoldBy_93 ?_
      exact r_iret X I rfl rfl rfl hn dX8_resoldBy_94
    · refine lv_icmp_lt (tgt := 83) hx hb dX8_resoldBy_76 (by decide) (fun n => absurd n c2) (fun _ => ?_)
      cases hf
      have k : _ = r := k
      subst k
      refine lv_iconst (v := (-1)) hx hb dX8_resoldBy_79 (by decide) ?_
      refine lv_goto (tgt := 94) hx hb dX8_resoldBy_80 (by decide) ?_
      exact r_iret X I rfl rfl rfl hn dX8_resoldBy_94
  · refine lv_icmp_ge (tgt := 71) hx hb dX8_resoldBy_23 (by decide) (fun n => absurd n c1) (fun _ => ?_)
    refine lv_iload hx hb dX8_resoldBy_26 (lv_at hl 5 rfl) ?_
    refine lv_iload_n hx hb dX8_resoldBy_28 rfl (lv_at hl 1 rfl) ?_
    rcases s_ite hf with ⟨c5, hf⟩ | ⟨c5, hf⟩
    · refine lv_icmp_ne (tgt := 36) hx hb dX8_resoldBy_29 (by decide) (fun n => absurd c5 n) (fun _ => ?_)
      cases hf
      have k : s_V G (d + 8) M_X8_resoldBy vs0 σ0 Y_X8_resoldBy (44, [.ref v0, .int v1, .int v2, .int v3, .int v4, .int v5, .int (-1)], σ) (e_I r) := k
      refine lv_iconst (v := (-1)) hx hb dX8_resoldBy_32 (by decide) ?_
      refine lv_goto (tgt := 44) hx hb dX8_resoldBy_33 (by decide) ?_
      exact k.2 p e s m below meth c _ _ _ _ _ X I hn.1 hn.2 (lv_sub hl [0, 1, 2, 3, 4, 5] rfl)
    · refine lv_icmp_ne (tgt := 36) hx hb dX8_resoldBy_29 (by decide) (fun _ => ?_) (fun n => absurd n c5)
      obtain ⟨q2, h6, hf⟩ := s_bind hf
      cases hf
      have k : s_V G (d + 8) M_X8_resoldBy vs0 σ0 Y_X8_resoldBy (44, [.ref v0, .int v1, .int v2, .int v3, .int v4, .int v5, .int q2.1], q2.2) (e_I r) := k
      have le7 : s_le q2.2 (e_I r).2 := k.1
      refine lv_aload_n hx hb dX8_resoldBy_36 rfl (lv_at hl 0 rfl) ?_
      refine lv_iload hx hb dX8_resoldBy_37 (lv_at hl 5 rfl) ?_
      refine lv_iload_n hx hb dX8_resoldBy_39 rfl (lv_at hl 2 rfl) ?_
      refine lv_iload_n hx hb dX8_resoldBy_40 rfl (lv_at hl 3 rfl) ?_
      refine r_callV (Y := M_X8_costs) (v := some (.int q2.1)) X I w_2212 my_X8_costs (by omega) (t_X8_costs (G := G) (d := d + 0) h6) (b_X8_costs h6) rfl rfl hl.1 rfl (Nat.le_of_ble_eq_true rfl) hn le7 dX8_resoldBy_41 (fun H locs cells slots I hn1 hn2 => ?_)
      have I : s_I G q2.2 s H locs := I
      have hn : cells + σ0.2.1 ≤ q2.2.2.1 ∧ slots + σ0.2.2.1 ≤ q2.2.2.2.1 := ⟨hn1, hn2⟩
      exact k.2 p e s m below meth c _ _ _ _ _ X I hn.1 hn.2 (lv_sub hl [0, 1, 2, 3, 4, 5] rfl)
set_option maxRecDepth 100000 in
set_option maxHeartbeats 4000000 in
theorem v_X8_resoldBy_44 {G : sG} {d : Nat} {vs0 : List Value} {σ0 : sS} {v0 : Nat} {v1 : Int32} {v2 : Int32} {v3 : Int32} {v4 : Int32} {v5 : Int32} {w0 : Int32} {σ : sS} {z : sZ Int32} {r : Int32 × sS} (hf : T_X8_resoldBy_44 v0 v1 v2 v3 v4 v5 w0 σ = some z) (k : s_K G (d + 8) M_X8_resoldBy vs0 σ0 Y_X8_resoldBy e_I z r) : s_V G (d + 8) M_X8_resoldBy vs0 σ0 Y_X8_resoldBy (44, [.ref v0, .int v1, .int v2, .int v3, .int v4, .int v5, .int w0], σ) (e_I r) := by
  have le0 : s_le σ (e_I r).2 := s_lek hem_I (l_X8_resoldBy_44 hf) k
  refine ⟨le0, ?_⟩
  intro p e s m below meth c H locs cells slots ls X I hn1 hn2 hl
  have hn : cells + σ0.2.1 ≤ σ.2.1 ∧ slots + σ0.2.2.1 ≤ σ.2.2.1 := ⟨hn1, hn2⟩
  have hl : lv_has ls 7 [(0, .ref v0), (1, .int v1), (2, .int v2), (3, .int v3), (4, .int v4), (5, .int v5)] := hl
  have hx := X.1
  have hb : c.code = cX8_resoldBy := X.2.1
  have hown : s.vm.findClass RX8 = some m.cls := X.2.2.2.2.2.1
  have hts := X.2.2.2.2.2.2.1
  refine W.eq (g2 := F0 m 44 ls [.int w0]) rfl ?_
  unfold T_X8_resoldBy_44 at hf
  refine lv_istore (lv' := [(6, .int w0), (0, .ref v0), (1, .int v1), (2, .int v2), (3, .int v3), (4, .int v4), (5, .int v5)]) hx hb dX8_resoldBy_44 hl (by decide) rfl (fun ls hl => ?_)
  refine lv_iload hx hb dX8_resoldBy_46 (lv_at hl 0 rfl) ?_
  rcases s_ite hf with ⟨c1, hf⟩ | ⟨c1, hf⟩
  · refine lv_if_ge (tgt := 56) hx hb dX8_resoldBy_48 (by decide) (fun _ => ?_) (fun n => absurd c1 n)
    cases hf
    have k : s_V G (d + 8) M_X8_resoldBy vs0 σ0 Y_X8_resoldBy (63, [.ref v0, .int v1, .int v2, .int v3, .int v5, .int (if w0 < v4 then w0 else v4)], σ) (e_I r) := k
    refine lv_iload hx hb dX8_resoldBy_56 (lv_at hl 5 rfl) ?_
    refine lv_iload hx hb dX8_resoldBy_58 (lv_at hl 0 rfl) ?_
    refine r_mmin X w_2264 w_765 w_179 w_766 hl.1 (Nat.le_of_ble_eq_true rfl) hn le0 dX8_resoldBy_60 ?_
    exact k.2 p e s m below meth c _ _ _ _ _ X I hn.1 hn.2 (lv_sub hl [1, 2, 3, 4, 6] rfl)
  · refine lv_if_ge (tgt := 56) hx hb dX8_resoldBy_48 (by decide) (fun n => absurd n c1) (fun _ => ?_)
    cases hf
    have k : s_V G (d + 8) M_X8_resoldBy vs0 σ0 Y_X8_resoldBy (63, [.ref v0, .int v1, .int v2, .int v3, .int v5, .int v4], σ) (e_I r) := k
    refine lv_iload hx hb dX8_resoldBy_51 (lv_at hl 5 rfl) ?_
    refine lv_goto (tgt := 63) hx hb dX8_resoldBy_53 (by decide) ?_
    exact k.2 p e s m below meth c _ _ _ _ _ X I hn.1 hn.2 (lv_sub hl [1, 2, 3, 4, 6] rfl)
set_option maxRecDepth 100000 in
set_option maxHeartbeats 4000000 in
theorem v_X8_resoldBy_63 {G : sG} {d : Nat} {vs0 : List Value} {σ0 : sS} {v0 : Nat} {v1 : Int32} {v2 : Int32} {v3 : Int32} {v5 : Int32} {w0 : Int32} {σ : sS} {z : sZ Int32} {r : Int32 × sS} (hf : T_X8_resoldBy_63 v0 v1 v2 v3 v5 w0 σ = some z) (k : s_K G (d + 8) M_X8_resoldBy vs0 σ0 Y_X8_resoldBy e_I z r) : s_V G (d + 8) M_X8_resoldBy vs0 σ0 Y_X8_resoldBy (63, [.ref v0, .int v1, .int v2, .int v3, .int v5, .int w0], σ) (e_I r) := by
  have le0 : s_le σ (e_I r).2 := s_lek hem_I (l_X8_resoldBy_63 hf) k
  refine ⟨le0, ?_⟩
  intro p e s m below meth c H locs cells slots ls X I hn1 hn2 hl
  have hn : cells + σ0.2.1 ≤ σ.2.1 ∧ slots + σ0.2.2.1 ≤ σ.2.2.1 := ⟨hn1, hn2⟩
  have hl : lv_has ls 7 [(0, .ref v0), (1, .int v1), (2, .int v2), (3, .int v3), (5, .int v5)] := hl
  have hx := X.1
  have hb : c.code = cX8_resoldBy := X.2.1
  have hown : s.vm.findClass RX8 = some m.cls := X.2.2.2.2.2.1
  have hts := X.2.2.2.2.2.2.1
  refine W.eq (g2 := F0 m 63 ls [.int w0]) rfl ?_
  unfold T_X8_resoldBy_63 at hf
  cases hf
  have k : s_V G (d + 8) M_X8_resoldBy vs0 σ0 Y_X8_resoldBy (20, [.ref v0, .int v1, .int v2, .int v3, .int w0, .int (v5 + 1)], σ) (e_I r) := k
  refine lv_istore (lv' := [(4, .int w0), (0, .ref v0), (1, .int v1), (2, .int v2), (3, .int v3), (5, .int v5)]) hx hb dX8_resoldBy_63 hl (by decide) rfl (fun ls hl => ?_)
  refine lv_iinc (v := (v5 + 1)) (lv' := [(5, .int (v5 + 1)), (4, .int w0), (0, .ref v0), (1, .int v1), (2, .int v2), (3, .int v3)]) hx hb dX8_resoldBy_65 hl (k := 5) rfl rfl (by decide) rfl (fun ls hl => ?_)
  refine lv_goto (tgt := 20) hx hb dX8_resoldBy_68 (by decide) ?_
  exact k.2 p e s m below meth c _ _ _ _ _ X I hn.1 hn.2 (lv_sub hl [2, 3, 4, 5, 1, 0] rfl)
theorem v_X8_resoldBy {G : sG} {d : Nat} {vs0 : List Value} {σ0 : sS} {x : sL} {z : sZ Int32} {r : Int32 × sS} (hs : S_X8_resoldBy x = some z) (k : s_K G (d + 8) M_X8_resoldBy vs0 σ0 Y_X8_resoldBy e_I z r) : s_V G (d + 8) M_X8_resoldBy vs0 σ0 Y_X8_resoldBy x (e_I r) := by
  obtain ⟨pc, vs, σ⟩ := x
  unfold S_X8_resoldBy at hs
  dsimp only at hs
  rcases s_ite hs with ⟨c, hs⟩ | ⟨-, hs⟩
  · subst c
    unfold U_X8_resoldBy_0 at hs
    obtain ⟨a0, g0, hs⟩ := s_bind hs
    obtain ⟨a1, g1, hs⟩ := s_bind hs
    obtain ⟨a2, g2, hs⟩ := s_bind hs
    obtain ⟨a3, g3, hs⟩ := s_bind hs
    obtain ⟨u9, ge, hs⟩ := s_bind hs
    rw [g_r_to g0, g_i_to g1, g_i_to g2, g_i_to g3, g_e_to ge]
    exact v_X8_resoldBy_0 hs k
  rcases s_ite hs with ⟨c, hs⟩ | ⟨-, hs⟩
  · subst c
    unfold U_X8_resoldBy_20 at hs
    obtain ⟨a0, g0, hs⟩ := s_bind hs
    obtain ⟨a1, g1, hs⟩ := s_bind hs
    obtain ⟨a2, g2, hs⟩ := s_bind hs
    obtain ⟨a3, g3, hs⟩ := s_bind hs
    obtain ⟨a4, g4, hs⟩ := s_bind hs
    obtain ⟨a5, g5, hs⟩ := s_bind hs
    obtain ⟨u9, ge, hs⟩ := s_bind hs
    rw [g_r_to g0, g_i_to g1, g_i_to g2, g_i_to g3, g_i_to g4, g_i_to g5, g_e_to ge]
    exact v_X8_resoldBy_20 hs k
  rcases s_ite hs with ⟨c, hs⟩ | ⟨-, hs⟩
  · subst c
    unfold U_X8_resoldBy_44 at hs
    obtain ⟨a0, g0, hs⟩ := s_bind hs
    obtain ⟨a1, g1, hs⟩ := s_bind hs
    obtain ⟨a2, g2, hs⟩ := s_bind hs
    obtain ⟨a3, g3, hs⟩ := s_bind hs
    obtain ⟨a4, g4, hs⟩ := s_bind hs
    obtain ⟨a5, g5, hs⟩ := s_bind hs
    obtain ⟨a6, g6, hs⟩ := s_bind hs
    obtain ⟨u9, ge, hs⟩ := s_bind hs
    rw [g_r_to g0, g_i_to g1, g_i_to g2, g_i_to g3, g_i_to g4, g_i_to g5, g_i_to g6, g_e_to ge]
    exact v_X8_resoldBy_44 hs k
  rcases s_ite hs with ⟨c, hs⟩ | ⟨-, hs⟩
  · subst c
    unfold U_X8_resoldBy_63 at hs
    obtain ⟨a0, g0, hs⟩ := s_bind hs
    obtain ⟨a1, g1, hs⟩ := s_bind hs
    obtain ⟨a2, g2, hs⟩ := s_bind hs
    obtain ⟨a3, g3, hs⟩ := s_bind hs
    obtain ⟨a4, g4, hs⟩ := s_bind hs
    obtain ⟨a5, g5, hs⟩ := s_bind hs
    obtain ⟨u9, ge, hs⟩ := s_bind hs
    rw [g_r_to g0, g_i_to g1, g_i_to g2, g_i_to g3, g_i_to g4, g_i_to g5, g_e_to ge]
    exact v_X8_resoldBy_63 hs k
  cases hs
theorem t_X8_resoldBy {G : sG} {d : Nat} {v0 : Nat} {v1 : Int32} {v2 : Int32} {v3 : Int32} {σ : sS} {q : Int32 × sS} (h : F_X8_resoldBy v0 v1 v2 v3 σ = some q) : s_T G (d + 8) M_X8_resoldBy [.ref v0, .int v1, .int v2, .int v3] σ (e_I q) := by
  unfold F_X8_resoldBy at h
  obtain ⟨-, -, h⟩ := s_bind h
  exact s_ofV rfl (by decide) (Nat.le_of_ble_eq_true rfl) rfl rfl (s_run_ind (V := fun x r => s_V G (d + 8) M_X8_resoldBy [.ref v0, .int v1, .int v2, .int v3] σ Y_X8_resoldBy x (e_I r)) (fun x z r hs hk => v_X8_resoldBy hs (by cases z <;> exact hk)) h)
/-! X8_resold -/
noncomputable def T_X8_resold_0 (v0 : Nat) (v1 : Int32) (v2 : Int32) (v3 : Int32) (σ : sS) : Option (sZ Int32) :=
  (s_pf σ v0 8 0 (.int 0)).bind fun σ1 =>
  (F_X8_noProof v0 v1 v2 v3 σ1).bind fun q2 =>
  (F_X8_throwsIf v0 q2.1 1 q2.2).bind fun q3 =>
  if q3.1 = 0 then ((F_X8_resoldBy v0 v1 v2 v3 q3.2).bind fun q4 =>
  some (.inr (q4.1, q4.2)))
  else (some (.inr (0, q3.2)))
noncomputable def U_X8_resold_0 (vs : List Value) (σ : sS) : Option (sZ Int32) := (g_r vs).bind fun a0 => (g_i a0.2).bind fun a1 => (g_i a1.2).bind fun a2 => (g_i a2.2).bind fun a3 => (g_e a3.2).bind fun _ => T_X8_resold_0 a0.1 a1.1 a2.1 a3.1 σ
noncomputable def S_X8_resold (x : sL) : Option (sZ Int32) := if x.1 = 0 then U_X8_resold_0 x.2.1 x.2.2 else none
def Y_X8_resold (pc : Nat) : List Nat := if pc = 0 then [0, 1, 2, 3] else []
noncomputable def F_X8_resold (v0 : Nat) (v1 : Int32) (v2 : Int32) (v3 : Int32) (σ : sS) : Option (Int32 × sS) := (s_is σ v0 8).bind fun _ => s_run S_X8_resold (0, [.ref v0, .int v1, .int v2, .int v3], σ)
theorem l_X8_resold_0 {v0 : Nat} {v1 : Int32} {v2 : Int32} {v3 : Int32} {σ : sS} {z : sZ Int32} (hf : T_X8_resold_0 v0 v1 v2 v3 σ = some z) : s_lz σ z := by
  unfold T_X8_resold_0 at hf
  obtain ⟨σ1, hh, hf⟩ := s_bind hf
  refine s_lz.tr (s_le2 (s_pf_2 hh)) ?_
  obtain ⟨q2, hh, hf⟩ := s_bind hf
  refine s_lz.tr (l_X8_noProof hh) ?_
  obtain ⟨q3, hh, hf⟩ := s_bind hf
  refine s_lz.tr (l_X8_throwsIf hh) ?_
  rcases s_ite hf with ⟨-, hf⟩ | ⟨-, hf⟩
  · obtain ⟨q4, hh, hf⟩ := s_bind hf
    refine s_lz.tr (l_X8_resoldBy hh) ?_
    cases hf
    exact s_le.rf
  · cases hf
    exact s_le.rf
theorem l_X8_resold_s {x : sL} {z : sZ Int32} (hs : S_X8_resold x = some z) : s_lz x.2.2 z := by
  obtain ⟨pc, vs, σ⟩ := x
  unfold S_X8_resold at hs
  dsimp only at hs ⊢
  rcases s_ite hs with ⟨c, hs⟩ | ⟨-, hs⟩
  · subst c
    unfold U_X8_resold_0 at hs
    obtain ⟨a0, g0, hs⟩ := s_bind hs
    obtain ⟨a1, g1, hs⟩ := s_bind hs
    obtain ⟨a2, g2, hs⟩ := s_bind hs
    obtain ⟨a3, g3, hs⟩ := s_bind hs
    obtain ⟨u9, ge, hs⟩ := s_bind hs
    exact l_X8_resold_0 hs
  cases hs
theorem l_X8_resold {v0 : Nat} {v1 : Int32} {v2 : Int32} {v3 : Int32} {σ : sS} {q : Int32 × sS} (h : F_X8_resold v0 v1 v2 v3 σ = some q) : s_le σ q.2 := by
  unfold F_X8_resold at h
  obtain ⟨-, -, h⟩ := s_bind h
  exact s_run_ind (V := fun x r => s_le x.2.2 r.2) (fun x z r hs hk => by
    have h9 := l_X8_resold_s hs
    cases z with
    | inl y => exact s_le.tr h9 hk
    | inr q => cases hk; exact h9) h
theorem b_X8_resold {v0 : Nat} {v1 : Int32} {v2 : Int32} {v3 : Int32} {σ : sS} {q : Int32 × sS} (h : F_X8_resold v0 v1 v2 v3 σ = some q) : ∃ fs, σ.1 v0 = some (.inr (8, fs)) := by
  unfold F_X8_resold at h
  obtain ⟨u, hu, -⟩ := s_bind h
  exact s_is_to hu
set_option maxRecDepth 100000 in
set_option maxHeartbeats 4000000 in
theorem v_X8_resold_0 {G : sG} {d : Nat} {vs0 : List Value} {σ0 : sS} {v0 : Nat} {v1 : Int32} {v2 : Int32} {v3 : Int32} {σ : sS} {z : sZ Int32} {r : Int32 × sS} (hf : T_X8_resold_0 v0 v1 v2 v3 σ = some z) (k : s_K G (d + 9) M_X8_resold vs0 σ0 Y_X8_resold e_I z r) : s_V G (d + 9) M_X8_resold vs0 σ0 Y_X8_resold (0, [.ref v0, .int v1, .int v2, .int v3], σ) (e_I r) := by
  have le0 : s_le σ (e_I r).2 := s_lek hem_I (l_X8_resold_0 hf) k
  refine ⟨le0, ?_⟩
  intro p e s m below meth c H locs cells slots ls X I hn1 hn2 hl
  have hn : cells + σ0.2.1 ≤ σ.2.1 ∧ slots + σ0.2.2.1 ≤ σ.2.2.1 := ⟨hn1, hn2⟩
  have hl : lv_has ls 4 [(0, .ref v0), (1, .int v1), (2, .int v2), (3, .int v3)] := hl
  have hx := X.1
  have hb : c.code = cX8_resold := X.2.1
  have hown : s.vm.findClass RX8 = some m.cls := X.2.2.2.2.2.1
  have hts := X.2.2.2.2.2.2.1
  refine W.eq (g2 := F0 m 0 ls []) rfl ?_
  unfold T_X8_resold_0 at hf
  obtain ⟨σ1, h1, hf⟩ := s_bind hf
  obtain ⟨q2, h2, hf⟩ := s_bind hf
  obtain ⟨q3, h3, hf⟩ := s_bind hf
  have le4 : s_le q3.2 (e_I r).2 := by
    refine s_lek hem_I ?_ k
    rcases s_ite hf with ⟨-, hf⟩ | ⟨-, hf⟩
    · obtain ⟨q4, hh, hf⟩ := s_bind hf
      refine s_lz.tr (l_X8_resoldBy hh) ?_
      cases hf
      exact s_le.rf
    · cases hf
      exact s_le.rf
  have le5 := s_le.tr (l_X8_throwsIf h3) le4
  have le6 := s_le.tr (l_X8_noProof h2) le5
  refine lv_aload_n hx hb dX8_resold_0 rfl (lv_at hl 0 rfl) ?_
  refine lv_iconst (v := 0) hx hb dX8_resold_1 (by decide) ?_
  refine r_put X I fp_X8_3 (fun h => by cases h) h1 rfl rfl dX8_resold_2 (fun H locs I => ?_)
  have hn := s_k2 (s_pf_2 h1) hn
  refine lv_aload_n hx hb dX8_resold_5 rfl (lv_at hl 0 rfl) ?_
  refine lv_aload_n hx hb dX8_resold_6 rfl (lv_at hl 0 rfl) ?_
  refine lv_iload_n hx hb dX8_resold_7 rfl (lv_at hl 1 rfl) ?_
  refine lv_iload_n hx hb dX8_resold_8 rfl (lv_at hl 2 rfl) ?_
  refine lv_iload_n hx hb dX8_resold_9 rfl (lv_at hl 3 rfl) ?_
  refine r_callV (Y := M_X8_noProof) (v := some (.int q2.1)) X I w_2208 my_X8_noProof (by omega) (t_X8_noProof (G := G) (d := d + 5) h2) (b_X8_noProof h2) rfl rfl hl.1 rfl (Nat.le_of_ble_eq_true rfl) hn le5 dX8_resold_10 (fun H locs cells slots I hn1 hn2 => ?_)
  have I : s_I G q2.2 s H locs := I
  have hn : cells + σ0.2.1 ≤ q2.2.2.1 ∧ slots + σ0.2.2.1 ≤ q2.2.2.2.1 := ⟨hn1, hn2⟩
  refine lv_iconst (v := 1) hx hb dX8_resold_13 (by decide) ?_
  refine r_callV (Y := M_X8_throwsIf) (v := some (.int q3.1)) X I w_1897 my_X8_throwsIf (by omega) (t_X8_throwsIf (G := G) (d := d + 7) h3) (b_X8_throwsIf h3) rfl rfl hl.1 rfl (Nat.le_of_ble_eq_true rfl) hn le4 dX8_resold_14 (fun H locs cells slots I hn1 hn2 => ?_)
  have I : s_I G q3.2 s H locs := I
  have hn : cells + σ0.2.1 ≤ q3.2.2.1 ∧ slots + σ0.2.2.1 ≤ q3.2.2.2.1 := ⟨hn1, hn2⟩
  rcases s_ite hf with ⟨c7, hf⟩ | ⟨c7, hf⟩
  · refine lv_if_eq (tgt := 24) hx hb dX8_resold_17 (by decide) (fun _ => ?_) (fun n => absurd c7 n)
    obtain ⟨q4, h8, hf⟩ := s_bind hf
    cases hf
    have k : _ = r := k
    subst k
    have le9 : s_le q4.2 q4.2 := s_le.rf
    refine lv_aload_n hx hb dX8_resold_24 rfl (lv_at hl 0 rfl) ?_
    refine lv_iload_n hx hb dX8_resold_25 rfl (lv_at hl 1 rfl) ?_
    refine lv_iload_n hx hb dX8_resold_26 rfl (lv_at hl 2 rfl) ?_
    refine lv_iload_n hx hb dX8_resold_27 rfl (lv_at hl 3 rfl) ?_
    refine r_callV (Y := M_X8_resoldBy) (v := some (.int q4.1)) X I w_2282 my_X8_resoldBy (by omega) (t_X8_resoldBy (G := G) (d := d + 0) h8) (b_X8_resoldBy h8) rfl rfl hl.1 rfl (Nat.le_of_ble_eq_true rfl) hn le9 dX8_resold_28 (fun H locs cells slots I hn1 hn2 => ?_)
    have I : s_I G q4.2 s H locs := I
    have hn : cells + σ0.2.1 ≤ q4.2.2.1 ∧ slots + σ0.2.2.1 ≤ q4.2.2.2.1 := ⟨hn1, hn2⟩
    exact r_iret X I rfl rfl rfl hn dX8_resold_31
  · refine lv_if_eq (tgt := 24) hx hb dX8_resold_17 (by decide) (fun n => absurd n c7) (fun _ => ?_)
    cases hf
    have k : _ = r := k
    subst k
    refine lv_iconst (v := 0) hx hb dX8_resold_20 (by decide) ?_
    refine lv_goto (tgt := 31) hx hb dX8_resold_21 (by decide) ?_
    exact r_iret X I rfl rfl rfl hn dX8_resold_31
theorem v_X8_resold {G : sG} {d : Nat} {vs0 : List Value} {σ0 : sS} {x : sL} {z : sZ Int32} {r : Int32 × sS} (hs : S_X8_resold x = some z) (k : s_K G (d + 9) M_X8_resold vs0 σ0 Y_X8_resold e_I z r) : s_V G (d + 9) M_X8_resold vs0 σ0 Y_X8_resold x (e_I r) := by
  obtain ⟨pc, vs, σ⟩ := x
  unfold S_X8_resold at hs
  dsimp only at hs
  rcases s_ite hs with ⟨c, hs⟩ | ⟨-, hs⟩
  · subst c
    unfold U_X8_resold_0 at hs
    obtain ⟨a0, g0, hs⟩ := s_bind hs
    obtain ⟨a1, g1, hs⟩ := s_bind hs
    obtain ⟨a2, g2, hs⟩ := s_bind hs
    obtain ⟨a3, g3, hs⟩ := s_bind hs
    obtain ⟨u9, ge, hs⟩ := s_bind hs
    rw [g_r_to g0, g_i_to g1, g_i_to g2, g_i_to g3, g_e_to ge]
    exact v_X8_resold_0 hs k
  cases hs
theorem t_X8_resold {G : sG} {d : Nat} {v0 : Nat} {v1 : Int32} {v2 : Int32} {v3 : Int32} {σ : sS} {q : Int32 × sS} (h : F_X8_resold v0 v1 v2 v3 σ = some q) : s_T G (d + 9) M_X8_resold [.ref v0, .int v1, .int v2, .int v3] σ (e_I q) := by
  unfold F_X8_resold at h
  obtain ⟨-, -, h⟩ := s_bind h
  exact s_ofV rfl (by decide) (Nat.le_of_ble_eq_true rfl) rfl rfl (s_run_ind (V := fun x r => s_V G (d + 9) M_X8_resold [.ref v0, .int v1, .int v2, .int v3] σ Y_X8_resold x (e_I r)) (fun x z r hs hk => v_X8_resold hs (by cases z <;> exact hk)) h)
/-! X8_forward -/
noncomputable def T_X8_forward_0 (v0 : Nat) (v1 : Int32) (v2 : Int32) (v3 : Int32) (σ : sS) : Option (sZ Int32) :=
  (s_pf σ v0 8 0 (.int 0)).bind fun σ1 =>
  (F_X8_noProof v0 v1 v2 v3 σ1).bind fun q2 =>
  (F_X8_throwsIf v0 q2.1 1 q2.2).bind fun q3 =>
  if q3.1 = 0 then ((F_X8_costs v0 v1 v2 v3 q3.2).bind fun q4 =>
  (F_X8_resoldBy v0 v1 v2 v3 q4.2).bind fun q5 =>
  if (0 : Int32) ≤ q4.1 then (if (0 : Int32) ≤ q5.1 then (some (.inr ((if 0 < (q4.1 - q5.1) then (q4.1 - q5.1) else 0), q5.2)))
  else (some (.inr (0, q5.2))))
  else (some (.inr ((-1), q5.2))))
  else (some (.inr (0, q3.2)))
noncomputable def U_X8_forward_0 (vs : List Value) (σ : sS) : Option (sZ Int32) := (g_r vs).bind fun a0 => (g_i a0.2).bind fun a1 => (g_i a1.2).bind fun a2 => (g_i a2.2).bind fun a3 => (g_e a3.2).bind fun _ => T_X8_forward_0 a0.1 a1.1 a2.1 a3.1 σ
noncomputable def S_X8_forward (x : sL) : Option (sZ Int32) := if x.1 = 0 then U_X8_forward_0 x.2.1 x.2.2 else none
def Y_X8_forward (pc : Nat) : List Nat := if pc = 0 then [0, 1, 2, 3] else []
noncomputable def F_X8_forward (v0 : Nat) (v1 : Int32) (v2 : Int32) (v3 : Int32) (σ : sS) : Option (Int32 × sS) := (s_is σ v0 8).bind fun _ => s_run S_X8_forward (0, [.ref v0, .int v1, .int v2, .int v3], σ)
theorem l_X8_forward_0 {v0 : Nat} {v1 : Int32} {v2 : Int32} {v3 : Int32} {σ : sS} {z : sZ Int32} (hf : T_X8_forward_0 v0 v1 v2 v3 σ = some z) : s_lz σ z := by
  unfold T_X8_forward_0 at hf
  obtain ⟨σ1, hh, hf⟩ := s_bind hf
  refine s_lz.tr (s_le2 (s_pf_2 hh)) ?_
  obtain ⟨q2, hh, hf⟩ := s_bind hf
  refine s_lz.tr (l_X8_noProof hh) ?_
  obtain ⟨q3, hh, hf⟩ := s_bind hf
  refine s_lz.tr (l_X8_throwsIf hh) ?_
  rcases s_ite hf with ⟨-, hf⟩ | ⟨-, hf⟩
  · obtain ⟨q4, hh, hf⟩ := s_bind hf
    refine s_lz.tr (l_X8_costs hh) ?_
    obtain ⟨q5, hh, hf⟩ := s_bind hf
    refine s_lz.tr (l_X8_resoldBy hh) ?_
    rcases s_ite hf with ⟨-, hf⟩ | ⟨-, hf⟩
    · rcases s_ite hf with ⟨-, hf⟩ | ⟨-, hf⟩
      · cases hf
        exact s_le.rf
      · cases hf
        exact s_le.rf
    · cases hf
      exact s_le.rf
  · cases hf
    exact s_le.rf
theorem l_X8_forward_s {x : sL} {z : sZ Int32} (hs : S_X8_forward x = some z) : s_lz x.2.2 z := by
  obtain ⟨pc, vs, σ⟩ := x
  unfold S_X8_forward at hs
  dsimp only at hs ⊢
  rcases s_ite hs with ⟨c, hs⟩ | ⟨-, hs⟩
  · subst c
    unfold U_X8_forward_0 at hs
    obtain ⟨a0, g0, hs⟩ := s_bind hs
    obtain ⟨a1, g1, hs⟩ := s_bind hs
    obtain ⟨a2, g2, hs⟩ := s_bind hs
    obtain ⟨a3, g3, hs⟩ := s_bind hs
    obtain ⟨u9, ge, hs⟩ := s_bind hs
    exact l_X8_forward_0 hs
  cases hs
theorem l_X8_forward {v0 : Nat} {v1 : Int32} {v2 : Int32} {v3 : Int32} {σ : sS} {q : Int32 × sS} (h : F_X8_forward v0 v1 v2 v3 σ = some q) : s_le σ q.2 := by
  unfold F_X8_forward at h
  obtain ⟨-, -, h⟩ := s_bind h
  exact s_run_ind (V := fun x r => s_le x.2.2 r.2) (fun x z r hs hk => by
    have h9 := l_X8_forward_s hs
    cases z with
    | inl y => exact s_le.tr h9 hk
    | inr q => cases hk; exact h9) h
theorem b_X8_forward {v0 : Nat} {v1 : Int32} {v2 : Int32} {v3 : Int32} {σ : sS} {q : Int32 × sS} (h : F_X8_forward v0 v1 v2 v3 σ = some q) : ∃ fs, σ.1 v0 = some (.inr (8, fs)) := by
  unfold F_X8_forward at h
  obtain ⟨u, hu, -⟩ := s_bind h
  exact s_is_to hu
set_option maxRecDepth 100000 in
set_option maxHeartbeats 4000000 in
theorem v_X8_forward_0 {G : sG} {d : Nat} {vs0 : List Value} {σ0 : sS} {v0 : Nat} {v1 : Int32} {v2 : Int32} {v3 : Int32} {σ : sS} {z : sZ Int32} {r : Int32 × sS} (hf : T_X8_forward_0 v0 v1 v2 v3 σ = some z) (k : s_K G (d + 9) M_X8_forward vs0 σ0 Y_X8_forward e_I z r) : s_V G (d + 9) M_X8_forward vs0 σ0 Y_X8_forward (0, [.ref v0, .int v1, .int v2, .int v3], σ) (e_I r) := by
  have le0 : s_le σ (e_I r).2 := s_lek hem_I (l_X8_forward_0 hf) k
  refine ⟨le0, ?_⟩
  intro p e s m below meth c H locs cells slots ls X I hn1 hn2 hl
  have hn : cells + σ0.2.1 ≤ σ.2.1 ∧ slots + σ0.2.2.1 ≤ σ.2.2.1 := ⟨hn1, hn2⟩
  have hl : lv_has ls 6 [(0, .ref v0), (1, .int v1), (2, .int v2), (3, .int v3)] := hl
  have hx := X.1
  have hb : c.code = cX8_forward := X.2.1
  have hown : s.vm.findClass RX8 = some m.cls := X.2.2.2.2.2.1
  have hts := X.2.2.2.2.2.2.1
  refine W.eq (g2 := F0 m 0 ls []) rfl ?_
  unfold T_X8_forward_0 at hf
  obtain ⟨σ1, h1, hf⟩ := s_bind hf
  obtain ⟨q2, h2, hf⟩ := s_bind hf
  obtain ⟨q3, h3, hf⟩ := s_bind hf
  have le4 : s_le q3.2 (e_I r).2 := by
    refine s_lek hem_I ?_ k
    rcases s_ite hf with ⟨-, hf⟩ | ⟨-, hf⟩
    · obtain ⟨q4, hh, hf⟩ := s_bind hf
      refine s_lz.tr (l_X8_costs hh) ?_
      obtain ⟨q5, hh, hf⟩ := s_bind hf
      refine s_lz.tr (l_X8_resoldBy hh) ?_
      rcases s_ite hf with ⟨-, hf⟩ | ⟨-, hf⟩
      · rcases s_ite hf with ⟨-, hf⟩ | ⟨-, hf⟩
        · cases hf
          exact s_le.rf
        · cases hf
          exact s_le.rf
      · cases hf
        exact s_le.rf
    · cases hf
      exact s_le.rf
  have le5 := s_le.tr (l_X8_throwsIf h3) le4
  have le6 := s_le.tr (l_X8_noProof h2) le5
  refine lv_aload_n hx hb dX8_forward_0 rfl (lv_at hl 0 rfl) ?_
  refine lv_iconst (v := 0) hx hb dX8_forward_1 (by decide) ?_
  refine r_put X I fp_X8_3 (fun h => by cases h) h1 rfl rfl dX8_forward_2 (fun H locs I => ?_)
  have hn := s_k2 (s_pf_2 h1) hn
  refine lv_aload_n hx hb dX8_forward_5 rfl (lv_at hl 0 rfl) ?_
  refine lv_aload_n hx hb dX8_forward_6 rfl (lv_at hl 0 rfl) ?_
  refine lv_iload_n hx hb dX8_forward_7 rfl (lv_at hl 1 rfl) ?_
  refine lv_iload_n hx hb dX8_forward_8 rfl (lv_at hl 2 rfl) ?_
  refine lv_iload_n hx hb dX8_forward_9 rfl (lv_at hl 3 rfl) ?_
  refine r_callV (Y := M_X8_noProof) (v := some (.int q2.1)) X I w_2208 my_X8_noProof (by omega) (t_X8_noProof (G := G) (d := d + 5) h2) (b_X8_noProof h2) rfl rfl hl.1 rfl (Nat.le_of_ble_eq_true rfl) hn le5 dX8_forward_10 (fun H locs cells slots I hn1 hn2 => ?_)
  have I : s_I G q2.2 s H locs := I
  have hn : cells + σ0.2.1 ≤ q2.2.2.1 ∧ slots + σ0.2.2.1 ≤ q2.2.2.2.1 := ⟨hn1, hn2⟩
  refine lv_iconst (v := 1) hx hb dX8_forward_13 (by decide) ?_
  refine r_callV (Y := M_X8_throwsIf) (v := some (.int q3.1)) X I w_1897 my_X8_throwsIf (by omega) (t_X8_throwsIf (G := G) (d := d + 7) h3) (b_X8_throwsIf h3) rfl rfl hl.1 rfl (Nat.le_of_ble_eq_true rfl) hn le4 dX8_forward_14 (fun H locs cells slots I hn1 hn2 => ?_)
  have I : s_I G q3.2 s H locs := I
  have hn : cells + σ0.2.1 ≤ q3.2.2.1 ∧ slots + σ0.2.2.1 ≤ q3.2.2.2.1 := ⟨hn1, hn2⟩
  rcases s_ite hf with ⟨c7, hf⟩ | ⟨c7, hf⟩
  · refine lv_if_eq (tgt := 22) hx hb dX8_forward_17 (by decide) (fun _ => ?_) (fun n => absurd c7 n)
    obtain ⟨q4, h8, hf⟩ := s_bind hf
    obtain ⟨q5, h9, hf⟩ := s_bind hf
    have le10 : s_le q5.2 (e_I r).2 := by
      refine s_lek hem_I ?_ k
      rcases s_ite hf with ⟨-, hf⟩ | ⟨-, hf⟩
      · rcases s_ite hf with ⟨-, hf⟩ | ⟨-, hf⟩
        · cases hf
          exact s_le.rf
        · cases hf
          exact s_le.rf
      · cases hf
        exact s_le.rf
    have le11 := s_le.tr (l_X8_resoldBy h9) le10
    refine lv_aload_n hx hb dX8_forward_22 rfl (lv_at hl 0 rfl) ?_
    refine lv_iload_n hx hb dX8_forward_23 rfl (lv_at hl 1 rfl) ?_
    refine lv_iload_n hx hb dX8_forward_24 rfl (lv_at hl 2 rfl) ?_
    refine lv_iload_n hx hb dX8_forward_25 rfl (lv_at hl 3 rfl) ?_
    refine r_callV (Y := M_X8_costs) (v := some (.int q4.1)) X I w_2212 my_X8_costs (by omega) (t_X8_costs (G := G) (d := d + 1) h8) (b_X8_costs h8) rfl rfl hl.1 rfl (Nat.le_of_ble_eq_true rfl) hn le11 dX8_forward_26 (fun H locs cells slots I hn1 hn2 => ?_)
    have I : s_I G q4.2 s H locs := I
    have hn : cells + σ0.2.1 ≤ q4.2.2.1 ∧ slots + σ0.2.2.1 ≤ q4.2.2.2.1 := ⟨hn1, hn2⟩
    refine lv_istore (lv' := [(4, .int q4.1), (0, .ref v0), (1, .int v1), (2, .int v2), (3, .int v3)]) hx hb dX8_forward_29 hl (by decide) rfl (fun ls hl => ?_)
    refine lv_aload_n hx hb dX8_forward_31 rfl (lv_at hl 1 rfl) ?_
    refine lv_iload_n hx hb dX8_forward_32 rfl (lv_at hl 2 rfl) ?_
    refine lv_iload_n hx hb dX8_forward_33 rfl (lv_at hl 3 rfl) ?_
    refine lv_iload_n hx hb dX8_forward_34 rfl (lv_at hl 4 rfl) ?_
    refine r_callV (Y := M_X8_resoldBy) (v := some (.int q5.1)) X I w_2282 my_X8_resoldBy (by omega) (t_X8_resoldBy (G := G) (d := d + 0) h9) (b_X8_resoldBy h9) rfl rfl hl.1 rfl (Nat.le_of_ble_eq_true rfl) hn le10 dX8_forward_35 (fun H locs cells slots I hn1 hn2 => ?_)
    have I : s_I G q5.2 s H locs := I
    have hn : cells + σ0.2.1 ≤ q5.2.2.1 ∧ slots + σ0.2.2.1 ≤ q5.2.2.2.1 := ⟨hn1, hn2⟩
    refine lv_istore (lv' := [(5, .int q5.1), (4, .int q4.1), (0, .ref v0), (1, .int v1), (2, .int v2), (3, .int v3)]) hx hb dX8_forward_38 hl (by decide) rfl (fun ls hl => ?_)
    refine lv_iload hx hb dX8_forward_40 (lv_at hl 1 rfl) ?_
    rcases s_ite hf with ⟨c12, hf⟩ | ⟨c12, hf⟩
    · refine lv_if_ge (tgt := 49) hx hb dX8_forward_42 (by decide) (fun _ => ?_) (fun n => absurd c12 n)
      refine lv_iload hx hb dX8_forward_49 (lv_at hl 0 rfl) ?_
      rcases s_ite hf with ⟨c13, hf⟩ | ⟨c13, hf⟩
      · refine lv_if_ge (tgt := 58) hx hb dX8_forward_51 (by decide) (fun _ => ?_) (fun n => absurd c13 n)
        cases hf
        have k : _ = r := k
        subst k
        refine lv_iconst (v := 0) hx hb dX8_forward_58 (by decide) ?_
        refine lv_iload hx hb dX8_forward_59 (lv_at hl 1 rfl) ?_
        refine lv_iload hx hb dX8_forward_61 (lv_at hl 0 rfl) ?_
        refine lv_isub hx hb dX8_forward_63 ?_
        refine r_mmax X w_2290 w_1431 w_179 w_1432 hl.1 (Nat.le_of_ble_eq_true rfl) hn le10 dX8_forward_64 ?_
        exact r_iret X I rfl rfl rfl hn dX8_forward_67
      · refine lv_if_ge (tgt := 58) hx hb dX8_forward_51 (by decide) (fun n => absurd n c13) (fun _ => ?_)
        cases hf
        have k : _ = r := k
        subst k
        refine lv_iconst (v := 0) hx hb dX8_forward_54 (by decide) ?_
        refine lv_goto (tgt := 67) hx hb dX8_forward_55 (by decide) ?_
        exact r_iret X I rfl rfl rfl hn dX8_forward_67
    · refine lv_if_ge (tgt := 49) hx hb dX8_forward_42 (by decide) (fun n => absurd n c12) (fun _ => ?_)
      cases hf
      have k : _ = r := k
      subst k
      refine lv_iconst (v := (-1)) hx hb dX8_forward_45 (by decide) ?_
      refine lv_goto (tgt := 67) hx hb dX8_forward_46 (by decide) ?_
      exact r_iret X I rfl rfl rfl hn dX8_forward_67
  · refine lv_if_eq (tgt := 22) hx hb dX8_forward_17 (by decide) (fun n => absurd n c7) (fun _ => ?_)
    cases hf
    have k : _ = r := k
    subst k
    refine lv_iconst (v := 0) hx hb dX8_forward_20 (by decide) ?_
    exact r_iret X I rfl rfl rfl hn dX8_forward_21
theorem v_X8_forward {G : sG} {d : Nat} {vs0 : List Value} {σ0 : sS} {x : sL} {z : sZ Int32} {r : Int32 × sS} (hs : S_X8_forward x = some z) (k : s_K G (d + 9) M_X8_forward vs0 σ0 Y_X8_forward e_I z r) : s_V G (d + 9) M_X8_forward vs0 σ0 Y_X8_forward x (e_I r) := by
  obtain ⟨pc, vs, σ⟩ := x
  unfold S_X8_forward at hs
  dsimp only at hs
  rcases s_ite hs with ⟨c, hs⟩ | ⟨-, hs⟩
  · subst c
    unfold U_X8_forward_0 at hs
    obtain ⟨a0, g0, hs⟩ := s_bind hs
    obtain ⟨a1, g1, hs⟩ := s_bind hs
    obtain ⟨a2, g2, hs⟩ := s_bind hs
    obtain ⟨a3, g3, hs⟩ := s_bind hs
    obtain ⟨u9, ge, hs⟩ := s_bind hs
    rw [g_r_to g0, g_i_to g1, g_i_to g2, g_i_to g3, g_e_to ge]
    exact v_X8_forward_0 hs k
  cases hs
theorem t_X8_forward {G : sG} {d : Nat} {v0 : Nat} {v1 : Int32} {v2 : Int32} {v3 : Int32} {σ : sS} {q : Int32 × sS} (h : F_X8_forward v0 v1 v2 v3 σ = some q) : s_T G (d + 9) M_X8_forward [.ref v0, .int v1, .int v2, .int v3] σ (e_I q) := by
  unfold F_X8_forward at h
  obtain ⟨-, -, h⟩ := s_bind h
  exact s_ofV rfl (by decide) (Nat.le_of_ble_eq_true rfl) rfl rfl (s_run_ind (V := fun x r => s_V G (d + 9) M_X8_forward [.ref v0, .int v1, .int v2, .int v3] σ Y_X8_forward x (e_I r)) (fun x z r hs hk => v_X8_forward hs (by cases z <;> exact hk)) h)
/-! X3_truthsIn -/
noncomputable def T_X3_truthsIn_0 (v0 : Nat) (v1 : Int32) (σ : sS) : Option (sZ Int32) :=
  some (.inl (4, [.ref v0, .int v1, .int 0, .int 0], σ))
noncomputable def U_X3_truthsIn_0 (vs : List Value) (σ : sS) : Option (sZ Int32) := (g_r vs).bind fun a0 => (g_i a0.2).bind fun a1 => (g_e a1.2).bind fun _ => T_X3_truthsIn_0 a0.1 a1.1 σ
noncomputable def T_X3_truthsIn_4 (v0 : Nat) (v1 : Int32) (v2 : Int32) (v3 : Int32) (σ : sS) : Option (sZ Int32) :=
  (s_fr σ v0 3 0).bind fun x1 =>
  (s_fi σ x1 1 2).bind fun x2 =>
  if x2 ≤ v3 then (some (.inr (v2, σ)))
  else ((s_fr σ v0 3 0).bind fun x3 =>
  (F_X1_isTrue x3 v3 v1 σ).bind fun q4 =>
  if q4.1 = 0 then (some (.inl (30, [.ref v0, .int v1, .int v2, .int v3], q4.2)))
  else (some (.inl (30, [.ref v0, .int v1, .int (v2 + 1), .int v3], q4.2))))
noncomputable def U_X3_truthsIn_4 (vs : List Value) (σ : sS) : Option (sZ Int32) := (g_r vs).bind fun a0 => (g_i a0.2).bind fun a1 => (g_i a1.2).bind fun a2 => (g_i a2.2).bind fun a3 => (g_e a3.2).bind fun _ => T_X3_truthsIn_4 a0.1 a1.1 a2.1 a3.1 σ
noncomputable def T_X3_truthsIn_30 (v0 : Nat) (v1 : Int32) (v2 : Int32) (v3 : Int32) (σ : sS) : Option (sZ Int32) :=
  some (.inl (4, [.ref v0, .int v1, .int v2, .int (v3 + 1)], σ))
noncomputable def U_X3_truthsIn_30 (vs : List Value) (σ : sS) : Option (sZ Int32) := (g_r vs).bind fun a0 => (g_i a0.2).bind fun a1 => (g_i a1.2).bind fun a2 => (g_i a2.2).bind fun a3 => (g_e a3.2).bind fun _ => T_X3_truthsIn_30 a0.1 a1.1 a2.1 a3.1 σ
noncomputable def S_X3_truthsIn (x : sL) : Option (sZ Int32) := if x.1 = 0 then U_X3_truthsIn_0 x.2.1 x.2.2 else if x.1 = 4 then U_X3_truthsIn_4 x.2.1 x.2.2 else if x.1 = 30 then U_X3_truthsIn_30 x.2.1 x.2.2 else none
def Y_X3_truthsIn (pc : Nat) : List Nat := if pc = 0 then [0, 1] else if pc = 4 then [0, 1, 2, 3] else if pc = 30 then [0, 1, 2, 3] else []
noncomputable def F_X3_truthsIn (v0 : Nat) (v1 : Int32) (σ : sS) : Option (Int32 × sS) := (s_is σ v0 3).bind fun _ => s_run S_X3_truthsIn (0, [.ref v0, .int v1], σ)
theorem l_X3_truthsIn_0 {v0 : Nat} {v1 : Int32} {σ : sS} {z : sZ Int32} (hf : T_X3_truthsIn_0 v0 v1 σ = some z) : s_lz σ z := by
  unfold T_X3_truthsIn_0 at hf
  cases hf
  exact s_le.rf
theorem l_X3_truthsIn_4 {v0 : Nat} {v1 : Int32} {v2 : Int32} {v3 : Int32} {σ : sS} {z : sZ Int32} (hf : T_X3_truthsIn_4 v0 v1 v2 v3 σ = some z) : s_lz σ z := by
  unfold T_X3_truthsIn_4 at hf
  obtain ⟨x1, -, hf⟩ := s_bind hf
  obtain ⟨x2, -, hf⟩ := s_bind hf
  rcases s_ite hf with ⟨-, hf⟩ | ⟨-, hf⟩
  · cases hf
    exact s_le.rf
  · obtain ⟨x3, -, hf⟩ := s_bind hf
    obtain ⟨q4, hh, hf⟩ := s_bind hf
    refine s_lz.tr (l_X1_isTrue hh) ?_
    rcases s_ite hf with ⟨-, hf⟩ | ⟨-, hf⟩
    · cases hf
      exact s_le.rf
    · cases hf
      exact s_le.rf
theorem l_X3_truthsIn_30 {v0 : Nat} {v1 : Int32} {v2 : Int32} {v3 : Int32} {σ : sS} {z : sZ Int32} (hf : T_X3_truthsIn_30 v0 v1 v2 v3 σ = some z) : s_lz σ z := by
  unfold T_X3_truthsIn_30 at hf
  cases hf
  exact s_le.rf
theorem l_X3_truthsIn_s {x : sL} {z : sZ Int32} (hs : S_X3_truthsIn x = some z) : s_lz x.2.2 z := by
  obtain ⟨pc, vs, σ⟩ := x
  unfold S_X3_truthsIn at hs
  dsimp only at hs ⊢
  rcases s_ite hs with ⟨c, hs⟩ | ⟨-, hs⟩
  · subst c
    unfold U_X3_truthsIn_0 at hs
    obtain ⟨a0, g0, hs⟩ := s_bind hs
    obtain ⟨a1, g1, hs⟩ := s_bind hs
    obtain ⟨u9, ge, hs⟩ := s_bind hs
    exact l_X3_truthsIn_0 hs
  rcases s_ite hs with ⟨c, hs⟩ | ⟨-, hs⟩
  · subst c
    unfold U_X3_truthsIn_4 at hs
    obtain ⟨a0, g0, hs⟩ := s_bind hs
    obtain ⟨a1, g1, hs⟩ := s_bind hs
    obtain ⟨a2, g2, hs⟩ := s_bind hs
    obtain ⟨a3, g3, hs⟩ := s_bind hs
    obtain ⟨u9, ge, hs⟩ := s_bind hs
    exact l_X3_truthsIn_4 hs
  rcases s_ite hs with ⟨c, hs⟩ | ⟨-, hs⟩
  · subst c
    unfold U_X3_truthsIn_30 at hs
    obtain ⟨a0, g0, hs⟩ := s_bind hs
    obtain ⟨a1, g1, hs⟩ := s_bind hs
    obtain ⟨a2, g2, hs⟩ := s_bind hs
    obtain ⟨a3, g3, hs⟩ := s_bind hs
    obtain ⟨u9, ge, hs⟩ := s_bind hs
    exact l_X3_truthsIn_30 hs
  cases hs
theorem l_X3_truthsIn {v0 : Nat} {v1 : Int32} {σ : sS} {q : Int32 × sS} (h : F_X3_truthsIn v0 v1 σ = some q) : s_le σ q.2 := by
  unfold F_X3_truthsIn at h
  obtain ⟨-, -, h⟩ := s_bind h
  exact s_run_ind (V := fun x r => s_le x.2.2 r.2) (fun x z r hs hk => by
    have h9 := l_X3_truthsIn_s hs
    cases z with
    | inl y => exact s_le.tr h9 hk
    | inr q => cases hk; exact h9) h
theorem b_X3_truthsIn {v0 : Nat} {v1 : Int32} {σ : sS} {q : Int32 × sS} (h : F_X3_truthsIn v0 v1 σ = some q) : ∃ fs, σ.1 v0 = some (.inr (3, fs)) := by
  unfold F_X3_truthsIn at h
  obtain ⟨u, hu, -⟩ := s_bind h
  exact s_is_to hu
set_option maxRecDepth 100000 in
set_option maxHeartbeats 4000000 in
theorem v_X3_truthsIn_0 {G : sG} {d : Nat} {vs0 : List Value} {σ0 : sS} {v0 : Nat} {v1 : Int32} {σ : sS} {z : sZ Int32} {r : Int32 × sS} (hf : T_X3_truthsIn_0 v0 v1 σ = some z) (k : s_K G (d + 3) M_X3_truthsIn vs0 σ0 Y_X3_truthsIn e_I z r) : s_V G (d + 3) M_X3_truthsIn vs0 σ0 Y_X3_truthsIn (0, [.ref v0, .int v1], σ) (e_I r) := by
  have le0 : s_le σ (e_I r).2 := s_lek hem_I (l_X3_truthsIn_0 hf) k
  refine ⟨le0, ?_⟩
  intro p e s m below meth c H locs cells slots ls X I hn1 hn2 hl
  have hn : cells + σ0.2.1 ≤ σ.2.1 ∧ slots + σ0.2.2.1 ≤ σ.2.2.1 := ⟨hn1, hn2⟩
  have hl : lv_has ls 4 [(0, .ref v0), (1, .int v1)] := hl
  have hx := X.1
  have hb : c.code = cX3_truthsIn := X.2.1
  have hown : s.vm.findClass RX3 = some m.cls := X.2.2.2.2.2.1
  have hts := X.2.2.2.2.2.2.1
  refine W.eq (g2 := F0 m 0 ls []) rfl ?_
  unfold T_X3_truthsIn_0 at hf
  cases hf
  have k : s_V G (d + 3) M_X3_truthsIn vs0 σ0 Y_X3_truthsIn (4, [.ref v0, .int v1, .int 0, .int 0], σ) (e_I r) := k
  refine lv_iconst (v := 0) hx hb dX3_truthsIn_0 (by decide) ?_
  refine lv_istore_n (lv' := [(2, .int 0), (0, .ref v0), (1, .int v1)]) hx hb dX3_truthsIn_1 rfl hl (by decide) rfl (fun ls hl => ?_)
  refine lv_iconst (v := 0) hx hb dX3_truthsIn_2 (by decide) ?_
  refine lv_istore_n (lv' := [(3, .int 0), (2, .int 0), (0, .ref v0), (1, .int v1)]) hx hb dX3_truthsIn_3 rfl hl (by decide) rfl (fun ls hl => ?_)
  exact k.2 p e s m below meth c _ _ _ _ _ X I hn.1 hn.2 (lv_sub hl [2, 3, 1, 0] rfl)
set_option maxRecDepth 100000 in
set_option maxHeartbeats 4000000 in
theorem v_X3_truthsIn_4 {G : sG} {d : Nat} {vs0 : List Value} {σ0 : sS} {v0 : Nat} {v1 : Int32} {v2 : Int32} {v3 : Int32} {σ : sS} {z : sZ Int32} {r : Int32 × sS} (hf : T_X3_truthsIn_4 v0 v1 v2 v3 σ = some z) (k : s_K G (d + 3) M_X3_truthsIn vs0 σ0 Y_X3_truthsIn e_I z r) : s_V G (d + 3) M_X3_truthsIn vs0 σ0 Y_X3_truthsIn (4, [.ref v0, .int v1, .int v2, .int v3], σ) (e_I r) := by
  have le0 : s_le σ (e_I r).2 := s_lek hem_I (l_X3_truthsIn_4 hf) k
  refine ⟨le0, ?_⟩
  intro p e s m below meth c H locs cells slots ls X I hn1 hn2 hl
  have hn : cells + σ0.2.1 ≤ σ.2.1 ∧ slots + σ0.2.2.1 ≤ σ.2.2.1 := ⟨hn1, hn2⟩
  have hl : lv_has ls 4 [(0, .ref v0), (1, .int v1), (2, .int v2), (3, .int v3)] := hl
  have hx := X.1
  have hb : c.code = cX3_truthsIn := X.2.1
  have hown : s.vm.findClass RX3 = some m.cls := X.2.2.2.2.2.1
  have hts := X.2.2.2.2.2.2.1
  refine W.eq (g2 := F0 m 4 ls []) rfl ?_
  unfold T_X3_truthsIn_4 at hf
  obtain ⟨x1, h1, hf⟩ := s_bind hf
  obtain ⟨x2, h2, hf⟩ := s_bind hf
  refine lv_iload_n hx hb dX3_truthsIn_4 rfl (lv_at hl 3 rfl) ?_
  refine lv_aload_n hx hb dX3_truthsIn_5 rfl (lv_at hl 0 rfl) ?_
  refine r_gr X I fl_X3_30 h1 dX3_truthsIn_6 ?_
  refine r_gi X I fl_X3_48 h2 dX3_truthsIn_9 ?_
  rcases s_ite hf with ⟨c3, hf⟩ | ⟨c3, hf⟩
  · refine lv_icmp_ge (tgt := 36) hx hb dX3_truthsIn_12 (by decide) (fun _ => ?_) (fun n => absurd c3 n)
    cases hf
    have k : _ = r := k
    subst k
    refine lv_iload_n hx hb dX3_truthsIn_36 rfl (lv_at hl 2 rfl) ?_
    exact r_iret X I rfl rfl rfl hn dX3_truthsIn_37
  · refine lv_icmp_ge (tgt := 36) hx hb dX3_truthsIn_12 (by decide) (fun n => absurd n c3) (fun _ => ?_)
    obtain ⟨x3, h4, hf⟩ := s_bind hf
    obtain ⟨q4, h5, hf⟩ := s_bind hf
    have le6 : s_le q4.2 (e_I r).2 := by
      refine s_lek hem_I ?_ k
      rcases s_ite hf with ⟨-, hf⟩ | ⟨-, hf⟩
      · cases hf
        exact s_le.rf
      · cases hf
        exact s_le.rf
    refine lv_aload_n hx hb dX3_truthsIn_15 rfl (lv_at hl 0 rfl) ?_
    refine r_gr X I fl_X3_30 h4 dX3_truthsIn_16 ?_
    refine lv_iload_n hx hb dX3_truthsIn_19 rfl (lv_at hl 3 rfl) ?_
    refine lv_iload_n hx hb dX3_truthsIn_20 rfl (lv_at hl 1 rfl) ?_
    refine r_callV (Y := M_X1_isTrue) (v := some (.int q4.1)) X I w_1444 my_X1_isTrue (by omega) (t_X1_isTrue (G := G) (d := d + 0) h5) (b_X1_isTrue h5) rfl rfl hl.1 rfl (Nat.le_of_ble_eq_true rfl) hn le6 dX3_truthsIn_21 (fun H locs cells slots I hn1 hn2 => ?_)
    have I : s_I G q4.2 s H locs := I
    have hn : cells + σ0.2.1 ≤ q4.2.2.1 ∧ slots + σ0.2.2.1 ≤ q4.2.2.2.1 := ⟨hn1, hn2⟩
    rcases s_ite hf with ⟨c7, hf⟩ | ⟨c7, hf⟩
    · refine lv_if_eq (tgt := 30) hx hb dX3_truthsIn_24 (by decide) (fun _ => ?_) (fun n => absurd c7 n)
      cases hf
      have k : s_V G (d + 3) M_X3_truthsIn vs0 σ0 Y_X3_truthsIn (30, [.ref v0, .int v1, .int v2, .int v3], q4.2) (e_I r) := k
      exact k.2 p e s m below meth c _ _ _ _ _ X I hn.1 hn.2 (lv_sub hl [0, 1, 2, 3] rfl)
    · refine lv_if_eq (tgt := 30) hx hb dX3_truthsIn_24 (by decide) (fun n => absurd n c7) (fun _ => ?_)
      cases hf
      have k : s_V G (d + 3) M_X3_truthsIn vs0 σ0 Y_X3_truthsIn (30, [.ref v0, .int v1, .int (v2 + 1), .int v3], q4.2) (e_I r) := k
      refine lv_iinc (v := (v2 + 1)) (lv' := [(2, .int (v2 + 1)), (0, .ref v0), (1, .int v1), (3, .int v3)]) hx hb dX3_truthsIn_27 hl (k := 2) rfl rfl (by decide) rfl (fun ls hl => ?_)
      exact k.2 p e s m below meth c _ _ _ _ _ X I hn.1 hn.2 (lv_sub hl [1, 2, 0, 3] rfl)
set_option maxRecDepth 100000 in
set_option maxHeartbeats 4000000 in
theorem v_X3_truthsIn_30 {G : sG} {d : Nat} {vs0 : List Value} {σ0 : sS} {v0 : Nat} {v1 : Int32} {v2 : Int32} {v3 : Int32} {σ : sS} {z : sZ Int32} {r : Int32 × sS} (hf : T_X3_truthsIn_30 v0 v1 v2 v3 σ = some z) (k : s_K G (d + 3) M_X3_truthsIn vs0 σ0 Y_X3_truthsIn e_I z r) : s_V G (d + 3) M_X3_truthsIn vs0 σ0 Y_X3_truthsIn (30, [.ref v0, .int v1, .int v2, .int v3], σ) (e_I r) := by
  have le0 : s_le σ (e_I r).2 := s_lek hem_I (l_X3_truthsIn_30 hf) k
  refine ⟨le0, ?_⟩
  intro p e s m below meth c H locs cells slots ls X I hn1 hn2 hl
  have hn : cells + σ0.2.1 ≤ σ.2.1 ∧ slots + σ0.2.2.1 ≤ σ.2.2.1 := ⟨hn1, hn2⟩
  have hl : lv_has ls 4 [(0, .ref v0), (1, .int v1), (2, .int v2), (3, .int v3)] := hl
  have hx := X.1
  have hb : c.code = cX3_truthsIn := X.2.1
  have hown : s.vm.findClass RX3 = some m.cls := X.2.2.2.2.2.1
  have hts := X.2.2.2.2.2.2.1
  refine W.eq (g2 := F0 m 30 ls []) rfl ?_
  unfold T_X3_truthsIn_30 at hf
  cases hf
  have k : s_V G (d + 3) M_X3_truthsIn vs0 σ0 Y_X3_truthsIn (4, [.ref v0, .int v1, .int v2, .int (v3 + 1)], σ) (e_I r) := k
  refine lv_iinc (v := (v3 + 1)) (lv' := [(3, .int (v3 + 1)), (0, .ref v0), (1, .int v1), (2, .int v2)]) hx hb dX3_truthsIn_30 hl (k := 3) rfl rfl (by decide) rfl (fun ls hl => ?_)
  refine lv_goto (tgt := 4) hx hb dX3_truthsIn_33 (by decide) ?_
  exact k.2 p e s m below meth c _ _ _ _ _ X I hn.1 hn.2 (lv_sub hl [1, 2, 3, 0] rfl)
theorem v_X3_truthsIn {G : sG} {d : Nat} {vs0 : List Value} {σ0 : sS} {x : sL} {z : sZ Int32} {r : Int32 × sS} (hs : S_X3_truthsIn x = some z) (k : s_K G (d + 3) M_X3_truthsIn vs0 σ0 Y_X3_truthsIn e_I z r) : s_V G (d + 3) M_X3_truthsIn vs0 σ0 Y_X3_truthsIn x (e_I r) := by
  obtain ⟨pc, vs, σ⟩ := x
  unfold S_X3_truthsIn at hs
  dsimp only at hs
  rcases s_ite hs with ⟨c, hs⟩ | ⟨-, hs⟩
  · subst c
    unfold U_X3_truthsIn_0 at hs
    obtain ⟨a0, g0, hs⟩ := s_bind hs
    obtain ⟨a1, g1, hs⟩ := s_bind hs
    obtain ⟨u9, ge, hs⟩ := s_bind hs
    rw [g_r_to g0, g_i_to g1, g_e_to ge]
    exact v_X3_truthsIn_0 hs k
  rcases s_ite hs with ⟨c, hs⟩ | ⟨-, hs⟩
  · subst c
    unfold U_X3_truthsIn_4 at hs
    obtain ⟨a0, g0, hs⟩ := s_bind hs
    obtain ⟨a1, g1, hs⟩ := s_bind hs
    obtain ⟨a2, g2, hs⟩ := s_bind hs
    obtain ⟨a3, g3, hs⟩ := s_bind hs
    obtain ⟨u9, ge, hs⟩ := s_bind hs
    rw [g_r_to g0, g_i_to g1, g_i_to g2, g_i_to g3, g_e_to ge]
    exact v_X3_truthsIn_4 hs k
  rcases s_ite hs with ⟨c, hs⟩ | ⟨-, hs⟩
  · subst c
    unfold U_X3_truthsIn_30 at hs
    obtain ⟨a0, g0, hs⟩ := s_bind hs
    obtain ⟨a1, g1, hs⟩ := s_bind hs
    obtain ⟨a2, g2, hs⟩ := s_bind hs
    obtain ⟨a3, g3, hs⟩ := s_bind hs
    obtain ⟨u9, ge, hs⟩ := s_bind hs
    rw [g_r_to g0, g_i_to g1, g_i_to g2, g_i_to g3, g_e_to ge]
    exact v_X3_truthsIn_30 hs k
  cases hs
theorem t_X3_truthsIn {G : sG} {d : Nat} {v0 : Nat} {v1 : Int32} {σ : sS} {q : Int32 × sS} (h : F_X3_truthsIn v0 v1 σ = some q) : s_T G (d + 3) M_X3_truthsIn [.ref v0, .int v1] σ (e_I q) := by
  unfold F_X3_truthsIn at h
  obtain ⟨-, -, h⟩ := s_bind h
  exact s_ofV rfl (by decide) (Nat.le_of_ble_eq_true rfl) rfl rfl (s_run_ind (V := fun x r => s_V G (d + 3) M_X3_truthsIn [.ref v0, .int v1] σ Y_X3_truthsIn x (e_I r)) (fun x z r hs hk => v_X3_truthsIn hs (by cases z <;> exact hk)) h)
/-! X7_truths -/
noncomputable def T_X7_truths_0 (v0 : Nat) (v1 : Int32) (σ : sS) : Option (sZ (Int32 ⊕ String)) :=
  (F_X7_needWorld v0 v1 σ).bind fun q1 => s_sum q1.1 (fun x2 => (s_fr q1.2 v0 7 4).bind fun x4 =>
  (F_X3_truthsIn x4 v1 q1.2).bind fun q5 =>
  some (.inr (.inl q5.1, q5.2))) (fun E3 => some (.inr (.inr E3, q1.2)))
noncomputable def U_X7_truths_0 (vs : List Value) (σ : sS) : Option (sZ (Int32 ⊕ String)) := (g_r vs).bind fun a0 => (g_i a0.2).bind fun a1 => (g_e a1.2).bind fun _ => T_X7_truths_0 a0.1 a1.1 σ
noncomputable def S_X7_truths (x : sL) : Option (sZ (Int32 ⊕ String)) := if x.1 = 0 then U_X7_truths_0 x.2.1 x.2.2 else none
def Y_X7_truths (pc : Nat) : List Nat := if pc = 0 then [0, 1] else []
noncomputable def F_X7_truths (v0 : Nat) (v1 : Int32) (σ : sS) : Option ((Int32 ⊕ String) × sS) := (s_is σ v0 7).bind fun _ => s_run S_X7_truths (0, [.ref v0, .int v1], σ)
theorem l_X7_truths_0 {v0 : Nat} {v1 : Int32} {σ : sS} {z : sZ (Int32 ⊕ String)} (hf : T_X7_truths_0 v0 v1 σ = some z) : s_lz σ z := by
  unfold T_X7_truths_0 at hf
  obtain ⟨q1, hh, hf⟩ := s_bind hf
  refine s_lz.tr (l_X7_needWorld hh) ?_
  rcases s_sum_some hf with ⟨x2, -, hf⟩ | ⟨E3, -, hf⟩
  · obtain ⟨x4, -, hf⟩ := s_bind hf
    obtain ⟨q5, hh, hf⟩ := s_bind hf
    refine s_lz.tr (l_X3_truthsIn hh) ?_
    cases hf
    exact s_le.rf
  · cases hf
    exact s_le.rf
theorem l_X7_truths_s {x : sL} {z : sZ (Int32 ⊕ String)} (hs : S_X7_truths x = some z) : s_lz x.2.2 z := by
  obtain ⟨pc, vs, σ⟩ := x
  unfold S_X7_truths at hs
  dsimp only at hs ⊢
  rcases s_ite hs with ⟨c, hs⟩ | ⟨-, hs⟩
  · subst c
    unfold U_X7_truths_0 at hs
    obtain ⟨a0, g0, hs⟩ := s_bind hs
    obtain ⟨a1, g1, hs⟩ := s_bind hs
    obtain ⟨u9, ge, hs⟩ := s_bind hs
    exact l_X7_truths_0 hs
  cases hs
theorem l_X7_truths {v0 : Nat} {v1 : Int32} {σ : sS} {q : (Int32 ⊕ String) × sS} (h : F_X7_truths v0 v1 σ = some q) : s_le σ q.2 := by
  unfold F_X7_truths at h
  obtain ⟨-, -, h⟩ := s_bind h
  exact s_run_ind (V := fun x r => s_le x.2.2 r.2) (fun x z r hs hk => by
    have h9 := l_X7_truths_s hs
    cases z with
    | inl y => exact s_le.tr h9 hk
    | inr q => cases hk; exact h9) h
theorem b_X7_truths {v0 : Nat} {v1 : Int32} {σ : sS} {q : (Int32 ⊕ String) × sS} (h : F_X7_truths v0 v1 σ = some q) : ∃ fs, σ.1 v0 = some (.inr (7, fs)) := by
  unfold F_X7_truths at h
  obtain ⟨u, hu, -⟩ := s_bind h
  exact s_is_to hu
set_option maxRecDepth 100000 in
set_option maxHeartbeats 4000000 in
theorem v_X7_truths_0 {G : sG} {d : Nat} {vs0 : List Value} {σ0 : sS} {v0 : Nat} {v1 : Int32} {σ : sS} {z : sZ (Int32 ⊕ String)} {r : (Int32 ⊕ String) × sS} (hf : T_X7_truths_0 v0 v1 σ = some z) (k : s_K G (d + 4) M_X7_truths vs0 σ0 Y_X7_truths e_IX z r) : s_V G (d + 4) M_X7_truths vs0 σ0 Y_X7_truths (0, [.ref v0, .int v1], σ) (e_IX r) := by
  have le0 : s_le σ (e_IX r).2 := s_lek hem_IX (l_X7_truths_0 hf) k
  refine ⟨le0, ?_⟩
  intro p e s m below meth c H locs cells slots ls X I hn1 hn2 hl
  have hn : cells + σ0.2.1 ≤ σ.2.1 ∧ slots + σ0.2.2.1 ≤ σ.2.2.1 := ⟨hn1, hn2⟩
  have hl : lv_has ls 2 [(0, .ref v0), (1, .int v1)] := hl
  have hx := X.1
  have hb : c.code = cX7_truths := X.2.1
  have hown : s.vm.findClass RX7 = some m.cls := X.2.2.2.2.2.1
  have hts := X.2.2.2.2.2.2.1
  refine W.eq (g2 := F0 m 0 ls []) rfl ?_
  unfold T_X7_truths_0 at hf
  obtain ⟨q1, h1, hf⟩ := s_bind hf
  refine lv_aload_n hx hb dX7_truths_0 rfl (lv_at hl 0 rfl) ?_
  refine lv_iload_n hx hb dX7_truths_1 rfl (lv_at hl 1 rfl) ?_
  rcases s_sum_some hf with ⟨x2, hq2, hf⟩ | ⟨E3, hq2, hf⟩
  · have le3 : s_le q1.2 (e_IX r).2 := by
      refine s_lek hem_IX ?_ k
      obtain ⟨x4, -, hf⟩ := s_bind hf
      obtain ⟨q5, hh, hf⟩ := s_bind hf
      refine s_lz.tr (l_X3_truthsIn hh) ?_
      cases hf
      exact s_le.rf
    refine r_callV (Y := M_X7_needWorld) (v := none) X I w_1052 my_X7_needWorld (by omega) (t_X7_needWorld (G := G) (d := d + 1) h1) (b_X7_needWorld h1) (e_VX_l hq2) rfl hl.1 rfl (Nat.le_of_ble_eq_true rfl) hn le3 dX7_truths_2 (fun H locs cells slots I hn1 hn2 => ?_)
    have I : s_I G q1.2 s H locs := I
    have hn : cells + σ0.2.1 ≤ q1.2.2.1 ∧ slots + σ0.2.2.1 ≤ q1.2.2.2.1 := ⟨hn1, hn2⟩
    obtain ⟨x4, h4, hf⟩ := s_bind hf
    obtain ⟨q5, h5, hf⟩ := s_bind hf
    cases hf
    have k : _ = r := k
    subst k
    have le6 : s_le q5.2 q5.2 := s_le.rf
    refine lv_aload_n hx hb dX7_truths_5 rfl (lv_at hl 0 rfl) ?_
    refine r_gr X I fl_X7_40 h4 dX7_truths_6 ?_
    refine lv_iload_n hx hb dX7_truths_9 rfl (lv_at hl 1 rfl) ?_
    refine r_callV (Y := M_X3_truthsIn) (v := some (.int q5.1)) X I w_1440 my_X3_truthsIn (by omega) (t_X3_truthsIn (G := G) (d := d + 0) h5) (b_X3_truthsIn h5) rfl rfl hl.1 rfl (Nat.le_of_ble_eq_true rfl) hn le6 dX7_truths_10 (fun H locs cells slots I hn1 hn2 => ?_)
    have I : s_I G q5.2 s H locs := I
    have hn : cells + σ0.2.1 ≤ q5.2.2.1 ∧ slots + σ0.2.2.1 ≤ q5.2.2.2.1 := ⟨hn1, hn2⟩
    exact r_iret X I rfl rfl rfl hn dX7_truths_13
  · cases hf
    have k : _ = r := k
    subst k
    exact r_callVx (Y := M_X7_needWorld) X I rfl w_1052 my_X7_needWorld (by omega) (t_X7_needWorld (G := G) (d := d + 1) h1) (b_X7_needWorld h1) (e_VX_r hq2) rfl hl.1 rfl (Nat.le_of_ble_eq_true rfl) hn rfl dX7_truths_2
theorem v_X7_truths {G : sG} {d : Nat} {vs0 : List Value} {σ0 : sS} {x : sL} {z : sZ (Int32 ⊕ String)} {r : (Int32 ⊕ String) × sS} (hs : S_X7_truths x = some z) (k : s_K G (d + 4) M_X7_truths vs0 σ0 Y_X7_truths e_IX z r) : s_V G (d + 4) M_X7_truths vs0 σ0 Y_X7_truths x (e_IX r) := by
  obtain ⟨pc, vs, σ⟩ := x
  unfold S_X7_truths at hs
  dsimp only at hs
  rcases s_ite hs with ⟨c, hs⟩ | ⟨-, hs⟩
  · subst c
    unfold U_X7_truths_0 at hs
    obtain ⟨a0, g0, hs⟩ := s_bind hs
    obtain ⟨a1, g1, hs⟩ := s_bind hs
    obtain ⟨u9, ge, hs⟩ := s_bind hs
    rw [g_r_to g0, g_i_to g1, g_e_to ge]
    exact v_X7_truths_0 hs k
  cases hs
theorem t_X7_truths {G : sG} {d : Nat} {v0 : Nat} {v1 : Int32} {σ : sS} {q : (Int32 ⊕ String) × sS} (h : F_X7_truths v0 v1 σ = some q) : s_T G (d + 4) M_X7_truths [.ref v0, .int v1] σ (e_IX q) := by
  unfold F_X7_truths at h
  obtain ⟨-, -, h⟩ := s_bind h
  exact s_ofV rfl (by decide) (Nat.le_of_ble_eq_true rfl) rfl rfl (s_run_ind (V := fun x r => s_V G (d + 4) M_X7_truths [.ref v0, .int v1] σ Y_X7_truths x (e_IX r)) (fun x z r hs hk => v_X7_truths hs (by cases z <;> exact hk)) h)
/-! L_truths -/
noncomputable def T_L_truths_0 (v0 : Nat) (v1 : Int32) (v2 : Nat) (σ : sS) : Option (sZ Int32) :=
  (F_X7_truths v0 v1 σ).bind fun q1 => s_sum q1.1 (fun x2 => (s_sl q1.2 v2 0 ((x2 : Int32).toInt64)).bind fun σ4 =>
  some (.inr (0, σ4))) (fun E3 => if E3 = "java/lang/IllegalArgumentException" then (some (.inr (1, q1.2))) else none)
noncomputable def U_L_truths_0 (vs : List Value) (σ : sS) : Option (sZ Int32) := (g_r vs).bind fun a0 => (g_i a0.2).bind fun a1 => (g_r a1.2).bind fun a2 => (g_e a2.2).bind fun _ => T_L_truths_0 a0.1 a1.1 a2.1 σ
noncomputable def S_L_truths (x : sL) : Option (sZ Int32) := if x.1 = 0 then U_L_truths_0 x.2.1 x.2.2 else none
def Y_L_truths (pc : Nat) : List Nat := if pc = 0 then [0, 1, 2] else []
noncomputable def F_L_truths (v0 : Nat) (v1 : Int32) (v2 : Nat) (σ : sS) : Option (Int32 × sS) := s_run S_L_truths (0, [.ref v0, .int v1, .ref v2], σ)
theorem l_L_truths_0 {v0 : Nat} {v1 : Int32} {v2 : Nat} {σ : sS} {z : sZ Int32} (hf : T_L_truths_0 v0 v1 v2 σ = some z) : s_lz σ z := by
  unfold T_L_truths_0 at hf
  obtain ⟨q1, hh, hf⟩ := s_bind hf
  refine s_lz.tr (l_X7_truths hh) ?_
  rcases s_sum_some hf with ⟨x2, -, hf⟩ | ⟨E3, -, hf⟩
  · obtain ⟨σ4, hh, hf⟩ := s_bind hf
    refine s_lz.tr (s_le2 (s_sl_2 hh)) ?_
    cases hf
    exact s_le.rf
  · rcases s_ite hf with ⟨-, hf⟩ | ⟨-, hf⟩
    · cases hf
      exact s_le.rf
    cases hf
theorem l_L_truths_s {x : sL} {z : sZ Int32} (hs : S_L_truths x = some z) : s_lz x.2.2 z := by
  obtain ⟨pc, vs, σ⟩ := x
  unfold S_L_truths at hs
  dsimp only at hs ⊢
  rcases s_ite hs with ⟨c, hs⟩ | ⟨-, hs⟩
  · subst c
    unfold U_L_truths_0 at hs
    obtain ⟨a0, g0, hs⟩ := s_bind hs
    obtain ⟨a1, g1, hs⟩ := s_bind hs
    obtain ⟨a2, g2, hs⟩ := s_bind hs
    obtain ⟨u9, ge, hs⟩ := s_bind hs
    exact l_L_truths_0 hs
  cases hs
theorem l_L_truths {v0 : Nat} {v1 : Int32} {v2 : Nat} {σ : sS} {q : Int32 × sS} (h : F_L_truths v0 v1 v2 σ = some q) : s_le σ q.2 := by
  unfold F_L_truths at h
  exact s_run_ind (V := fun x r => s_le x.2.2 r.2) (fun x z r hs hk => by
    have h9 := l_L_truths_s hs
    cases z with
    | inl y => exact s_le.tr h9 hk
    | inr q => cases hk; exact h9) h
set_option maxRecDepth 100000 in
set_option maxHeartbeats 4000000 in
theorem v_L_truths_0 {G : sG} {d : Nat} {vs0 : List Value} {σ0 : sS} {v0 : Nat} {v1 : Int32} {v2 : Nat} {σ : sS} {z : sZ Int32} {r : Int32 × sS} (hf : T_L_truths_0 v0 v1 v2 σ = some z) (k : s_K G (d + 5) M_L_truths vs0 σ0 Y_L_truths e_I z r) : s_V G (d + 5) M_L_truths vs0 σ0 Y_L_truths (0, [.ref v0, .int v1, .ref v2], σ) (e_I r) := by
  have le0 : s_le σ (e_I r).2 := s_lek hem_I (l_L_truths_0 hf) k
  refine ⟨le0, ?_⟩
  intro p e s m below meth c H locs cells slots ls X I hn1 hn2 hl
  have hn : cells + σ0.2.1 ≤ σ.2.1 ∧ slots + σ0.2.2.1 ≤ σ.2.2.1 := ⟨hn1, hn2⟩
  have hl : lv_has ls 4 [(0, .ref v0), (1, .int v1), (2, .ref v2)] := hl
  have hx := X.1
  have hb : c.code = cL_truths := X.2.1
  have hown : s.vm.findClass RL = some m.cls := X.2.2.2.2.2.1
  have hts := X.2.2.2.2.2.2.1
  refine W.eq (g2 := F0 m 0 ls []) rfl ?_
  unfold T_L_truths_0 at hf
  obtain ⟨q1, h1, hf⟩ := s_bind hf
  refine lv_aload_n hx hb dL_truths_0 rfl (lv_at hl 2 rfl) ?_
  refine lv_iconst (v := 0) hx hb dL_truths_1 (by decide) ?_
  refine lv_aload_n hx hb dL_truths_2 rfl (lv_at hl 0 rfl) ?_
  refine lv_iload_n hx hb dL_truths_3 rfl (lv_at hl 1 rfl) ?_
  rcases s_sum_some hf with ⟨x2, hq2, hf⟩ | ⟨E3, hq2, hf⟩
  · have le3 : s_le q1.2 (e_I r).2 := by
      refine s_lek hem_I ?_ k
      obtain ⟨σ4, hh, hf⟩ := s_bind hf
      refine s_lz.tr (s_le2 (s_sl_2 hh)) ?_
      cases hf
      exact s_le.rf
    refine r_callV (Y := M_X7_truths) (v := some (.int x2)) X I w_1436 my_X7_truths (by omega) (t_X7_truths (G := G) (d := d + 0) h1) (b_X7_truths h1) (e_IX_l hq2) rfl hl.1 rfl (Nat.le_of_ble_eq_true rfl) hn le3 dL_truths_4 (fun H locs cells slots I hn1 hn2 => ?_)
    have I : s_I G q1.2 s H locs := I
    have hn : cells + σ0.2.1 ≤ q1.2.2.1 ∧ slots + σ0.2.2.1 ≤ q1.2.2.2.1 := ⟨hn1, hn2⟩
    obtain ⟨σ4, h4, hf⟩ := s_bind hf
    cases hf
    have k : _ = r := k
    subst k
    have le5 : s_le σ4 σ4 := s_le.rf
    refine lv_i2l hx hb dL_truths_7 rfl ?_
    refine r_last X I h4 dL_truths_8 (fun H locs I => ?_)
    have hn := s_k2 (s_sl_2 h4) hn
    refine lv_goto (tgt := 15) hx hb dL_truths_9 (by decide) ?_
    refine lv_iconst (v := 0) hx hb dL_truths_15 (by decide) ?_
    exact r_iret X I rfl rfl rfl hn dL_truths_16
  · rcases s_ite hf with ⟨c6, hf⟩ | ⟨c6, hf⟩
    · subst c6
      have le7 : s_le q1.2 (e_I r).2 := by
        refine s_lek hem_I ?_ k
        cases hf
        exact s_le.rf
      refine r_callVh (x := (0, 9, 12, 13)) (Y := M_X7_truths) (E := "java/lang/IllegalArgumentException") (name := "java/lang/IllegalArgumentException") X I [] [] rfl (fun z hz => by cases hz) rfl (by decide) w_691 (by decide +kernel) w_1436 my_X7_truths (by omega) (t_X7_truths (G := G) (d := d + 0) h1) (b_X7_truths h1) (e_IX_r hq2) rfl hl.1 rfl (Nat.le_of_ble_eq_true rfl) hn le7 dL_truths_4 (fun a5 H locs cells slots I hn1 hn2 => ?_)
      have I : s_I G q1.2 s H locs := I
      have hn : cells + σ0.2.1 ≤ q1.2.2.1 ∧ slots + σ0.2.2.1 ≤ q1.2.2.2.1 := ⟨hn1, hn2⟩
      cases hf
      have k : _ = r := k
      subst k
      refine lv_astore_n (lv' := [(3, .ref a5), (0, .ref v0), (1, .int v1), (2, .ref v2)]) hx hb dL_truths_12 rfl hl (by decide) rfl (fun ls hl => ?_)
      refine lv_iconst (v := 1) hx hb dL_truths_13 (by decide) ?_
      exact r_iret X I rfl rfl rfl hn dL_truths_14
    cases hf
theorem v_L_truths {G : sG} {d : Nat} {vs0 : List Value} {σ0 : sS} {x : sL} {z : sZ Int32} {r : Int32 × sS} (hs : S_L_truths x = some z) (k : s_K G (d + 5) M_L_truths vs0 σ0 Y_L_truths e_I z r) : s_V G (d + 5) M_L_truths vs0 σ0 Y_L_truths x (e_I r) := by
  obtain ⟨pc, vs, σ⟩ := x
  unfold S_L_truths at hs
  dsimp only at hs
  rcases s_ite hs with ⟨c, hs⟩ | ⟨-, hs⟩
  · subst c
    unfold U_L_truths_0 at hs
    obtain ⟨a0, g0, hs⟩ := s_bind hs
    obtain ⟨a1, g1, hs⟩ := s_bind hs
    obtain ⟨a2, g2, hs⟩ := s_bind hs
    obtain ⟨u9, ge, hs⟩ := s_bind hs
    rw [g_r_to g0, g_i_to g1, g_r_to g2, g_e_to ge]
    exact v_L_truths_0 hs k
  cases hs
theorem t_L_truths {G : sG} {d : Nat} {v0 : Nat} {v1 : Int32} {v2 : Nat} {σ : sS} {q : Int32 × sS} (h : F_L_truths v0 v1 v2 σ = some q) : s_T G (d + 5) M_L_truths [.ref v0, .int v1, .ref v2] σ (e_I q) := by
  unfold F_L_truths at h
  exact s_ofVH rfl (by decide) (Nat.le_of_ble_eq_true rfl) rfl rfl (s_run_ind (V := fun x r => s_V G (d + 5) M_L_truths [.ref v0, .int v1, .ref v2] σ Y_L_truths x (e_I r)) (fun x z r hs hk => v_L_truths hs (by cases z <;> exact hk)) h)
/-! X8_truths -/
noncomputable def T_X8_truths_0 (v0 : Nat) (v1 : Int32) (σ : sS) : Option (sZ Int32) :=
  (s_pf σ v0 8 0 (.int 0)).bind fun σ1 =>
  (F_X8_noWorld v0 v1 σ1).bind fun q2 =>
  (F_X8_throwsIf v0 q2.1 1 q2.2).bind fun q3 =>
  if q3.1 = 0 then (some (.inl (24, [.ref v0, .int v1, .int 0, .int 0], q3.2)))
  else (some (.inr (0, q3.2)))
noncomputable def U_X8_truths_0 (vs : List Value) (σ : sS) : Option (sZ Int32) := (g_r vs).bind fun a0 => (g_i a0.2).bind fun a1 => (g_e a1.2).bind fun _ => T_X8_truths_0 a0.1 a1.1 σ
noncomputable def T_X8_truths_24 (v0 : Nat) (v1 : Int32) (v2 : Int32) (v3 : Int32) (σ : sS) : Option (sZ Int32) :=
  (F_X8_formulas v0 σ).bind fun q1 =>
  if q1.1 ≤ v3 then (some (.inr (v2, q1.2)))
  else ((F_X8_isTrue v0 v3 v1 q1.2).bind fun q2 =>
  if q2.1 = 0 then (some (.inl (47, [.ref v0, .int v1, .int v3, .int 0, .int v2], q2.2)))
  else (some (.inl (47, [.ref v0, .int v1, .int v3, .int 1, .int v2], q2.2))))
noncomputable def U_X8_truths_24 (vs : List Value) (σ : sS) : Option (sZ Int32) := (g_r vs).bind fun a0 => (g_i a0.2).bind fun a1 => (g_i a1.2).bind fun a2 => (g_i a2.2).bind fun a3 => (g_e a3.2).bind fun _ => T_X8_truths_24 a0.1 a1.1 a2.1 a3.1 σ
noncomputable def T_X8_truths_47 (v0 : Nat) (v1 : Int32) (v3 : Int32) (w0 : Int32) (w1 : Int32) (σ : sS) : Option (sZ Int32) :=
  some (.inl (24, [.ref v0, .int v1, .int (w1 + w0), .int (v3 + 1)], σ))
noncomputable def U_X8_truths_47 (vs : List Value) (σ : sS) : Option (sZ Int32) := (g_r vs).bind fun a0 => (g_i a0.2).bind fun a1 => (g_i a1.2).bind fun a2 => (g_i a2.2).bind fun a3 => (g_i a3.2).bind fun a4 => (g_e a4.2).bind fun _ => T_X8_truths_47 a0.1 a1.1 a2.1 a3.1 a4.1 σ
noncomputable def S_X8_truths (x : sL) : Option (sZ Int32) := if x.1 = 0 then U_X8_truths_0 x.2.1 x.2.2 else if x.1 = 24 then U_X8_truths_24 x.2.1 x.2.2 else if x.1 = 47 then U_X8_truths_47 x.2.1 x.2.2 else none
def Y_X8_truths (pc : Nat) : List Nat := if pc = 0 then [0, 1] else if pc = 24 then [0, 1, 2, 3] else if pc = 47 then [0, 1, 3] else []
noncomputable def F_X8_truths (v0 : Nat) (v1 : Int32) (σ : sS) : Option (Int32 × sS) := (s_is σ v0 8).bind fun _ => s_run S_X8_truths (0, [.ref v0, .int v1], σ)
theorem l_X8_truths_0 {v0 : Nat} {v1 : Int32} {σ : sS} {z : sZ Int32} (hf : T_X8_truths_0 v0 v1 σ = some z) : s_lz σ z := by
  unfold T_X8_truths_0 at hf
  obtain ⟨σ1, hh, hf⟩ := s_bind hf
  refine s_lz.tr (s_le2 (s_pf_2 hh)) ?_
  obtain ⟨q2, hh, hf⟩ := s_bind hf
  refine s_lz.tr (l_X8_noWorld hh) ?_
  obtain ⟨q3, hh, hf⟩ := s_bind hf
  refine s_lz.tr (l_X8_throwsIf hh) ?_
  rcases s_ite hf with ⟨-, hf⟩ | ⟨-, hf⟩
  · cases hf
    exact s_le.rf
  · cases hf
    exact s_le.rf
theorem l_X8_truths_24 {v0 : Nat} {v1 : Int32} {v2 : Int32} {v3 : Int32} {σ : sS} {z : sZ Int32} (hf : T_X8_truths_24 v0 v1 v2 v3 σ = some z) : s_lz σ z := by
  unfold T_X8_truths_24 at hf
  obtain ⟨q1, hh, hf⟩ := s_bind hf
  refine s_lz.tr (l_X8_formulas hh) ?_
  rcases s_ite hf with ⟨-, hf⟩ | ⟨-, hf⟩
  · cases hf
    exact s_le.rf
  · obtain ⟨q2, hh, hf⟩ := s_bind hf
    refine s_lz.tr (l_X8_isTrue hh) ?_
    rcases s_ite hf with ⟨-, hf⟩ | ⟨-, hf⟩
    · cases hf
      exact s_le.rf
    · cases hf
      exact s_le.rf
theorem l_X8_truths_47 {v0 : Nat} {v1 : Int32} {v3 : Int32} {w0 : Int32} {w1 : Int32} {σ : sS} {z : sZ Int32} (hf : T_X8_truths_47 v0 v1 v3 w0 w1 σ = some z) : s_lz σ z := by
  unfold T_X8_truths_47 at hf
  cases hf
  exact s_le.rf
theorem l_X8_truths_s {x : sL} {z : sZ Int32} (hs : S_X8_truths x = some z) : s_lz x.2.2 z := by
  obtain ⟨pc, vs, σ⟩ := x
  unfold S_X8_truths at hs
  dsimp only at hs ⊢
  rcases s_ite hs with ⟨c, hs⟩ | ⟨-, hs⟩
  · subst c
    unfold U_X8_truths_0 at hs
    obtain ⟨a0, g0, hs⟩ := s_bind hs
    obtain ⟨a1, g1, hs⟩ := s_bind hs
    obtain ⟨u9, ge, hs⟩ := s_bind hs
    exact l_X8_truths_0 hs
  rcases s_ite hs with ⟨c, hs⟩ | ⟨-, hs⟩
  · subst c
    unfold U_X8_truths_24 at hs
    obtain ⟨a0, g0, hs⟩ := s_bind hs
    obtain ⟨a1, g1, hs⟩ := s_bind hs
    obtain ⟨a2, g2, hs⟩ := s_bind hs
    obtain ⟨a3, g3, hs⟩ := s_bind hs
    obtain ⟨u9, ge, hs⟩ := s_bind hs
    exact l_X8_truths_24 hs
  rcases s_ite hs with ⟨c, hs⟩ | ⟨-, hs⟩
  · subst c
    unfold U_X8_truths_47 at hs
    obtain ⟨a0, g0, hs⟩ := s_bind hs
    obtain ⟨a1, g1, hs⟩ := s_bind hs
    obtain ⟨a2, g2, hs⟩ := s_bind hs
    obtain ⟨a3, g3, hs⟩ := s_bind hs
    obtain ⟨a4, g4, hs⟩ := s_bind hs
    obtain ⟨u9, ge, hs⟩ := s_bind hs
    exact l_X8_truths_47 hs
  cases hs
theorem l_X8_truths {v0 : Nat} {v1 : Int32} {σ : sS} {q : Int32 × sS} (h : F_X8_truths v0 v1 σ = some q) : s_le σ q.2 := by
  unfold F_X8_truths at h
  obtain ⟨-, -, h⟩ := s_bind h
  exact s_run_ind (V := fun x r => s_le x.2.2 r.2) (fun x z r hs hk => by
    have h9 := l_X8_truths_s hs
    cases z with
    | inl y => exact s_le.tr h9 hk
    | inr q => cases hk; exact h9) h
theorem b_X8_truths {v0 : Nat} {v1 : Int32} {σ : sS} {q : Int32 × sS} (h : F_X8_truths v0 v1 σ = some q) : ∃ fs, σ.1 v0 = some (.inr (8, fs)) := by
  unfold F_X8_truths at h
  obtain ⟨u, hu, -⟩ := s_bind h
  exact s_is_to hu
set_option maxRecDepth 100000 in
set_option maxHeartbeats 4000000 in
theorem v_X8_truths_0 {G : sG} {d : Nat} {vs0 : List Value} {σ0 : sS} {v0 : Nat} {v1 : Int32} {σ : sS} {z : sZ Int32} {r : Int32 × sS} (hf : T_X8_truths_0 v0 v1 σ = some z) (k : s_K G (d + 4) M_X8_truths vs0 σ0 Y_X8_truths e_I z r) : s_V G (d + 4) M_X8_truths vs0 σ0 Y_X8_truths (0, [.ref v0, .int v1], σ) (e_I r) := by
  have le0 : s_le σ (e_I r).2 := s_lek hem_I (l_X8_truths_0 hf) k
  refine ⟨le0, ?_⟩
  intro p e s m below meth c H locs cells slots ls X I hn1 hn2 hl
  have hn : cells + σ0.2.1 ≤ σ.2.1 ∧ slots + σ0.2.2.1 ≤ σ.2.2.1 := ⟨hn1, hn2⟩
  have hl : lv_has ls 4 [(0, .ref v0), (1, .int v1)] := hl
  have hx := X.1
  have hb : c.code = cX8_truths := X.2.1
  have hown : s.vm.findClass RX8 = some m.cls := X.2.2.2.2.2.1
  have hts := X.2.2.2.2.2.2.1
  refine W.eq (g2 := F0 m 0 ls []) rfl ?_
  unfold T_X8_truths_0 at hf
  obtain ⟨σ1, h1, hf⟩ := s_bind hf
  obtain ⟨q2, h2, hf⟩ := s_bind hf
  obtain ⟨q3, h3, hf⟩ := s_bind hf
  have le4 : s_le q3.2 (e_I r).2 := by
    refine s_lek hem_I ?_ k
    rcases s_ite hf with ⟨-, hf⟩ | ⟨-, hf⟩
    · cases hf
      exact s_le.rf
    · cases hf
      exact s_le.rf
  have le5 := s_le.tr (l_X8_throwsIf h3) le4
  have le6 := s_le.tr (l_X8_noWorld h2) le5
  refine lv_aload_n hx hb dX8_truths_0 rfl (lv_at hl 0 rfl) ?_
  refine lv_iconst (v := 0) hx hb dX8_truths_1 (by decide) ?_
  refine r_put X I fp_X8_3 (fun h => by cases h) h1 rfl rfl dX8_truths_2 (fun H locs I => ?_)
  have hn := s_k2 (s_pf_2 h1) hn
  refine lv_aload_n hx hb dX8_truths_5 rfl (lv_at hl 0 rfl) ?_
  refine lv_aload_n hx hb dX8_truths_6 rfl (lv_at hl 0 rfl) ?_
  refine lv_iload_n hx hb dX8_truths_7 rfl (lv_at hl 1 rfl) ?_
  refine r_callV (Y := M_X8_noWorld) (v := some (.int q2.1)) X I w_1939 my_X8_noWorld (by omega) (t_X8_noWorld (G := G) (d := d + 0) h2) (b_X8_noWorld h2) rfl rfl hl.1 rfl (Nat.le_of_ble_eq_true rfl) hn le5 dX8_truths_8 (fun H locs cells slots I hn1 hn2 => ?_)
  have I : s_I G q2.2 s H locs := I
  have hn : cells + σ0.2.1 ≤ q2.2.2.1 ∧ slots + σ0.2.2.1 ≤ q2.2.2.2.1 := ⟨hn1, hn2⟩
  refine lv_iconst (v := 1) hx hb dX8_truths_11 (by decide) ?_
  refine r_callV (Y := M_X8_throwsIf) (v := some (.int q3.1)) X I w_1897 my_X8_throwsIf (by omega) (t_X8_throwsIf (G := G) (d := d + 2) h3) (b_X8_throwsIf h3) rfl rfl hl.1 rfl (Nat.le_of_ble_eq_true rfl) hn le4 dX8_truths_12 (fun H locs cells slots I hn1 hn2 => ?_)
  have I : s_I G q3.2 s H locs := I
  have hn : cells + σ0.2.1 ≤ q3.2.2.1 ∧ slots + σ0.2.2.1 ≤ q3.2.2.2.1 := ⟨hn1, hn2⟩
  rcases s_ite hf with ⟨c7, hf⟩ | ⟨c7, hf⟩
  · refine lv_if_eq (tgt := 20) hx hb dX8_truths_15 (by decide) (fun _ => ?_) (fun n => absurd c7 n)
    cases hf
    have k : s_V G (d + 4) M_X8_truths vs0 σ0 Y_X8_truths (24, [.ref v0, .int v1, .int 0, .int 0], q3.2) (e_I r) := k
    refine lv_iconst (v := 0) hx hb dX8_truths_20 (by decide) ?_
    refine lv_istore_n (lv' := [(2, .int 0), (0, .ref v0), (1, .int v1)]) hx hb dX8_truths_21 rfl hl (by decide) rfl (fun ls hl => ?_)
    refine lv_iconst (v := 0) hx hb dX8_truths_22 (by decide) ?_
    refine lv_istore_n (lv' := [(3, .int 0), (2, .int 0), (0, .ref v0), (1, .int v1)]) hx hb dX8_truths_23 rfl hl (by decide) rfl (fun ls hl => ?_)
    exact k.2 p e s m below meth c _ _ _ _ _ X I hn.1 hn.2 (lv_sub hl [2, 3, 1, 0] rfl)
  · refine lv_if_eq (tgt := 20) hx hb dX8_truths_15 (by decide) (fun n => absurd n c7) (fun _ => ?_)
    cases hf
    have k : _ = r := k
    subst k
    refine lv_iconst (v := 0) hx hb dX8_truths_18 (by decide) ?_
    exact r_iret X I rfl rfl rfl hn dX8_truths_19
set_option maxRecDepth 100000 in
set_option maxHeartbeats 4000000 in
theorem v_X8_truths_24 {G : sG} {d : Nat} {vs0 : List Value} {σ0 : sS} {v0 : Nat} {v1 : Int32} {v2 : Int32} {v3 : Int32} {σ : sS} {z : sZ Int32} {r : Int32 × sS} (hf : T_X8_truths_24 v0 v1 v2 v3 σ = some z) (k : s_K G (d + 4) M_X8_truths vs0 σ0 Y_X8_truths e_I z r) : s_V G (d + 4) M_X8_truths vs0 σ0 Y_X8_truths (24, [.ref v0, .int v1, .int v2, .int v3], σ) (e_I r) := by
  have le0 : s_le σ (e_I r).2 := s_lek hem_I (l_X8_truths_24 hf) k
  refine ⟨le0, ?_⟩
  intro p e s m below meth c H locs cells slots ls X I hn1 hn2 hl
  have hn : cells + σ0.2.1 ≤ σ.2.1 ∧ slots + σ0.2.2.1 ≤ σ.2.2.1 := ⟨hn1, hn2⟩
  have hl : lv_has ls 4 [(0, .ref v0), (1, .int v1), (2, .int v2), (3, .int v3)] := hl
  have hx := X.1
  have hb : c.code = cX8_truths := X.2.1
  have hown : s.vm.findClass RX8 = some m.cls := X.2.2.2.2.2.1
  have hts := X.2.2.2.2.2.2.1
  refine W.eq (g2 := F0 m 24 ls []) rfl ?_
  unfold T_X8_truths_24 at hf
  obtain ⟨q1, h1, hf⟩ := s_bind hf
  have le2 : s_le q1.2 (e_I r).2 := by
    refine s_lek hem_I ?_ k
    rcases s_ite hf with ⟨-, hf⟩ | ⟨-, hf⟩
    · cases hf
      exact s_le.rf
    · obtain ⟨q2, hh, hf⟩ := s_bind hf
      refine s_lz.tr (l_X8_isTrue hh) ?_
      rcases s_ite hf with ⟨-, hf⟩ | ⟨-, hf⟩
      · cases hf
        exact s_le.rf
      · cases hf
        exact s_le.rf
  refine lv_iload_n hx hb dX8_truths_24 rfl (lv_at hl 3 rfl) ?_
  refine lv_aload_n hx hb dX8_truths_25 rfl (lv_at hl 0 rfl) ?_
  refine r_callV (Y := M_X8_formulas) (v := some (.int q1.1)) X I w_1813 my_X8_formulas (by omega) (t_X8_formulas (G := G) (d := d + 2) h1) (b_X8_formulas h1) rfl rfl hl.1 rfl (Nat.le_of_ble_eq_true rfl) hn le2 dX8_truths_26 (fun H locs cells slots I hn1 hn2 => ?_)
  have I : s_I G q1.2 s H locs := I
  have hn : cells + σ0.2.1 ≤ q1.2.2.1 ∧ slots + σ0.2.2.1 ≤ q1.2.2.2.1 := ⟨hn1, hn2⟩
  rcases s_ite hf with ⟨c3, hf⟩ | ⟨c3, hf⟩
  · refine lv_icmp_ge (tgt := 55) hx hb dX8_truths_29 (by decide) (fun _ => ?_) (fun n => absurd c3 n)
    cases hf
    have k : _ = r := k
    subst k
    refine lv_iload_n hx hb dX8_truths_55 rfl (lv_at hl 2 rfl) ?_
    exact r_iret X I rfl rfl rfl hn dX8_truths_56
  · refine lv_icmp_ge (tgt := 55) hx hb dX8_truths_29 (by decide) (fun n => absurd n c3) (fun _ => ?_)
    obtain ⟨q2, h4, hf⟩ := s_bind hf
    have le5 : s_le q2.2 (e_I r).2 := by
      refine s_lek hem_I ?_ k
      rcases s_ite hf with ⟨-, hf⟩ | ⟨-, hf⟩
      · cases hf
        exact s_le.rf
      · cases hf
        exact s_le.rf
    refine lv_iload_n hx hb dX8_truths_32 rfl (lv_at hl 2 rfl) ?_
    refine lv_aload_n hx hb dX8_truths_33 rfl (lv_at hl 0 rfl) ?_
    refine lv_iload_n hx hb dX8_truths_34 rfl (lv_at hl 3 rfl) ?_
    refine lv_iload_n hx hb dX8_truths_35 rfl (lv_at hl 1 rfl) ?_
    refine r_callV (Y := M_X8_isTrue) (v := some (.int q2.1)) X I w_1947 my_X8_isTrue (by omega) (t_X8_isTrue (G := G) (d := d + 0) h4) (b_X8_isTrue h4) rfl rfl hl.1 rfl (Nat.le_of_ble_eq_true rfl) hn le5 dX8_truths_36 (fun H locs cells slots I hn1 hn2 => ?_)
    have I : s_I G q2.2 s H locs := I
    have hn : cells + σ0.2.1 ≤ q2.2.2.1 ∧ slots + σ0.2.2.1 ≤ q2.2.2.2.1 := ⟨hn1, hn2⟩
    rcases s_ite hf with ⟨c6, hf⟩ | ⟨c6, hf⟩
    · refine lv_if_eq (tgt := 46) hx hb dX8_truths_39 (by decide) (fun _ => ?_) (fun n => absurd c6 n)
      cases hf
      have k : s_V G (d + 4) M_X8_truths vs0 σ0 Y_X8_truths (47, [.ref v0, .int v1, .int v3, .int 0, .int v2], q2.2) (e_I r) := k
      refine lv_iconst (v := 0) hx hb dX8_truths_46 (by decide) ?_
      exact k.2 p e s m below meth c _ _ _ _ _ X I hn.1 hn.2 (lv_sub hl [0, 1, 3] rfl)
    · refine lv_if_eq (tgt := 46) hx hb dX8_truths_39 (by decide) (fun n => absurd n c6) (fun _ => ?_)
      cases hf
      have k : s_V G (d + 4) M_X8_truths vs0 σ0 Y_X8_truths (47, [.ref v0, .int v1, .int v3, .int 1, .int v2], q2.2) (e_I r) := k
      refine lv_iconst (v := 1) hx hb dX8_truths_42 (by decide) ?_
      refine lv_goto (tgt := 47) hx hb dX8_truths_43 (by decide) ?_
      exact k.2 p e s m below meth c _ _ _ _ _ X I hn.1 hn.2 (lv_sub hl [0, 1, 3] rfl)
set_option maxRecDepth 100000 in
set_option maxHeartbeats 4000000 in
theorem v_X8_truths_47 {G : sG} {d : Nat} {vs0 : List Value} {σ0 : sS} {v0 : Nat} {v1 : Int32} {v3 : Int32} {w0 : Int32} {w1 : Int32} {σ : sS} {z : sZ Int32} {r : Int32 × sS} (hf : T_X8_truths_47 v0 v1 v3 w0 w1 σ = some z) (k : s_K G (d + 4) M_X8_truths vs0 σ0 Y_X8_truths e_I z r) : s_V G (d + 4) M_X8_truths vs0 σ0 Y_X8_truths (47, [.ref v0, .int v1, .int v3, .int w0, .int w1], σ) (e_I r) := by
  have le0 : s_le σ (e_I r).2 := s_lek hem_I (l_X8_truths_47 hf) k
  refine ⟨le0, ?_⟩
  intro p e s m below meth c H locs cells slots ls X I hn1 hn2 hl
  have hn : cells + σ0.2.1 ≤ σ.2.1 ∧ slots + σ0.2.2.1 ≤ σ.2.2.1 := ⟨hn1, hn2⟩
  have hl : lv_has ls 4 [(0, .ref v0), (1, .int v1), (3, .int v3)] := hl
  have hx := X.1
  have hb : c.code = cX8_truths := X.2.1
  have hown : s.vm.findClass RX8 = some m.cls := X.2.2.2.2.2.1
  have hts := X.2.2.2.2.2.2.1
  refine W.eq (g2 := F0 m 47 ls [.int w0, .int w1]) rfl ?_
  unfold T_X8_truths_47 at hf
  cases hf
  have k : s_V G (d + 4) M_X8_truths vs0 σ0 Y_X8_truths (24, [.ref v0, .int v1, .int (w1 + w0), .int (v3 + 1)], σ) (e_I r) := k
  refine lv_iadd hx hb dX8_truths_47 ?_
  refine lv_istore_n (lv' := [(2, .int (w1 + w0)), (0, .ref v0), (1, .int v1), (3, .int v3)]) hx hb dX8_truths_48 rfl hl (by decide) rfl (fun ls hl => ?_)
  refine lv_iinc (v := (v3 + 1)) (lv' := [(3, .int (v3 + 1)), (2, .int (w1 + w0)), (0, .ref v0), (1, .int v1)]) hx hb dX8_truths_49 hl (k := 3) rfl rfl (by decide) rfl (fun ls hl => ?_)
  refine lv_goto (tgt := 24) hx hb dX8_truths_52 (by decide) ?_
  exact k.2 p e s m below meth c _ _ _ _ _ X I hn.1 hn.2 (lv_sub hl [2, 3, 1, 0] rfl)
theorem v_X8_truths {G : sG} {d : Nat} {vs0 : List Value} {σ0 : sS} {x : sL} {z : sZ Int32} {r : Int32 × sS} (hs : S_X8_truths x = some z) (k : s_K G (d + 4) M_X8_truths vs0 σ0 Y_X8_truths e_I z r) : s_V G (d + 4) M_X8_truths vs0 σ0 Y_X8_truths x (e_I r) := by
  obtain ⟨pc, vs, σ⟩ := x
  unfold S_X8_truths at hs
  dsimp only at hs
  rcases s_ite hs with ⟨c, hs⟩ | ⟨-, hs⟩
  · subst c
    unfold U_X8_truths_0 at hs
    obtain ⟨a0, g0, hs⟩ := s_bind hs
    obtain ⟨a1, g1, hs⟩ := s_bind hs
    obtain ⟨u9, ge, hs⟩ := s_bind hs
    rw [g_r_to g0, g_i_to g1, g_e_to ge]
    exact v_X8_truths_0 hs k
  rcases s_ite hs with ⟨c, hs⟩ | ⟨-, hs⟩
  · subst c
    unfold U_X8_truths_24 at hs
    obtain ⟨a0, g0, hs⟩ := s_bind hs
    obtain ⟨a1, g1, hs⟩ := s_bind hs
    obtain ⟨a2, g2, hs⟩ := s_bind hs
    obtain ⟨a3, g3, hs⟩ := s_bind hs
    obtain ⟨u9, ge, hs⟩ := s_bind hs
    rw [g_r_to g0, g_i_to g1, g_i_to g2, g_i_to g3, g_e_to ge]
    exact v_X8_truths_24 hs k
  rcases s_ite hs with ⟨c, hs⟩ | ⟨-, hs⟩
  · subst c
    unfold U_X8_truths_47 at hs
    obtain ⟨a0, g0, hs⟩ := s_bind hs
    obtain ⟨a1, g1, hs⟩ := s_bind hs
    obtain ⟨a2, g2, hs⟩ := s_bind hs
    obtain ⟨a3, g3, hs⟩ := s_bind hs
    obtain ⟨a4, g4, hs⟩ := s_bind hs
    obtain ⟨u9, ge, hs⟩ := s_bind hs
    rw [g_r_to g0, g_i_to g1, g_i_to g2, g_i_to g3, g_i_to g4, g_e_to ge]
    exact v_X8_truths_47 hs k
  cases hs
theorem t_X8_truths {G : sG} {d : Nat} {v0 : Nat} {v1 : Int32} {σ : sS} {q : Int32 × sS} (h : F_X8_truths v0 v1 σ = some q) : s_T G (d + 4) M_X8_truths [.ref v0, .int v1] σ (e_I q) := by
  unfold F_X8_truths at h
  obtain ⟨-, -, h⟩ := s_bind h
  exact s_ofV rfl (by decide) (Nat.le_of_ble_eq_true rfl) rfl rfl (s_run_ind (V := fun x r => s_V G (d + 4) M_X8_truths [.ref v0, .int v1] σ Y_X8_truths x (e_I r)) (fun x z r hs hk => v_X8_truths hs (by cases z <;> exact hk)) h)
/-! X8_agree -/
noncomputable def T_X8_agree_0 (v0 : Nat) (v1 : Int32) (v2 : Int32) (σ : sS) : Option (sZ Int32) :=
  (s_pf σ v0 8 0 (.int 0)).bind fun σ1 =>
  (F_X8_noCustomer v1 σ1).bind fun q2 =>
  if q2.1 = 0 then ((F_X8_noCustomer v2 q2.2).bind fun q3 =>
  if q3.1 = 0 then (some (.inl (25, [.ref v0, .int v1, .int v2, .int 0, .ref v0], q3.2)))
  else (some (.inl (20, [.ref v0, .int v1, .int v2, .ref v0], q3.2))))
  else (some (.inl (20, [.ref v0, .int v1, .int v2, .ref v0], q2.2)))
noncomputable def U_X8_agree_0 (vs : List Value) (σ : sS) : Option (sZ Int32) := (g_r vs).bind fun a0 => (g_i a0.2).bind fun a1 => (g_i a1.2).bind fun a2 => (g_e a2.2).bind fun _ => T_X8_agree_0 a0.1 a1.1 a2.1 σ
noncomputable def T_X8_agree_20 (v0 : Nat) (v1 : Int32) (v2 : Int32) (w0 : Nat) (σ : sS) : Option (sZ Int32) :=
  some (.inl (25, [.ref v0, .int v1, .int v2, .int 1, .ref w0], σ))
noncomputable def U_X8_agree_20 (vs : List Value) (σ : sS) : Option (sZ Int32) := (g_r vs).bind fun a0 => (g_i a0.2).bind fun a1 => (g_i a1.2).bind fun a2 => (g_r a2.2).bind fun a3 => (g_e a3.2).bind fun _ => T_X8_agree_20 a0.1 a1.1 a2.1 a3.1 σ
noncomputable def T_X8_agree_25 (v0 : Nat) (v1 : Int32) (v2 : Int32) (w0 : Int32) (w1 : Nat) (σ : sS) : Option (sZ Int32) :=
  (F_X8_throwsIf w1 w0 1 σ).bind fun q1 =>
  if q1.1 = 0 then ((F_X8_beliefsOf v0 v1 q1.2).bind fun q2 =>
  (F_X8_beliefsOf v0 v2 q2.2).bind fun q3 =>
  (F_X8_leastWorld v0 (q2.1 ||| q3.1) (-1) q3.2).bind fun q4 =>
  some (.inr (q4.1, q4.2)))
  else (some (.inr (0, q1.2)))
noncomputable def U_X8_agree_25 (vs : List Value) (σ : sS) : Option (sZ Int32) := (g_r vs).bind fun a0 => (g_i a0.2).bind fun a1 => (g_i a1.2).bind fun a2 => (g_i a2.2).bind fun a3 => (g_r a3.2).bind fun a4 => (g_e a4.2).bind fun _ => T_X8_agree_25 a0.1 a1.1 a2.1 a3.1 a4.1 σ
noncomputable def S_X8_agree (x : sL) : Option (sZ Int32) := if x.1 = 0 then U_X8_agree_0 x.2.1 x.2.2 else if x.1 = 20 then U_X8_agree_20 x.2.1 x.2.2 else if x.1 = 25 then U_X8_agree_25 x.2.1 x.2.2 else none
def Y_X8_agree (pc : Nat) : List Nat := if pc = 0 then [0, 1, 2] else if pc = 20 then [0, 1, 2] else if pc = 25 then [0, 1, 2] else []
noncomputable def F_X8_agree (v0 : Nat) (v1 : Int32) (v2 : Int32) (σ : sS) : Option (Int32 × sS) := (s_is σ v0 8).bind fun _ => s_run S_X8_agree (0, [.ref v0, .int v1, .int v2], σ)
theorem l_X8_agree_0 {v0 : Nat} {v1 : Int32} {v2 : Int32} {σ : sS} {z : sZ Int32} (hf : T_X8_agree_0 v0 v1 v2 σ = some z) : s_lz σ z := by
  unfold T_X8_agree_0 at hf
  obtain ⟨σ1, hh, hf⟩ := s_bind hf
  refine s_lz.tr (s_le2 (s_pf_2 hh)) ?_
  obtain ⟨q2, hh, hf⟩ := s_bind hf
  refine s_lz.tr (l_X8_noCustomer hh) ?_
  rcases s_ite hf with ⟨-, hf⟩ | ⟨-, hf⟩
  · obtain ⟨q3, hh, hf⟩ := s_bind hf
    refine s_lz.tr (l_X8_noCustomer hh) ?_
    rcases s_ite hf with ⟨-, hf⟩ | ⟨-, hf⟩
    · cases hf
      exact s_le.rf
    · cases hf
      exact s_le.rf
  · cases hf
    exact s_le.rf
theorem l_X8_agree_20 {v0 : Nat} {v1 : Int32} {v2 : Int32} {w0 : Nat} {σ : sS} {z : sZ Int32} (hf : T_X8_agree_20 v0 v1 v2 w0 σ = some z) : s_lz σ z := by
  unfold T_X8_agree_20 at hf
  cases hf
  exact s_le.rf
theorem l_X8_agree_25 {v0 : Nat} {v1 : Int32} {v2 : Int32} {w0 : Int32} {w1 : Nat} {σ : sS} {z : sZ Int32} (hf : T_X8_agree_25 v0 v1 v2 w0 w1 σ = some z) : s_lz σ z := by
  unfold T_X8_agree_25 at hf
  obtain ⟨q1, hh, hf⟩ := s_bind hf
  refine s_lz.tr (l_X8_throwsIf hh) ?_
  rcases s_ite hf with ⟨-, hf⟩ | ⟨-, hf⟩
  · obtain ⟨q2, hh, hf⟩ := s_bind hf
    refine s_lz.tr (l_X8_beliefsOf hh) ?_
    obtain ⟨q3, hh, hf⟩ := s_bind hf
    refine s_lz.tr (l_X8_beliefsOf hh) ?_
    obtain ⟨q4, hh, hf⟩ := s_bind hf
    refine s_lz.tr (l_X8_leastWorld hh) ?_
    cases hf
    exact s_le.rf
  · cases hf
    exact s_le.rf
theorem l_X8_agree_s {x : sL} {z : sZ Int32} (hs : S_X8_agree x = some z) : s_lz x.2.2 z := by
  obtain ⟨pc, vs, σ⟩ := x
  unfold S_X8_agree at hs
  dsimp only at hs ⊢
  rcases s_ite hs with ⟨c, hs⟩ | ⟨-, hs⟩
  · subst c
    unfold U_X8_agree_0 at hs
    obtain ⟨a0, g0, hs⟩ := s_bind hs
    obtain ⟨a1, g1, hs⟩ := s_bind hs
    obtain ⟨a2, g2, hs⟩ := s_bind hs
    obtain ⟨u9, ge, hs⟩ := s_bind hs
    exact l_X8_agree_0 hs
  rcases s_ite hs with ⟨c, hs⟩ | ⟨-, hs⟩
  · subst c
    unfold U_X8_agree_20 at hs
    obtain ⟨a0, g0, hs⟩ := s_bind hs
    obtain ⟨a1, g1, hs⟩ := s_bind hs
    obtain ⟨a2, g2, hs⟩ := s_bind hs
    obtain ⟨a3, g3, hs⟩ := s_bind hs
    obtain ⟨u9, ge, hs⟩ := s_bind hs
    exact l_X8_agree_20 hs
  rcases s_ite hs with ⟨c, hs⟩ | ⟨-, hs⟩
  · subst c
    unfold U_X8_agree_25 at hs
    obtain ⟨a0, g0, hs⟩ := s_bind hs
    obtain ⟨a1, g1, hs⟩ := s_bind hs
    obtain ⟨a2, g2, hs⟩ := s_bind hs
    obtain ⟨a3, g3, hs⟩ := s_bind hs
    obtain ⟨a4, g4, hs⟩ := s_bind hs
    obtain ⟨u9, ge, hs⟩ := s_bind hs
    exact l_X8_agree_25 hs
  cases hs
theorem l_X8_agree {v0 : Nat} {v1 : Int32} {v2 : Int32} {σ : sS} {q : Int32 × sS} (h : F_X8_agree v0 v1 v2 σ = some q) : s_le σ q.2 := by
  unfold F_X8_agree at h
  obtain ⟨-, -, h⟩ := s_bind h
  exact s_run_ind (V := fun x r => s_le x.2.2 r.2) (fun x z r hs hk => by
    have h9 := l_X8_agree_s hs
    cases z with
    | inl y => exact s_le.tr h9 hk
    | inr q => cases hk; exact h9) h
theorem b_X8_agree {v0 : Nat} {v1 : Int32} {v2 : Int32} {σ : sS} {q : Int32 × sS} (h : F_X8_agree v0 v1 v2 σ = some q) : ∃ fs, σ.1 v0 = some (.inr (8, fs)) := by
  unfold F_X8_agree at h
  obtain ⟨u, hu, -⟩ := s_bind h
  exact s_is_to hu
set_option maxRecDepth 100000 in
set_option maxHeartbeats 4000000 in
theorem v_X8_agree_0 {G : sG} {d : Nat} {vs0 : List Value} {σ0 : sS} {v0 : Nat} {v1 : Int32} {v2 : Int32} {σ : sS} {z : sZ Int32} {r : Int32 × sS} (hf : T_X8_agree_0 v0 v1 v2 σ = some z) (k : s_K G (d + 6) M_X8_agree vs0 σ0 Y_X8_agree e_I z r) : s_V G (d + 6) M_X8_agree vs0 σ0 Y_X8_agree (0, [.ref v0, .int v1, .int v2], σ) (e_I r) := by
  have le0 : s_le σ (e_I r).2 := s_lek hem_I (l_X8_agree_0 hf) k
  refine ⟨le0, ?_⟩
  intro p e s m below meth c H locs cells slots ls X I hn1 hn2 hl
  have hn : cells + σ0.2.1 ≤ σ.2.1 ∧ slots + σ0.2.2.1 ≤ σ.2.2.1 := ⟨hn1, hn2⟩
  have hl : lv_has ls 3 [(0, .ref v0), (1, .int v1), (2, .int v2)] := hl
  have hx := X.1
  have hb : c.code = cX8_agree := X.2.1
  have hown : s.vm.findClass RX8 = some m.cls := X.2.2.2.2.2.1
  have hts := X.2.2.2.2.2.2.1
  refine W.eq (g2 := F0 m 0 ls []) rfl ?_
  unfold T_X8_agree_0 at hf
  obtain ⟨σ1, h1, hf⟩ := s_bind hf
  obtain ⟨q2, h2, hf⟩ := s_bind hf
  have le3 : s_le q2.2 (e_I r).2 := by
    refine s_lek hem_I ?_ k
    rcases s_ite hf with ⟨-, hf⟩ | ⟨-, hf⟩
    · obtain ⟨q3, hh, hf⟩ := s_bind hf
      refine s_lz.tr (l_X8_noCustomer hh) ?_
      rcases s_ite hf with ⟨-, hf⟩ | ⟨-, hf⟩
      · cases hf
        exact s_le.rf
      · cases hf
        exact s_le.rf
    · cases hf
      exact s_le.rf
  have le4 := s_le.tr (l_X8_noCustomer h2) le3
  refine lv_aload_n hx hb dX8_agree_0 rfl (lv_at hl 0 rfl) ?_
  refine lv_iconst (v := 0) hx hb dX8_agree_1 (by decide) ?_
  refine r_put X I fp_X8_3 (fun h => by cases h) h1 rfl rfl dX8_agree_2 (fun H locs I => ?_)
  have hn := s_k2 (s_pf_2 h1) hn
  refine lv_aload_n hx hb dX8_agree_5 rfl (lv_at hl 0 rfl) ?_
  refine lv_iload_n hx hb dX8_agree_6 rfl (lv_at hl 1 rfl) ?_
  refine r_callS (Y := M_X8_noCustomer) (v := some (.int q2.1)) X I w_1984 my_X8_noCustomer (by omega) (t_X8_noCustomer (G := G) (d := d + 3) h2) rfl rfl hl.1 rfl (Nat.le_of_ble_eq_true rfl) hn le3 dX8_agree_7 (fun H locs cells slots I hn1 hn2 => ?_)
  have I : s_I G q2.2 s H locs := I
  have hn : cells + σ0.2.1 ≤ q2.2.2.1 ∧ slots + σ0.2.2.1 ≤ q2.2.2.2.1 := ⟨hn1, hn2⟩
  rcases s_ite hf with ⟨c5, hf⟩ | ⟨c5, hf⟩
  · refine lv_if_ne (tgt := 20) hx hb dX8_agree_10 (by decide) (fun n => absurd c5 n) (fun _ => ?_)
    obtain ⟨q3, h6, hf⟩ := s_bind hf
    have le7 : s_le q3.2 (e_I r).2 := by
      refine s_lek hem_I ?_ k
      rcases s_ite hf with ⟨-, hf⟩ | ⟨-, hf⟩
      · cases hf
        exact s_le.rf
      · cases hf
        exact s_le.rf
    refine lv_iload_n hx hb dX8_agree_13 rfl (lv_at hl 2 rfl) ?_
    refine r_callS (Y := M_X8_noCustomer) (v := some (.int q3.1)) X I w_1984 my_X8_noCustomer (by omega) (t_X8_noCustomer (G := G) (d := d + 3) h6) rfl rfl hl.1 rfl (Nat.le_of_ble_eq_true rfl) hn le7 dX8_agree_14 (fun H locs cells slots I hn1 hn2 => ?_)
    have I : s_I G q3.2 s H locs := I
    have hn : cells + σ0.2.1 ≤ q3.2.2.1 ∧ slots + σ0.2.2.1 ≤ q3.2.2.2.1 := ⟨hn1, hn2⟩
    rcases s_ite hf with ⟨c8, hf⟩ | ⟨c8, hf⟩
    · refine lv_if_eq (tgt := 24) hx hb dX8_agree_17 (by decide) (fun _ => ?_) (fun n => absurd c8 n)
      cases hf
      have k : s_V G (d + 6) M_X8_agree vs0 σ0 Y_X8_agree (25, [.ref v0, .int v1, .int v2, .int 0, .ref v0], q3.2) (e_I r) := k
      refine lv_iconst (v := 0) hx hb dX8_agree_24 (by decide) ?_
      exact k.2 p e s m below meth c _ _ _ _ _ X I hn.1 hn.2 (lv_sub hl [0, 1, 2] rfl)
    · refine lv_if_eq (tgt := 24) hx hb dX8_agree_17 (by decide) (fun n => absurd n c8) (fun _ => ?_)
      cases hf
      have k : s_V G (d + 6) M_X8_agree vs0 σ0 Y_X8_agree (20, [.ref v0, .int v1, .int v2, .ref v0], q3.2) (e_I r) := k
      exact k.2 p e s m below meth c _ _ _ _ _ X I hn.1 hn.2 (lv_sub hl [0, 1, 2] rfl)
  · refine lv_if_ne (tgt := 20) hx hb dX8_agree_10 (by decide) (fun _ => ?_) (fun n => absurd n c5)
    cases hf
    have k : s_V G (d + 6) M_X8_agree vs0 σ0 Y_X8_agree (20, [.ref v0, .int v1, .int v2, .ref v0], q2.2) (e_I r) := k
    exact k.2 p e s m below meth c _ _ _ _ _ X I hn.1 hn.2 (lv_sub hl [0, 1, 2] rfl)
set_option maxRecDepth 100000 in
set_option maxHeartbeats 4000000 in
theorem v_X8_agree_20 {G : sG} {d : Nat} {vs0 : List Value} {σ0 : sS} {v0 : Nat} {v1 : Int32} {v2 : Int32} {w0 : Nat} {σ : sS} {z : sZ Int32} {r : Int32 × sS} (hf : T_X8_agree_20 v0 v1 v2 w0 σ = some z) (k : s_K G (d + 6) M_X8_agree vs0 σ0 Y_X8_agree e_I z r) : s_V G (d + 6) M_X8_agree vs0 σ0 Y_X8_agree (20, [.ref v0, .int v1, .int v2, .ref w0], σ) (e_I r) := by
  have le0 : s_le σ (e_I r).2 := s_lek hem_I (l_X8_agree_20 hf) k
  refine ⟨le0, ?_⟩
  intro p e s m below meth c H locs cells slots ls X I hn1 hn2 hl
  have hn : cells + σ0.2.1 ≤ σ.2.1 ∧ slots + σ0.2.2.1 ≤ σ.2.2.1 := ⟨hn1, hn2⟩
  have hl : lv_has ls 3 [(0, .ref v0), (1, .int v1), (2, .int v2)] := hl
  have hx := X.1
  have hb : c.code = cX8_agree := X.2.1
  have hown : s.vm.findClass RX8 = some m.cls := X.2.2.2.2.2.1
  have hts := X.2.2.2.2.2.2.1
  refine W.eq (g2 := F0 m 20 ls [.ref w0]) rfl ?_
  unfold T_X8_agree_20 at hf
  cases hf
  have k : s_V G (d + 6) M_X8_agree vs0 σ0 Y_X8_agree (25, [.ref v0, .int v1, .int v2, .int 1, .ref w0], σ) (e_I r) := k
  refine lv_iconst (v := 1) hx hb dX8_agree_20 (by decide) ?_
  refine lv_goto (tgt := 25) hx hb dX8_agree_21 (by decide) ?_
  exact k.2 p e s m below meth c _ _ _ _ _ X I hn.1 hn.2 (lv_sub hl [0, 1, 2] rfl)
set_option maxRecDepth 100000 in
set_option maxHeartbeats 4000000 in
theorem v_X8_agree_25 {G : sG} {d : Nat} {vs0 : List Value} {σ0 : sS} {v0 : Nat} {v1 : Int32} {v2 : Int32} {w0 : Int32} {w1 : Nat} {σ : sS} {z : sZ Int32} {r : Int32 × sS} (hf : T_X8_agree_25 v0 v1 v2 w0 w1 σ = some z) (k : s_K G (d + 6) M_X8_agree vs0 σ0 Y_X8_agree e_I z r) : s_V G (d + 6) M_X8_agree vs0 σ0 Y_X8_agree (25, [.ref v0, .int v1, .int v2, .int w0, .ref w1], σ) (e_I r) := by
  have le0 : s_le σ (e_I r).2 := s_lek hem_I (l_X8_agree_25 hf) k
  refine ⟨le0, ?_⟩
  intro p e s m below meth c H locs cells slots ls X I hn1 hn2 hl
  have hn : cells + σ0.2.1 ≤ σ.2.1 ∧ slots + σ0.2.2.1 ≤ σ.2.2.1 := ⟨hn1, hn2⟩
  have hl : lv_has ls 3 [(0, .ref v0), (1, .int v1), (2, .int v2)] := hl
  have hx := X.1
  have hb : c.code = cX8_agree := X.2.1
  have hown : s.vm.findClass RX8 = some m.cls := X.2.2.2.2.2.1
  have hts := X.2.2.2.2.2.2.1
  refine W.eq (g2 := F0 m 25 ls [.int w0, .ref w1]) rfl ?_
  unfold T_X8_agree_25 at hf
  obtain ⟨q1, h1, hf⟩ := s_bind hf
  have le2 : s_le q1.2 (e_I r).2 := by
    refine s_lek hem_I ?_ k
    rcases s_ite hf with ⟨-, hf⟩ | ⟨-, hf⟩
    · obtain ⟨q2, hh, hf⟩ := s_bind hf
      refine s_lz.tr (l_X8_beliefsOf hh) ?_
      obtain ⟨q3, hh, hf⟩ := s_bind hf
      refine s_lz.tr (l_X8_beliefsOf hh) ?_
      obtain ⟨q4, hh, hf⟩ := s_bind hf
      refine s_lz.tr (l_X8_leastWorld hh) ?_
      cases hf
      exact s_le.rf
    · cases hf
      exact s_le.rf
  refine lv_iconst (v := 1) hx hb dX8_agree_25 (by decide) ?_
  refine r_callV (Y := M_X8_throwsIf) (v := some (.int q1.1)) X I w_1897 my_X8_throwsIf (by omega) (t_X8_throwsIf (G := G) (d := d + 4) h1) (b_X8_throwsIf h1) rfl rfl hl.1 rfl (Nat.le_of_ble_eq_true rfl) hn le2 dX8_agree_26 (fun H locs cells slots I hn1 hn2 => ?_)
  have I : s_I G q1.2 s H locs := I
  have hn : cells + σ0.2.1 ≤ q1.2.2.1 ∧ slots + σ0.2.2.1 ≤ q1.2.2.2.1 := ⟨hn1, hn2⟩
  rcases s_ite hf with ⟨c3, hf⟩ | ⟨c3, hf⟩
  · refine lv_if_eq (tgt := 36) hx hb dX8_agree_29 (by decide) (fun _ => ?_) (fun n => absurd c3 n)
    obtain ⟨q2, h4, hf⟩ := s_bind hf
    obtain ⟨q3, h5, hf⟩ := s_bind hf
    obtain ⟨q4, h6, hf⟩ := s_bind hf
    cases hf
    have k : _ = r := k
    subst k
    have le7 : s_le q4.2 q4.2 := s_le.rf
    have le8 := s_le.tr (l_X8_leastWorld h6) le7
    have le9 := s_le.tr (l_X8_beliefsOf h5) le8
    refine lv_aload_n hx hb dX8_agree_36 rfl (lv_at hl 0 rfl) ?_
    refine lv_aload_n hx hb dX8_agree_37 rfl (lv_at hl 0 rfl) ?_
    refine lv_iload_n hx hb dX8_agree_38 rfl (lv_at hl 1 rfl) ?_
    refine r_callV (Y := M_X8_beliefsOf) (v := some (.int q2.1)) X I w_1987 my_X8_beliefsOf (by omega) (t_X8_beliefsOf (G := G) (d := d + 4) h4) (b_X8_beliefsOf h4) rfl rfl hl.1 rfl (Nat.le_of_ble_eq_true rfl) hn le9 dX8_agree_39 (fun H locs cells slots I hn1 hn2 => ?_)
    have I : s_I G q2.2 s H locs := I
    have hn : cells + σ0.2.1 ≤ q2.2.2.1 ∧ slots + σ0.2.2.1 ≤ q2.2.2.2.1 := ⟨hn1, hn2⟩
    refine lv_aload_n hx hb dX8_agree_42 rfl (lv_at hl 0 rfl) ?_
    refine lv_iload_n hx hb dX8_agree_43 rfl (lv_at hl 2 rfl) ?_
    refine r_callV (Y := M_X8_beliefsOf) (v := some (.int q3.1)) X I w_1987 my_X8_beliefsOf (by omega) (t_X8_beliefsOf (G := G) (d := d + 4) h5) (b_X8_beliefsOf h5) rfl rfl hl.1 rfl (Nat.le_of_ble_eq_true rfl) hn le8 dX8_agree_44 (fun H locs cells slots I hn1 hn2 => ?_)
    have I : s_I G q3.2 s H locs := I
    have hn : cells + σ0.2.1 ≤ q3.2.2.1 ∧ slots + σ0.2.2.1 ≤ q3.2.2.2.1 := ⟨hn1, hn2⟩
    refine lv_ior hx hb dX8_agree_47 ?_
    refine lv_iconst (v := (-1)) hx hb dX8_agree_48 (by decide) ?_
    refine r_callV (Y := M_X8_leastWorld) (v := some (.int q4.1)) X I w_2136 my_X8_leastWorld (by omega) (t_X8_leastWorld (G := G) (d := d + 0) h6) (b_X8_leastWorld h6) rfl rfl hl.1 rfl (Nat.le_of_ble_eq_true rfl) hn le7 dX8_agree_49 (fun H locs cells slots I hn1 hn2 => ?_)
    have I : s_I G q4.2 s H locs := I
    have hn : cells + σ0.2.1 ≤ q4.2.2.1 ∧ slots + σ0.2.2.1 ≤ q4.2.2.2.1 := ⟨hn1, hn2⟩
    exact r_iret X I rfl rfl rfl hn dX8_agree_52
  · refine lv_if_eq (tgt := 36) hx hb dX8_agree_29 (by decide) (fun n => absurd n c3) (fun _ => ?_)
    cases hf
    have k : _ = r := k
    subst k
    refine lv_iconst (v := 0) hx hb dX8_agree_32 (by decide) ?_
    refine lv_goto (tgt := 52) hx hb dX8_agree_33 (by decide) ?_
    exact r_iret X I rfl rfl rfl hn dX8_agree_52
theorem v_X8_agree {G : sG} {d : Nat} {vs0 : List Value} {σ0 : sS} {x : sL} {z : sZ Int32} {r : Int32 × sS} (hs : S_X8_agree x = some z) (k : s_K G (d + 6) M_X8_agree vs0 σ0 Y_X8_agree e_I z r) : s_V G (d + 6) M_X8_agree vs0 σ0 Y_X8_agree x (e_I r) := by
  obtain ⟨pc, vs, σ⟩ := x
  unfold S_X8_agree at hs
  dsimp only at hs
  rcases s_ite hs with ⟨c, hs⟩ | ⟨-, hs⟩
  · subst c
    unfold U_X8_agree_0 at hs
    obtain ⟨a0, g0, hs⟩ := s_bind hs
    obtain ⟨a1, g1, hs⟩ := s_bind hs
    obtain ⟨a2, g2, hs⟩ := s_bind hs
    obtain ⟨u9, ge, hs⟩ := s_bind hs
    rw [g_r_to g0, g_i_to g1, g_i_to g2, g_e_to ge]
    exact v_X8_agree_0 hs k
  rcases s_ite hs with ⟨c, hs⟩ | ⟨-, hs⟩
  · subst c
    unfold U_X8_agree_20 at hs
    obtain ⟨a0, g0, hs⟩ := s_bind hs
    obtain ⟨a1, g1, hs⟩ := s_bind hs
    obtain ⟨a2, g2, hs⟩ := s_bind hs
    obtain ⟨a3, g3, hs⟩ := s_bind hs
    obtain ⟨u9, ge, hs⟩ := s_bind hs
    rw [g_r_to g0, g_i_to g1, g_i_to g2, g_r_to g3, g_e_to ge]
    exact v_X8_agree_20 hs k
  rcases s_ite hs with ⟨c, hs⟩ | ⟨-, hs⟩
  · subst c
    unfold U_X8_agree_25 at hs
    obtain ⟨a0, g0, hs⟩ := s_bind hs
    obtain ⟨a1, g1, hs⟩ := s_bind hs
    obtain ⟨a2, g2, hs⟩ := s_bind hs
    obtain ⟨a3, g3, hs⟩ := s_bind hs
    obtain ⟨a4, g4, hs⟩ := s_bind hs
    obtain ⟨u9, ge, hs⟩ := s_bind hs
    rw [g_r_to g0, g_i_to g1, g_i_to g2, g_i_to g3, g_r_to g4, g_e_to ge]
    exact v_X8_agree_25 hs k
  cases hs
theorem t_X8_agree {G : sG} {d : Nat} {v0 : Nat} {v1 : Int32} {v2 : Int32} {σ : sS} {q : Int32 × sS} (h : F_X8_agree v0 v1 v2 σ = some q) : s_T G (d + 6) M_X8_agree [.ref v0, .int v1, .int v2] σ (e_I q) := by
  unfold F_X8_agree at h
  obtain ⟨-, -, h⟩ := s_bind h
  exact s_ofV rfl (by decide) (Nat.le_of_ble_eq_true rfl) rfl rfl (s_run_ind (V := fun x r => s_V G (d + 6) M_X8_agree [.ref v0, .int v1, .int v2] σ Y_X8_agree x (e_I r)) (fun x z r hs hk => v_X8_agree hs (by cases z <;> exact hk)) h)
/-! X3_fewestFailing -/
noncomputable def T_X3_fewestFailing_0 (v0 : Nat) (v1 : Int32) (σ : sS) : Option (sZ Int32) :=
  (F_X3_listMembers v0 v1 σ).bind fun q1 =>
  some (.inl (18, [.ref v0, .int q1.1, .int ((1 <<< (q1.1 &&& 31)) - 1), .int ((1 <<< (q1.1 &&& 31)) - 1), .int 0], q1.2))
noncomputable def U_X3_fewestFailing_0 (vs : List Value) (σ : sS) : Option (sZ Int32) := (g_r vs).bind fun a0 => (g_i a0.2).bind fun a1 => (g_e a1.2).bind fun _ => T_X3_fewestFailing_0 a0.1 a1.1 σ
noncomputable def T_X3_fewestFailing_18 (v0 : Nat) (v2 : Int32) (v3 : Int32) (v4 : Int32) (v5 : Int32) (σ : sS) : Option (sZ Int32) :=
  (s_fr σ v0 3 0).bind fun x1 =>
  (F_X1_worldCount x1 σ).bind fun q2 =>
  if q2.1 ≤ v5 then ((F_X3_formulasOf v0 v4 q2.2).bind fun q3 =>
  some (.inr (q3.1, q3.2)))
  else ((F_X3_membersIn v0 v5 v2 q2.2).bind fun q4 =>
  (F_X3_isBetter (v3 &&& (q4.1 ^^^ (-1))) v4 q4.2).bind fun q5 =>
  if q5.1 = 0 then (some (.inl (57, [.ref v0, .int v2, .int v3, .int v4, .int v5], q5.2)))
  else (some (.inl (57, [.ref v0, .int v2, .int v3, .int (v3 &&& (q4.1 ^^^ (-1))), .int v5], q5.2))))
noncomputable def U_X3_fewestFailing_18 (vs : List Value) (σ : sS) : Option (sZ Int32) := (g_r vs).bind fun a0 => (g_i a0.2).bind fun a1 => (g_i a1.2).bind fun a2 => (g_i a2.2).bind fun a3 => (g_i a3.2).bind fun a4 => (g_e a4.2).bind fun _ => T_X3_fewestFailing_18 a0.1 a1.1 a2.1 a3.1 a4.1 σ
noncomputable def T_X3_fewestFailing_57 (v0 : Nat) (v2 : Int32) (v3 : Int32) (v4 : Int32) (v5 : Int32) (σ : sS) : Option (sZ Int32) :=
  some (.inl (18, [.ref v0, .int v2, .int v3, .int v4, .int (v5 + 1)], σ))
noncomputable def U_X3_fewestFailing_57 (vs : List Value) (σ : sS) : Option (sZ Int32) := (g_r vs).bind fun a0 => (g_i a0.2).bind fun a1 => (g_i a1.2).bind fun a2 => (g_i a2.2).bind fun a3 => (g_i a3.2).bind fun a4 => (g_e a4.2).bind fun _ => T_X3_fewestFailing_57 a0.1 a1.1 a2.1 a3.1 a4.1 σ
noncomputable def S_X3_fewestFailing (x : sL) : Option (sZ Int32) := if x.1 = 0 then U_X3_fewestFailing_0 x.2.1 x.2.2 else if x.1 = 18 then U_X3_fewestFailing_18 x.2.1 x.2.2 else if x.1 = 57 then U_X3_fewestFailing_57 x.2.1 x.2.2 else none
def Y_X3_fewestFailing (pc : Nat) : List Nat := if pc = 0 then [0, 1] else if pc = 18 then [0, 2, 3, 4, 5] else if pc = 57 then [0, 2, 3, 4, 5] else []
noncomputable def F_X3_fewestFailing (v0 : Nat) (v1 : Int32) (σ : sS) : Option (Int32 × sS) := (s_is σ v0 3).bind fun _ => s_run S_X3_fewestFailing (0, [.ref v0, .int v1], σ)
theorem l_X3_fewestFailing_0 {v0 : Nat} {v1 : Int32} {σ : sS} {z : sZ Int32} (hf : T_X3_fewestFailing_0 v0 v1 σ = some z) : s_lz σ z := by
  unfold T_X3_fewestFailing_0 at hf
  obtain ⟨q1, hh, hf⟩ := s_bind hf
  refine s_lz.tr (l_X3_listMembers hh) ?_
  cases hf
  exact s_le.rf
theorem l_X3_fewestFailing_18 {v0 : Nat} {v2 : Int32} {v3 : Int32} {v4 : Int32} {v5 : Int32} {σ : sS} {z : sZ Int32} (hf : T_X3_fewestFailing_18 v0 v2 v3 v4 v5 σ = some z) : s_lz σ z := by
  unfold T_X3_fewestFailing_18 at hf
  obtain ⟨x1, -, hf⟩ := s_bind hf
  obtain ⟨q2, hh, hf⟩ := s_bind hf
  refine s_lz.tr (l_X1_worldCount hh) ?_
  rcases s_ite hf with ⟨-, hf⟩ | ⟨-, hf⟩
  · obtain ⟨q3, hh, hf⟩ := s_bind hf
    refine s_lz.tr (l_X3_formulasOf hh) ?_
    cases hf
    exact s_le.rf
  · obtain ⟨q4, hh, hf⟩ := s_bind hf
    refine s_lz.tr (l_X3_membersIn hh) ?_
    obtain ⟨q5, hh, hf⟩ := s_bind hf
    refine s_lz.tr (l_X3_isBetter hh) ?_
    rcases s_ite hf with ⟨-, hf⟩ | ⟨-, hf⟩
    · cases hf
      exact s_le.rf
    · cases hf
      exact s_le.rf
theorem l_X3_fewestFailing_57 {v0 : Nat} {v2 : Int32} {v3 : Int32} {v4 : Int32} {v5 : Int32} {σ : sS} {z : sZ Int32} (hf : T_X3_fewestFailing_57 v0 v2 v3 v4 v5 σ = some z) : s_lz σ z := by
  unfold T_X3_fewestFailing_57 at hf
  cases hf
  exact s_le.rf
theorem l_X3_fewestFailing_s {x : sL} {z : sZ Int32} (hs : S_X3_fewestFailing x = some z) : s_lz x.2.2 z := by
  obtain ⟨pc, vs, σ⟩ := x
  unfold S_X3_fewestFailing at hs
  dsimp only at hs ⊢
  rcases s_ite hs with ⟨c, hs⟩ | ⟨-, hs⟩
  · subst c
    unfold U_X3_fewestFailing_0 at hs
    obtain ⟨a0, g0, hs⟩ := s_bind hs
    obtain ⟨a1, g1, hs⟩ := s_bind hs
    obtain ⟨u9, ge, hs⟩ := s_bind hs
    exact l_X3_fewestFailing_0 hs
  rcases s_ite hs with ⟨c, hs⟩ | ⟨-, hs⟩
  · subst c
    unfold U_X3_fewestFailing_18 at hs
    obtain ⟨a0, g0, hs⟩ := s_bind hs
    obtain ⟨a1, g1, hs⟩ := s_bind hs
    obtain ⟨a2, g2, hs⟩ := s_bind hs
    obtain ⟨a3, g3, hs⟩ := s_bind hs
    obtain ⟨a4, g4, hs⟩ := s_bind hs
    obtain ⟨u9, ge, hs⟩ := s_bind hs
    exact l_X3_fewestFailing_18 hs
  rcases s_ite hs with ⟨c, hs⟩ | ⟨-, hs⟩
  · subst c
    unfold U_X3_fewestFailing_57 at hs
    obtain ⟨a0, g0, hs⟩ := s_bind hs
    obtain ⟨a1, g1, hs⟩ := s_bind hs
    obtain ⟨a2, g2, hs⟩ := s_bind hs
    obtain ⟨a3, g3, hs⟩ := s_bind hs
    obtain ⟨a4, g4, hs⟩ := s_bind hs
    obtain ⟨u9, ge, hs⟩ := s_bind hs
    exact l_X3_fewestFailing_57 hs
  cases hs
theorem l_X3_fewestFailing {v0 : Nat} {v1 : Int32} {σ : sS} {q : Int32 × sS} (h : F_X3_fewestFailing v0 v1 σ = some q) : s_le σ q.2 := by
  unfold F_X3_fewestFailing at h
  obtain ⟨-, -, h⟩ := s_bind h
  exact s_run_ind (V := fun x r => s_le x.2.2 r.2) (fun x z r hs hk => by
    have h9 := l_X3_fewestFailing_s hs
    cases z with
    | inl y => exact s_le.tr h9 hk
    | inr q => cases hk; exact h9) h
theorem b_X3_fewestFailing {v0 : Nat} {v1 : Int32} {σ : sS} {q : Int32 × sS} (h : F_X3_fewestFailing v0 v1 σ = some q) : ∃ fs, σ.1 v0 = some (.inr (3, fs)) := by
  unfold F_X3_fewestFailing at h
  obtain ⟨u, hu, -⟩ := s_bind h
  exact s_is_to hu
set_option maxRecDepth 100000 in
set_option maxHeartbeats 4000000 in
theorem v_X3_fewestFailing_0 {G : sG} {d : Nat} {vs0 : List Value} {σ0 : sS} {v0 : Nat} {v1 : Int32} {σ : sS} {z : sZ Int32} {r : Int32 × sS} (hf : T_X3_fewestFailing_0 v0 v1 σ = some z) (k : s_K G (d + 4) M_X3_fewestFailing vs0 σ0 Y_X3_fewestFailing e_I z r) : s_V G (d + 4) M_X3_fewestFailing vs0 σ0 Y_X3_fewestFailing (0, [.ref v0, .int v1], σ) (e_I r) := by
  have le0 : s_le σ (e_I r).2 := s_lek hem_I (l_X3_fewestFailing_0 hf) k
  refine ⟨le0, ?_⟩
  intro p e s m below meth c H locs cells slots ls X I hn1 hn2 hl
  have hn : cells + σ0.2.1 ≤ σ.2.1 ∧ slots + σ0.2.2.1 ≤ σ.2.2.1 := ⟨hn1, hn2⟩
  have hl : lv_has ls 7 [(0, .ref v0), (1, .int v1)] := hl
  have hx := X.1
  have hb : c.code = cX3_fewestFailing := X.2.1
  have hown : s.vm.findClass RX3 = some m.cls := X.2.2.2.2.2.1
  have hts := X.2.2.2.2.2.2.1
  refine W.eq (g2 := F0 m 0 ls []) rfl ?_
  unfold T_X3_fewestFailing_0 at hf
  obtain ⟨q1, h1, hf⟩ := s_bind hf
  cases hf
  have k : s_V G (d + 4) M_X3_fewestFailing vs0 σ0 Y_X3_fewestFailing (18, [.ref v0, .int q1.1, .int ((1 <<< (q1.1 &&& 31)) - 1), .int ((1 <<< (q1.1 &&& 31)) - 1), .int 0], q1.2) (e_I r) := k
  have le2 : s_le q1.2 (e_I r).2 := k.1
  refine lv_aload_n hx hb dX3_fewestFailing_0 rfl (lv_at hl 0 rfl) ?_
  refine lv_iload_n hx hb dX3_fewestFailing_1 rfl (lv_at hl 1 rfl) ?_
  refine r_callV (Y := M_X3_listMembers) (v := some (.int q1.1)) X I w_1476 my_X3_listMembers (by omega) (t_X3_listMembers (G := G) (d := d + 2) h1) (b_X3_listMembers h1) rfl rfl hl.1 rfl (Nat.le_of_ble_eq_true rfl) hn le2 dX3_fewestFailing_2 (fun H locs cells slots I hn1 hn2 => ?_)
  have I : s_I G q1.2 s H locs := I
  have hn : cells + σ0.2.1 ≤ q1.2.2.1 ∧ slots + σ0.2.2.1 ≤ q1.2.2.2.1 := ⟨hn1, hn2⟩
  refine lv_istore_n (lv' := [(2, .int q1.1), (0, .ref v0), (1, .int v1)]) hx hb dX3_fewestFailing_5 rfl hl (by decide) rfl (fun ls hl => ?_)
  refine lv_iconst (v := 1) hx hb dX3_fewestFailing_6 (by decide) ?_
  refine lv_iload_n hx hb dX3_fewestFailing_7 rfl (lv_at hl 0 rfl) ?_
  refine lv_ishl hx hb dX3_fewestFailing_8 ?_
  refine lv_iconst (v := 1) hx hb dX3_fewestFailing_9 (by decide) ?_
  refine lv_isub hx hb dX3_fewestFailing_10 ?_
  refine lv_istore_n (lv' := [(3, .int ((1 <<< (q1.1 &&& 31)) - 1)), (2, .int q1.1), (0, .ref v0), (1, .int v1)]) hx hb dX3_fewestFailing_11 rfl hl (by decide) rfl (fun ls hl => ?_)
  refine lv_iload_n hx hb dX3_fewestFailing_12 rfl (lv_at hl 0 rfl) ?_
  refine lv_istore (lv' := [(4, .int ((1 <<< (q1.1 &&& 31)) - 1)), (3, .int ((1 <<< (q1.1 &&& 31)) - 1)), (2, .int q1.1), (0, .ref v0), (1, .int v1)]) hx hb dX3_fewestFailing_13 hl (by decide) rfl (fun ls hl => ?_)
  refine lv_iconst (v := 0) hx hb dX3_fewestFailing_15 (by decide) ?_
  refine lv_istore (lv' := [(5, .int 0), (4, .int ((1 <<< (q1.1 &&& 31)) - 1)), (3, .int ((1 <<< (q1.1 &&& 31)) - 1)), (2, .int q1.1), (0, .ref v0), (1, .int v1)]) hx hb dX3_fewestFailing_16 hl (by decide) rfl (fun ls hl => ?_)
  exact k.2 p e s m below meth c _ _ _ _ _ X I hn.1 hn.2 (lv_sub hl [4, 3, 2, 1, 0] rfl)
set_option maxRecDepth 100000 in
set_option maxHeartbeats 4000000 in
theorem v_X3_fewestFailing_18 {G : sG} {d : Nat} {vs0 : List Value} {σ0 : sS} {v0 : Nat} {v2 : Int32} {v3 : Int32} {v4 : Int32} {v5 : Int32} {σ : sS} {z : sZ Int32} {r : Int32 × sS} (hf : T_X3_fewestFailing_18 v0 v2 v3 v4 v5 σ = some z) (k : s_K G (d + 4) M_X3_fewestFailing vs0 σ0 Y_X3_fewestFailing e_I z r) : s_V G (d + 4) M_X3_fewestFailing vs0 σ0 Y_X3_fewestFailing (18, [.ref v0, .int v2, .int v3, .int v4, .int v5], σ) (e_I r) := by
  have le0 : s_le σ (e_I r).2 := s_lek hem_I (l_X3_fewestFailing_18 hf) k
  refine ⟨le0, ?_⟩
  intro p e s m below meth c H locs cells slots ls X I hn1 hn2 hl
  have hn : cells + σ0.2.1 ≤ σ.2.1 ∧ slots + σ0.2.2.1 ≤ σ.2.2.1 := ⟨hn1, hn2⟩
  have hl : lv_has ls 7 [(0, .ref v0), (2, .int v2), (3, .int v3), (4, .int v4), (5, .int v5)] := hl
  have hx := X.1
  have hb : c.code = cX3_fewestFailing := X.2.1
  have hown : s.vm.findClass RX3 = some m.cls := X.2.2.2.2.2.1
  have hts := X.2.2.2.2.2.2.1
  refine W.eq (g2 := F0 m 18 ls []) rfl ?_
  unfold T_X3_fewestFailing_18 at hf
  obtain ⟨x1, h1, hf⟩ := s_bind hf
  obtain ⟨q2, h2, hf⟩ := s_bind hf
  have le3 : s_le q2.2 (e_I r).2 := by
    refine s_lek hem_I ?_ k
    rcases s_ite hf with ⟨-, hf⟩ | ⟨-, hf⟩
    · obtain ⟨q3, hh, hf⟩ := s_bind hf
      refine s_lz.tr (l_X3_formulasOf hh) ?_
      cases hf
      exact s_le.rf
    · obtain ⟨q4, hh, hf⟩ := s_bind hf
      refine s_lz.tr (l_X3_membersIn hh) ?_
      obtain ⟨q5, hh, hf⟩ := s_bind hf
      refine s_lz.tr (l_X3_isBetter hh) ?_
      rcases s_ite hf with ⟨-, hf⟩ | ⟨-, hf⟩
      · cases hf
        exact s_le.rf
      · cases hf
        exact s_le.rf
  refine lv_iload hx hb dX3_fewestFailing_18 (lv_at hl 4 rfl) ?_
  refine lv_aload_n hx hb dX3_fewestFailing_20 rfl (lv_at hl 0 rfl) ?_
  refine r_gr X I fl_X3_30 h1 dX3_fewestFailing_21 ?_
  refine r_callV (Y := M_X1_worldCount) (v := some (.int q2.1)) X I w_1480 my_X1_worldCount (by omega) (t_X1_worldCount (G := G) (d := d + 2) h2) (b_X1_worldCount h2) rfl rfl hl.1 rfl (Nat.le_of_ble_eq_true rfl) hn le3 dX3_fewestFailing_24 (fun H locs cells slots I hn1 hn2 => ?_)
  have I : s_I G q2.2 s H locs := I
  have hn : cells + σ0.2.1 ≤ q2.2.2.1 ∧ slots + σ0.2.2.1 ≤ q2.2.2.2.1 := ⟨hn1, hn2⟩
  rcases s_ite hf with ⟨c4, hf⟩ | ⟨c4, hf⟩
  · refine lv_icmp_ge (tgt := 63) hx hb dX3_fewestFailing_27 (by decide) (fun _ => ?_) (fun n => absurd c4 n)
    obtain ⟨q3, h5, hf⟩ := s_bind hf
    cases hf
    have k : _ = r := k
    subst k
    have le6 : s_le q3.2 q3.2 := s_le.rf
    refine lv_aload_n hx hb dX3_fewestFailing_63 rfl (lv_at hl 0 rfl) ?_
    refine lv_iload hx hb dX3_fewestFailing_64 (lv_at hl 3 rfl) ?_
    refine r_callV (Y := M_X3_formulasOf) (v := some (.int q3.1)) X I w_1489 my_X3_formulasOf (by omega) (t_X3_formulasOf (G := G) (d := d + 2) h5) (b_X3_formulasOf h5) rfl rfl hl.1 rfl (Nat.le_of_ble_eq_true rfl) hn le6 dX3_fewestFailing_66 (fun H locs cells slots I hn1 hn2 => ?_)
    have I : s_I G q3.2 s H locs := I
    have hn : cells + σ0.2.1 ≤ q3.2.2.1 ∧ slots + σ0.2.2.1 ≤ q3.2.2.2.1 := ⟨hn1, hn2⟩
    exact r_iret X I rfl rfl rfl hn dX3_fewestFailing_69
  · refine lv_icmp_ge (tgt := 63) hx hb dX3_fewestFailing_27 (by decide) (fun n => absurd n c4) (fun _ => ?_)
    obtain ⟨q4, h7, hf⟩ := s_bind hf
    obtain ⟨q5, h8, hf⟩ := s_bind hf
    have le9 : s_le q5.2 (e_I r).2 := by
      refine s_lek hem_I ?_ k
      rcases s_ite hf with ⟨-, hf⟩ | ⟨-, hf⟩
      · cases hf
        exact s_le.rf
      · cases hf
        exact s_le.rf
    have le10 := s_le.tr (l_X3_isBetter h8) le9
    refine lv_iload_n hx hb dX3_fewestFailing_30 rfl (lv_at hl 2 rfl) ?_
    refine lv_aload_n hx hb dX3_fewestFailing_31 rfl (lv_at hl 0 rfl) ?_
    refine lv_iload hx hb dX3_fewestFailing_32 (lv_at hl 4 rfl) ?_
    refine lv_iload_n hx hb dX3_fewestFailing_34 rfl (lv_at hl 1 rfl) ?_
    refine r_callV (Y := M_X3_membersIn) (v := some (.int q4.1)) X I w_1481 my_X3_membersIn (by omega) (t_X3_membersIn (G := G) (d := d + 0) h7) (b_X3_membersIn h7) rfl rfl hl.1 rfl (Nat.le_of_ble_eq_true rfl) hn le10 dX3_fewestFailing_35 (fun H locs cells slots I hn1 hn2 => ?_)
    have I : s_I G q4.2 s H locs := I
    have hn : cells + σ0.2.1 ≤ q4.2.2.1 ∧ slots + σ0.2.2.1 ≤ q4.2.2.2.1 := ⟨hn1, hn2⟩
    refine lv_iconst (v := (-1)) hx hb dX3_fewestFailing_38 (by decide) ?_
    refine lv_ixor hx hb dX3_fewestFailing_39 ?_
    refine lv_iand hx hb dX3_fewestFailing_40 ?_
    refine lv_istore (lv' := [(6, .int (v3 &&& (q4.1 ^^^ (-1)))), (0, .ref v0), (2, .int v2), (3, .int v3), (4, .int v4), (5, .int v5)]) hx hb dX3_fewestFailing_41 hl (by decide) rfl (fun ls hl => ?_)
    refine lv_iload hx hb dX3_fewestFailing_43 (lv_at hl 0 rfl) ?_
    refine lv_iload hx hb dX3_fewestFailing_45 (lv_at hl 4 rfl) ?_
    refine r_callS (Y := M_X3_isBetter) (v := some (.int q5.1)) X I w_1485 my_X3_isBetter (by omega) (t_X3_isBetter (G := G) (d := d + 1) h8) rfl rfl hl.1 rfl (Nat.le_of_ble_eq_true rfl) hn le9 dX3_fewestFailing_47 (fun H locs cells slots I hn1 hn2 => ?_)
    have I : s_I G q5.2 s H locs := I
    have hn : cells + σ0.2.1 ≤ q5.2.2.1 ∧ slots + σ0.2.2.1 ≤ q5.2.2.2.1 := ⟨hn1, hn2⟩
    rcases s_ite hf with ⟨c11, hf⟩ | ⟨c11, hf⟩
    · refine lv_if_eq (tgt := 57) hx hb dX3_fewestFailing_50 (by decide) (fun _ => ?_) (fun n => absurd c11 n)
      cases hf
      have k : s_V G (d + 4) M_X3_fewestFailing vs0 σ0 Y_X3_fewestFailing (57, [.ref v0, .int v2, .int v3, .int v4, .int v5], q5.2) (e_I r) := k
      exact k.2 p e s m below meth c _ _ _ _ _ X I hn.1 hn.2 (lv_sub hl [1, 2, 3, 4, 5] rfl)
    · refine lv_if_eq (tgt := 57) hx hb dX3_fewestFailing_50 (by decide) (fun n => absurd n c11) (fun _ => ?_)
      cases hf
      have k : s_V G (d + 4) M_X3_fewestFailing vs0 σ0 Y_X3_fewestFailing (57, [.ref v0, .int v2, .int v3, .int (v3 &&& (q4.1 ^^^ (-1))), .int v5], q5.2) (e_I r) := k
      refine lv_iload hx hb dX3_fewestFailing_53 (lv_at hl 0 rfl) ?_
      refine lv_istore (lv' := [(4, .int (v3 &&& (q4.1 ^^^ (-1)))), (6, .int (v3 &&& (q4.1 ^^^ (-1)))), (0, .ref v0), (2, .int v2), (3, .int v3), (5, .int v5)]) hx hb dX3_fewestFailing_55 hl (by decide) rfl (fun ls hl => ?_)
      exact k.2 p e s m below meth c _ _ _ _ _ X I hn.1 hn.2 (lv_sub hl [2, 3, 4, 0, 5] rfl)
set_option maxRecDepth 100000 in
set_option maxHeartbeats 4000000 in
theorem v_X3_fewestFailing_57 {G : sG} {d : Nat} {vs0 : List Value} {σ0 : sS} {v0 : Nat} {v2 : Int32} {v3 : Int32} {v4 : Int32} {v5 : Int32} {σ : sS} {z : sZ Int32} {r : Int32 × sS} (hf : T_X3_fewestFailing_57 v0 v2 v3 v4 v5 σ = some z) (k : s_K G (d + 4) M_X3_fewestFailing vs0 σ0 Y_X3_fewestFailing e_I z r) : s_V G (d + 4) M_X3_fewestFailing vs0 σ0 Y_X3_fewestFailing (57, [.ref v0, .int v2, .int v3, .int v4, .int v5], σ) (e_I r) := by
  have le0 : s_le σ (e_I r).2 := s_lek hem_I (l_X3_fewestFailing_57 hf) k
  refine ⟨le0, ?_⟩
  intro p e s m below meth c H locs cells slots ls X I hn1 hn2 hl
  have hn : cells + σ0.2.1 ≤ σ.2.1 ∧ slots + σ0.2.2.1 ≤ σ.2.2.1 := ⟨hn1, hn2⟩
  have hl : lv_has ls 7 [(0, .ref v0), (2, .int v2), (3, .int v3), (4, .int v4), (5, .int v5)] := hl
  have hx := X.1
  have hb : c.code = cX3_fewestFailing := X.2.1
  have hown : s.vm.findClass RX3 = some m.cls := X.2.2.2.2.2.1
  have hts := X.2.2.2.2.2.2.1
  refine W.eq (g2 := F0 m 57 ls []) rfl ?_
  unfold T_X3_fewestFailing_57 at hf
  cases hf
  have k : s_V G (d + 4) M_X3_fewestFailing vs0 σ0 Y_X3_fewestFailing (18, [.ref v0, .int v2, .int v3, .int v4, .int (v5 + 1)], σ) (e_I r) := k
  refine lv_iinc (v := (v5 + 1)) (lv' := [(5, .int (v5 + 1)), (0, .ref v0), (2, .int v2), (3, .int v3), (4, .int v4)]) hx hb dX3_fewestFailing_57 hl (k := 4) rfl rfl (by decide) rfl (fun ls hl => ?_)
  refine lv_goto (tgt := 18) hx hb dX3_fewestFailing_60 (by decide) ?_
  exact k.2 p e s m below meth c _ _ _ _ _ X I hn.1 hn.2 (lv_sub hl [1, 2, 3, 4, 0] rfl)
theorem v_X3_fewestFailing {G : sG} {d : Nat} {vs0 : List Value} {σ0 : sS} {x : sL} {z : sZ Int32} {r : Int32 × sS} (hs : S_X3_fewestFailing x = some z) (k : s_K G (d + 4) M_X3_fewestFailing vs0 σ0 Y_X3_fewestFailing e_I z r) : s_V G (d + 4) M_X3_fewestFailing vs0 σ0 Y_X3_fewestFailing x (e_I r) := by
  obtain ⟨pc, vs, σ⟩ := x
  unfold S_X3_fewestFailing at hs
  dsimp only at hs
  rcases s_ite hs with ⟨c, hs⟩ | ⟨-, hs⟩
  · subst c
    unfold U_X3_fewestFailing_0 at hs
    obtain ⟨a0, g0, hs⟩ := s_bind hs
    obtain ⟨a1, g1, hs⟩ := s_bind hs
    obtain ⟨u9, ge, hs⟩ := s_bind hs
    rw [g_r_to g0, g_i_to g1, g_e_to ge]
    exact v_X3_fewestFailing_0 hs k
  rcases s_ite hs with ⟨c, hs⟩ | ⟨-, hs⟩
  · subst c
    unfold U_X3_fewestFailing_18 at hs
    obtain ⟨a0, g0, hs⟩ := s_bind hs
    obtain ⟨a1, g1, hs⟩ := s_bind hs
    obtain ⟨a2, g2, hs⟩ := s_bind hs
    obtain ⟨a3, g3, hs⟩ := s_bind hs
    obtain ⟨a4, g4, hs⟩ := s_bind hs
    obtain ⟨u9, ge, hs⟩ := s_bind hs
    rw [g_r_to g0, g_i_to g1, g_i_to g2, g_i_to g3, g_i_to g4, g_e_to ge]
    exact v_X3_fewestFailing_18 hs k
  rcases s_ite hs with ⟨c, hs⟩ | ⟨-, hs⟩
  · subst c
    unfold U_X3_fewestFailing_57 at hs
    obtain ⟨a0, g0, hs⟩ := s_bind hs
    obtain ⟨a1, g1, hs⟩ := s_bind hs
    obtain ⟨a2, g2, hs⟩ := s_bind hs
    obtain ⟨a3, g3, hs⟩ := s_bind hs
    obtain ⟨a4, g4, hs⟩ := s_bind hs
    obtain ⟨u9, ge, hs⟩ := s_bind hs
    rw [g_r_to g0, g_i_to g1, g_i_to g2, g_i_to g3, g_i_to g4, g_e_to ge]
    exact v_X3_fewestFailing_57 hs k
  cases hs
theorem t_X3_fewestFailing {G : sG} {d : Nat} {v0 : Nat} {v1 : Int32} {σ : sS} {q : Int32 × sS} (h : F_X3_fewestFailing v0 v1 σ = some q) : s_T G (d + 4) M_X3_fewestFailing [.ref v0, .int v1] σ (e_I q) := by
  unfold F_X3_fewestFailing at h
  obtain ⟨-, -, h⟩ := s_bind h
  exact s_ofV rfl (by decide) (Nat.le_of_ble_eq_true rfl) rfl rfl (s_run_ind (V := fun x r => s_V G (d + 4) M_X3_fewestFailing [.ref v0, .int v1] σ Y_X3_fewestFailing x (e_I r)) (fun x z r hs hk => v_X3_fewestFailing hs (by cases z <;> exact hk)) h)
