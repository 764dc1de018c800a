/-! X3_init -/
noncomputable def T_X3_init_0 (v0 : Nat) (v1 : Nat) (σ : sS) : Option (sZ Unit) :=
  (s_na σ 1 16).bind fun σ1 =>
  (s_pf σ1 v0 3 1 (.ref σ.2.1)).bind fun σ2 =>
  (s_na σ2 1 16).bind fun σ3 =>
  (s_pf σ3 v0 3 2 (.ref σ2.2.1)).bind fun σ4 =>
  (s_na σ4 1 16).bind fun σ5 =>
  (s_pf σ5 v0 3 3 (.ref σ4.2.1)).bind fun σ6 =>
  (s_na σ6 0 14).bind fun σ7 =>
  (s_pf σ7 v0 3 4 (.ref σ6.2.1)).bind fun σ8 =>
  (s_na σ8 1 256).bind fun σ9 =>
  (s_pf σ9 v0 3 5 (.ref σ8.2.1)).bind fun σ10 =>
  (s_pf σ10 v0 3 0 (.ref v1)).bind fun σ11 =>
  some (.inr ((), σ11))
noncomputable def U_X3_init_0 (vs : List Value) (σ : sS) : Option (sZ Unit) := (g_r vs).bind fun a0 => (g_r a0.2).bind fun a1 => (g_e a1.2).bind fun _ => T_X3_init_0 a0.1 a1.1 σ
noncomputable def S_X3_init (x : sL) : Option (sZ Unit) := if x.1 = 0 then U_X3_init_0 x.2.1 x.2.2 else none
def Y_X3_init (pc : Nat) : List Nat := if pc = 0 then [0, 1] else []
noncomputable def F_X3_init (v0 : Nat) (v1 : Nat) (σ : sS) : Option (Unit × sS) := s_run S_X3_init (0, [.ref v0, .ref v1], σ)
theorem l_X3_init_0 {v0 : Nat} {v1 : Nat} {σ : sS} {z : sZ Unit} (hf : T_X3_init_0 v0 v1 σ = some z) : s_lz σ z := by
  unfold T_X3_init_0 at hf
  obtain ⟨σ1, hh, hf⟩ := s_bind hf
  refine s_lz.tr (s_na_le hh) ?_
  obtain ⟨σ2, hh, hf⟩ := s_bind hf
  refine s_lz.tr (s_le2 (s_pf_2 hh)) ?_
  obtain ⟨σ3, hh, hf⟩ := s_bind hf
  refine s_lz.tr (s_na_le hh) ?_
  obtain ⟨σ4, hh, hf⟩ := s_bind hf
  refine s_lz.tr (s_le2 (s_pf_2 hh)) ?_
  obtain ⟨σ5, hh, hf⟩ := s_bind hf
  refine s_lz.tr (s_na_le hh) ?_
  obtain ⟨σ6, hh, hf⟩ := s_bind hf
  refine s_lz.tr (s_le2 (s_pf_2 hh)) ?_
  obtain ⟨σ7, hh, hf⟩ := s_bind hf
  refine s_lz.tr (s_na_le hh) ?_
  obtain ⟨σ8, hh, hf⟩ := s_bind hf
  refine s_lz.tr (s_le2 (s_pf_2 hh)) ?_
  obtain ⟨σ9, hh, hf⟩ := s_bind hf
  refine s_lz.tr (s_na_le hh) ?_
  obtain ⟨σ10, hh, hf⟩ := s_bind hf
  refine s_lz.tr (s_le2 (s_pf_2 hh)) ?_
  obtain ⟨σ11, hh, hf⟩ := s_bind hf
  refine s_lz.tr (s_le2 (s_pf_2 hh)) ?_
  cases hf
  exact s_le.rf
theorem l_X3_init_s {x : sL} {z : sZ Unit} (hs : S_X3_init x = some z) : s_lz x.2.2 z := by
  obtain ⟨pc, vs, σ⟩ := x
  unfold S_X3_init at hs
  dsimp only at hs ⊢
  rcases s_ite hs with ⟨c, hs⟩ | ⟨-, hs⟩
  · subst c
    unfold U_X3_init_0 at hs
    obtain ⟨a0, g0, hs⟩ := s_bind hs
    obtain ⟨a1, g1, hs⟩ := s_bind hs
    obtain ⟨u9, ge, hs⟩ := s_bind hs
    exact l_X3_init_0 hs
  cases hs
theorem l_X3_init {v0 : Nat} {v1 : Nat} {σ : sS} {q : Unit × sS} (h : F_X3_init v0 v1 σ = some q) : s_le σ q.2 := by
  unfold F_X3_init at h
  exact s_run_ind (V := fun x r => s_le x.2.2 r.2) (fun x z r hs hk => by
    have h9 := l_X3_init_s hs
    cases z with
    | inl y => exact s_le.tr h9 hk
    | inr q => cases hk; exact h9) h
set_option maxRecDepth 100000 in
set_option maxHeartbeats 4000000 in
theorem v_X3_init_0 {G : sG} {d : Nat} {vs0 : List Value} {σ0 : sS} {v0 : Nat} {v1 : Nat} {σ : sS} {z : sZ Unit} {r : Unit × sS} (hf : T_X3_init_0 v0 v1 σ = some z) (k : s_K G (d + 1) M_X3_init vs0 σ0 Y_X3_init e_V z r) : s_V G (d + 1) M_X3_init vs0 σ0 Y_X3_init (0, [.ref v0, .ref v1], σ) (e_V r) := by
  have le0 : s_le σ (e_V r).2 := s_lek hem_V (l_X3_init_0 hf) k
  refine ⟨le0, ?_⟩
  intro p e s m below meth c H locs cells slots ls X I hn1 hn2 hl
  have hn : cells + σ0.2.1 ≤ σ.2.1 ∧ slots + σ0.2.2.1 ≤ σ.2.2.1 := ⟨hn1, hn2⟩
  have hl : lv_has ls 2 [(0, .ref v0), (1, .ref v1)] := hl
  have hx := X.1
  have hb : c.code = cX3_init := X.2.1
  have hown : s.vm.findClass RX3 = some m.cls := X.2.2.2.2.2.1
  have hts := X.2.2.2.2.2.2.1
  refine W.eq (g2 := F0 m 0 ls []) rfl ?_
  unfold T_X3_init_0 at hf
  obtain ⟨σ1, h1, hf⟩ := s_bind hf
  obtain ⟨σ2, h2, hf⟩ := s_bind hf
  obtain ⟨σ3, h3, hf⟩ := s_bind hf
  obtain ⟨σ4, h4, hf⟩ := s_bind hf
  obtain ⟨σ5, h5, hf⟩ := s_bind hf
  obtain ⟨σ6, h6, hf⟩ := s_bind hf
  obtain ⟨σ7, h7, hf⟩ := s_bind hf
  obtain ⟨σ8, h8, hf⟩ := s_bind hf
  obtain ⟨σ9, h9, hf⟩ := s_bind hf
  obtain ⟨σ10, h10, hf⟩ := s_bind hf
  obtain ⟨σ11, h11, hf⟩ := s_bind hf
  cases hf
  have k : _ = r := k
  subst k
  have le12 : s_le σ11 σ11 := s_le.rf
  have le13 := s_le.tr (s_le2 (s_pf_2 h11)) le12
  have le14 := s_le.tr (s_le2 (s_pf_2 h10)) le13
  have le15 := s_le.tr (s_na_le h9) le14
  have le16 := s_le.tr (s_le2 (s_pf_2 h8)) le15
  have le17 := s_le.tr (s_na_le h7) le16
  have le18 := s_le.tr (s_le2 (s_pf_2 h6)) le17
  have le19 := s_le.tr (s_na_le h5) le18
  have le20 := s_le.tr (s_le2 (s_pf_2 h4)) le19
  have le21 := s_le.tr (s_na_le h3) le20
  have le22 := s_le.tr (s_le2 (s_pf_2 h2)) le21
  refine lv_aload_n hx hb dX3_init_0 rfl (lv_at hl 0 rfl) ?_
  refine r_objI X w_348 w_202 w_203 hl.1 (Nat.le_of_ble_eq_true rfl) dX3_init_1 ?_
  refine lv_aload_n hx hb dX3_init_4 rfl (lv_at hl 0 rfl) ?_
  refine lv_bipush (v := 16) hx hb dX3_init_5 (by decide) ?_
  refine r_newa X I at_long h1 hn le22 dX3_init_7 (fun H I => ?_)
  have hn := s_kna h1 hn
  refine r_put X I fp_X3_11 (fun _ => rfl) h2 rfl rfl dX3_init_9 (fun H locs I => ?_)
  have hn := s_k2 (s_pf_2 h2) hn
  refine lv_aload_n hx hb dX3_init_12 rfl (lv_at hl 0 rfl) ?_
  refine lv_bipush (v := 16) hx hb dX3_init_13 (by decide) ?_
  refine r_newa X I at_long h3 hn le20 dX3_init_15 (fun H I => ?_)
  have hn := s_kna h3 hn
  refine r_put X I fp_X3_17 (fun _ => rfl) h4 rfl rfl dX3_init_17 (fun H locs I => ?_)
  have hn := s_k2 (s_pf_2 h4) hn
  refine lv_aload_n hx hb dX3_init_20 rfl (lv_at hl 0 rfl) ?_
  refine lv_bipush (v := 16) hx hb dX3_init_21 (by decide) ?_
  refine r_newa X I at_long h5 hn le18 dX3_init_23 (fun H I => ?_)
  have hn := s_kna h5 hn
  refine r_put X I fp_X3_20 (fun _ => rfl) h6 rfl rfl dX3_init_25 (fun H locs I => ?_)
  have hn := s_k2 (s_pf_2 h6) hn
  refine lv_aload_n hx hb dX3_init_28 rfl (lv_at hl 0 rfl) ?_
  refine lv_bipush (v := 14) hx hb dX3_init_29 (by decide) ?_
  refine r_newa X I at_int h7 hn le16 dX3_init_31 (fun H I => ?_)
  have hn := s_kna h7 hn
  refine r_put X I fp_X3_23 (fun _ => rfl) h8 rfl rfl dX3_init_33 (fun H locs I => ?_)
  have hn := s_k2 (s_pf_2 h8) hn
  refine lv_aload_n hx hb dX3_init_36 rfl (lv_at hl 0 rfl) ?_
  refine lv_sipush (v := 256) hx hb dX3_init_37 (by decide) ?_
  refine r_newa X I at_long h9 hn le14 dX3_init_40 (fun H I => ?_)
  have hn := s_kna h9 hn
  refine r_put X I fp_X3_27 (fun _ => rfl) h10 rfl rfl dX3_init_42 (fun H locs I => ?_)
  have hn := s_k2 (s_pf_2 h10) hn
  refine lv_aload_n hx hb dX3_init_45 rfl (lv_at hl 0 rfl) ?_
  refine lv_aload_n hx hb dX3_init_46 rfl (lv_at hl 1 rfl) ?_
  refine r_put X I fp_X3_30 (fun _ => rfl) h11 rfl rfl dX3_init_47 (fun H locs I => ?_)
  have hn := s_k2 (s_pf_2 h11) hn
  exact r_vret X I rfl rfl hn dX3_init_50
theorem v_X3_init {G : sG} {d : Nat} {vs0 : List Value} {σ0 : sS} {x : sL} {z : sZ Unit} {r : Unit × sS} (hs : S_X3_init x = some z) (k : s_K G (d + 1) M_X3_init vs0 σ0 Y_X3_init e_V z r) : s_V G (d + 1) M_X3_init vs0 σ0 Y_X3_init x (e_V r) := by
  obtain ⟨pc, vs, σ⟩ := x
  unfold S_X3_init at hs
  dsimp only at hs
  rcases s_ite hs with ⟨c, hs⟩ | ⟨-, hs⟩
  · subst c
    unfold U_X3_init_0 at hs
    obtain ⟨a0, g0, hs⟩ := s_bind hs
    obtain ⟨a1, g1, hs⟩ := s_bind hs
    obtain ⟨u9, ge, hs⟩ := s_bind hs
    rw [g_r_to g0, g_r_to g1, g_e_to ge]
    exact v_X3_init_0 hs k
  cases hs
theorem t_X3_init {G : sG} {d : Nat} {v0 : Nat} {v1 : Nat} {σ : sS} {q : Unit × sS} (h : F_X3_init v0 v1 σ = some q) : s_T G (d + 1) M_X3_init [.ref v0, .ref v1] σ (e_V q) := by
  unfold F_X3_init at h
  exact s_ofV rfl (by decide) (Nat.le_of_ble_eq_true rfl) rfl rfl (s_run_ind (V := fun x r => s_V G (d + 1) M_X3_init [.ref v0, .ref v1] σ Y_X3_init x (e_V r)) (fun x z r hs hk => v_X3_init hs (by cases z <;> exact hk)) h)
/-! X0_init -/
noncomputable def T_X0_init_0 (v0 : Nat) (v1 : Nat) (v2 : Nat) (σ : sS) : Option (sZ Unit) :=
  (s_pf σ v0 0 4 (.ref v1)).bind fun σ1 =>
  (s_pf σ1 v0 0 5 (.ref v2)).bind fun σ2 =>
  some (.inr ((), σ2))
noncomputable def U_X0_init_0 (vs : List Value) (σ : sS) : Option (sZ Unit) := (g_r vs).bind fun a0 => (g_r a0.2).bind fun a1 => (g_r a1.2).bind fun a2 => (g_e a2.2).bind fun _ => T_X0_init_0 a0.1 a1.1 a2.1 σ
noncomputable def S_X0_init (x : sL) : Option (sZ Unit) := if x.1 = 0 then U_X0_init_0 x.2.1 x.2.2 else none
def Y_X0_init (pc : Nat) : List Nat := if pc = 0 then [0, 1, 2] else []
noncomputable def F_X0_init (v0 : Nat) (v1 : Nat) (v2 : Nat) (σ : sS) : Option (Unit × sS) := s_run S_X0_init (0, [.ref v0, .ref v1, .ref v2], σ)
theorem l_X0_init_0 {v0 : Nat} {v1 : Nat} {v2 : Nat} {σ : sS} {z : sZ Unit} (hf : T_X0_init_0 v0 v1 v2 σ = some z) : s_lz σ z := by
  unfold T_X0_init_0 at hf
  obtain ⟨σ1, hh, hf⟩ := s_bind hf
  refine s_lz.tr (s_le2 (s_pf_2 hh)) ?_
  obtain ⟨σ2, hh, hf⟩ := s_bind hf
  refine s_lz.tr (s_le2 (s_pf_2 hh)) ?_
  cases hf
  exact s_le.rf
theorem l_X0_init_s {x : sL} {z : sZ Unit} (hs : S_X0_init x = some z) : s_lz x.2.2 z := by
  obtain ⟨pc, vs, σ⟩ := x
  unfold S_X0_init at hs
  dsimp only at hs ⊢
  rcases s_ite hs with ⟨c, hs⟩ | ⟨-, hs⟩
  · subst c
    unfold U_X0_init_0 at hs
    obtain ⟨a0, g0, hs⟩ := s_bind hs
    obtain ⟨a1, g1, hs⟩ := s_bind hs
    obtain ⟨a2, g2, hs⟩ := s_bind hs
    obtain ⟨u9, ge, hs⟩ := s_bind hs
    exact l_X0_init_0 hs
  cases hs
theorem l_X0_init {v0 : Nat} {v1 : Nat} {v2 : Nat} {σ : sS} {q : Unit × sS} (h : F_X0_init v0 v1 v2 σ = some q) : s_le σ q.2 := by
  unfold F_X0_init at h
  exact s_run_ind (V := fun x r => s_le x.2.2 r.2) (fun x z r hs hk => by
    have h9 := l_X0_init_s hs
    cases z with
    | inl y => exact s_le.tr h9 hk
    | inr q => cases hk; exact h9) h
set_option maxRecDepth 100000 in
set_option maxHeartbeats 4000000 in
theorem v_X0_init_0 {G : sG} {d : Nat} {vs0 : List Value} {σ0 : sS} {v0 : Nat} {v1 : Nat} {v2 : Nat} {σ : sS} {z : sZ Unit} {r : Unit × sS} (hf : T_X0_init_0 v0 v1 v2 σ = some z) (k : s_K G (d + 1) M_X0_init vs0 σ0 Y_X0_init e_V z r) : s_V G (d + 1) M_X0_init vs0 σ0 Y_X0_init (0, [.ref v0, .ref v1, .ref v2], σ) (e_V r) := by
  have le0 : s_le σ (e_V r).2 := s_lek hem_V (l_X0_init_0 hf) k
  refine ⟨le0, ?_⟩
  intro p e s m below meth c H locs cells slots ls X I hn1 hn2 hl
  have hn : cells + σ0.2.1 ≤ σ.2.1 ∧ slots + σ0.2.2.1 ≤ σ.2.2.1 := ⟨hn1, hn2⟩
  have hl : lv_has ls 3 [(0, .ref v0), (1, .ref v1), (2, .ref v2)] := hl
  have hx := X.1
  have hb : c.code = cX0_init := X.2.1
  have hown : s.vm.findClass RX0 = some m.cls := X.2.2.2.2.2.1
  have hts := X.2.2.2.2.2.2.1
  refine W.eq (g2 := F0 m 0 ls []) rfl ?_
  unfold T_X0_init_0 at hf
  obtain ⟨σ1, h1, hf⟩ := s_bind hf
  obtain ⟨σ2, h2, hf⟩ := s_bind hf
  cases hf
  have k : _ = r := k
  subst k
  have le3 : s_le σ2 σ2 := s_le.rf
  have le4 := s_le.tr (s_le2 (s_pf_2 h2)) le3
  refine lv_aload_n hx hb dX0_init_0 rfl (lv_at hl 0 rfl) ?_
  refine r_objI X w_373 w_202 w_203 hl.1 (Nat.le_of_ble_eq_true rfl) dX0_init_1 ?_
  refine lv_aload_n hx hb dX0_init_4 rfl (lv_at hl 0 rfl) ?_
  refine lv_aload_n hx hb dX0_init_5 rfl (lv_at hl 1 rfl) ?_
  refine r_put X I fp_X0_9 (fun _ => rfl) h1 rfl rfl dX0_init_6 (fun H locs I => ?_)
  have hn := s_k2 (s_pf_2 h1) hn
  refine lv_aload_n hx hb dX0_init_9 rfl (lv_at hl 0 rfl) ?_
  refine lv_aload_n hx hb dX0_init_10 rfl (lv_at hl 2 rfl) ?_
  refine r_put X I fp_X0_15 (fun _ => rfl) h2 rfl rfl dX0_init_11 (fun H locs I => ?_)
  have hn := s_k2 (s_pf_2 h2) hn
  exact r_vret X I rfl rfl hn dX0_init_14
theorem v_X0_init {G : sG} {d : Nat} {vs0 : List Value} {σ0 : sS} {x : sL} {z : sZ Unit} {r : Unit × sS} (hs : S_X0_init x = some z) (k : s_K G (d + 1) M_X0_init vs0 σ0 Y_X0_init e_V z r) : s_V G (d + 1) M_X0_init vs0 σ0 Y_X0_init x (e_V r) := by
  obtain ⟨pc, vs, σ⟩ := x
  unfold S_X0_init at hs
  dsimp only at hs
  rcases s_ite hs with ⟨c, hs⟩ | ⟨-, hs⟩
  · subst c
    unfold U_X0_init_0 at hs
    obtain ⟨a0, g0, hs⟩ := s_bind hs
    obtain ⟨a1, g1, hs⟩ := s_bind hs
    obtain ⟨a2, g2, hs⟩ := s_bind hs
    obtain ⟨u9, ge, hs⟩ := s_bind hs
    rw [g_r_to g0, g_r_to g1, g_r_to g2, g_e_to ge]
    exact v_X0_init_0 hs k
  cases hs
theorem t_X0_init {G : sG} {d : Nat} {v0 : Nat} {v1 : Nat} {v2 : Nat} {σ : sS} {q : Unit × sS} (h : F_X0_init v0 v1 v2 σ = some q) : s_T G (d + 1) M_X0_init [.ref v0, .ref v1, .ref v2] σ (e_V q) := by
  unfold F_X0_init at h
  exact s_ofV rfl (by decide) (Nat.le_of_ble_eq_true rfl) rfl rfl (s_run_ind (V := fun x r => s_V G (d + 1) M_X0_init [.ref v0, .ref v1, .ref v2] σ Y_X0_init x (e_V r)) (fun x z r hs hk => v_X0_init hs (by cases z <;> exact hk)) h)
/-! X4_init -/
noncomputable def T_X4_init_0 (v0 : Nat) (v1 : Nat) (v2 : Nat) (σ : sS) : Option (sZ Unit) :=
  (s_na σ 0 40).bind fun σ1 =>
  (s_pf σ1 v0 4 2 (.ref σ.2.1)).bind fun σ2 =>
  (s_na σ2 0 40).bind fun σ3 =>
  (s_pf σ3 v0 4 3 (.ref σ2.2.1)).bind fun σ4 =>
  (s_na σ4 0 16).bind fun σ5 =>
  (s_pf σ5 v0 4 4 (.ref σ4.2.1)).bind fun σ6 =>
  (s_na σ6 0 3).bind fun σ7 =>
  (s_pf σ7 v0 4 5 (.ref σ6.2.1)).bind fun σ8 =>
  (s_na σ8 0 2800).bind fun σ9 =>
  (s_pf σ9 v0 4 6 (.ref σ8.2.1)).bind fun σ10 =>
  (s_na σ10 0 320).bind fun σ11 =>
  (s_pf σ11 v0 4 7 (.ref σ10.2.1)).bind fun σ12 =>
  (s_pf σ12 v0 4 0 (.ref v1)).bind fun σ13 =>
  (s_pf σ13 v0 4 1 (.ref v2)).bind fun σ14 =>
  some (.inr ((), σ14))
noncomputable def U_X4_init_0 (vs : List Value) (σ : sS) : Option (sZ Unit) := (g_r vs).bind fun a0 => (g_r a0.2).bind fun a1 => (g_r a1.2).bind fun a2 => (g_e a2.2).bind fun _ => T_X4_init_0 a0.1 a1.1 a2.1 σ
noncomputable def S_X4_init (x : sL) : Option (sZ Unit) := if x.1 = 0 then U_X4_init_0 x.2.1 x.2.2 else none
def Y_X4_init (pc : Nat) : List Nat := if pc = 0 then [0, 1, 2] else []
noncomputable def F_X4_init (v0 : Nat) (v1 : Nat) (v2 : Nat) (σ : sS) : Option (Unit × sS) := s_run S_X4_init (0, [.ref v0, .ref v1, .ref v2], σ)
theorem l_X4_init_0 {v0 : Nat} {v1 : Nat} {v2 : Nat} {σ : sS} {z : sZ Unit} (hf : T_X4_init_0 v0 v1 v2 σ = some z) : s_lz σ z := by
  unfold T_X4_init_0 at hf
  obtain ⟨σ1, hh, hf⟩ := s_bind hf
  refine s_lz.tr (s_na_le hh) ?_
  obtain ⟨σ2, hh, hf⟩ := s_bind hf
  refine s_lz.tr (s_le2 (s_pf_2 hh)) ?_
  obtain ⟨σ3, hh, hf⟩ := s_bind hf
  refine s_lz.tr (s_na_le hh) ?_
  obtain ⟨σ4, hh, hf⟩ := s_bind hf
  refine s_lz.tr (s_le2 (s_pf_2 hh)) ?_
  obtain ⟨σ5, hh, hf⟩ := s_bind hf
  refine s_lz.tr (s_na_le hh) ?_
  obtain ⟨σ6, hh, hf⟩ := s_bind hf
  refine s_lz.tr (s_le2 (s_pf_2 hh)) ?_
  obtain ⟨σ7, hh, hf⟩ := s_bind hf
  refine s_lz.tr (s_na_le hh) ?_
  obtain ⟨σ8, hh, hf⟩ := s_bind hf
  refine s_lz.tr (s_le2 (s_pf_2 hh)) ?_
  obtain ⟨σ9, hh, hf⟩ := s_bind hf
  refine s_lz.tr (s_na_le hh) ?_
  obtain ⟨σ10, hh, hf⟩ := s_bind hf
  refine s_lz.tr (s_le2 (s_pf_2 hh)) ?_
  obtain ⟨σ11, hh, hf⟩ := s_bind hf
  refine s_lz.tr (s_na_le hh) ?_
  obtain ⟨σ12, hh, hf⟩ := s_bind hf
  refine s_lz.tr (s_le2 (s_pf_2 hh)) ?_
  obtain ⟨σ13, hh, hf⟩ := s_bind hf
  refine s_lz.tr (s_le2 (s_pf_2 hh)) ?_
  obtain ⟨σ14, hh, hf⟩ := s_bind hf
  refine s_lz.tr (s_le2 (s_pf_2 hh)) ?_
  cases hf
  exact s_le.rf
theorem l_X4_init_s {x : sL} {z : sZ Unit} (hs : S_X4_init x = some z) : s_lz x.2.2 z := by
  obtain ⟨pc, vs, σ⟩ := x
  unfold S_X4_init at hs
  dsimp only at hs ⊢
  rcases s_ite hs with ⟨c, hs⟩ | ⟨-, hs⟩
  · subst c
    unfold U_X4_init_0 at hs
    obtain ⟨a0, g0, hs⟩ := s_bind hs
    obtain ⟨a1, g1, hs⟩ := s_bind hs
    obtain ⟨a2, g2, hs⟩ := s_bind hs
    obtain ⟨u9, ge, hs⟩ := s_bind hs
    exact l_X4_init_0 hs
  cases hs
theorem l_X4_init {v0 : Nat} {v1 : Nat} {v2 : Nat} {σ : sS} {q : Unit × sS} (h : F_X4_init v0 v1 v2 σ = some q) : s_le σ q.2 := by
  unfold F_X4_init at h
  exact s_run_ind (V := fun x r => s_le x.2.2 r.2) (fun x z r hs hk => by
    have h9 := l_X4_init_s hs
    cases z with
    | inl y => exact s_le.tr h9 hk
    | inr q => cases hk; exact h9) h
set_option maxRecDepth 100000 in
set_option maxHeartbeats 4000000 in
theorem v_X4_init_0 {G : sG} {d : Nat} {vs0 : List Value} {σ0 : sS} {v0 : Nat} {v1 : Nat} {v2 : Nat} {σ : sS} {z : sZ Unit} {r : Unit × sS} (hf : T_X4_init_0 v0 v1 v2 σ = some z) (k : s_K G (d + 1) M_X4_init vs0 σ0 Y_X4_init e_V z r) : s_V G (d + 1) M_X4_init vs0 σ0 Y_X4_init (0, [.ref v0, .ref v1, .ref v2], σ) (e_V r) := by
  have le0 : s_le σ (e_V r).2 := s_lek hem_V (l_X4_init_0 hf) k
  refine ⟨le0, ?_⟩
  intro p e s m below meth c H locs cells slots ls X I hn1 hn2 hl
  have hn : cells + σ0.2.1 ≤ σ.2.1 ∧ slots + σ0.2.2.1 ≤ σ.2.2.1 := ⟨hn1, hn2⟩
  have hl : lv_has ls 3 [(0, .ref v0), (1, .ref v1), (2, .ref v2)] := hl
  have hx := X.1
  have hb : c.code = cX4_init := X.2.1
  have hown : s.vm.findClass RX4 = some m.cls := X.2.2.2.2.2.1
  have hts := X.2.2.2.2.2.2.1
  refine W.eq (g2 := F0 m 0 ls []) rfl ?_
  unfold T_X4_init_0 at hf
  obtain ⟨σ1, h1, hf⟩ := s_bind hf
  obtain ⟨σ2, h2, hf⟩ := s_bind hf
  obtain ⟨σ3, h3, hf⟩ := s_bind hf
  obtain ⟨σ4, h4, hf⟩ := s_bind hf
  obtain ⟨σ5, h5, hf⟩ := s_bind hf
  obtain ⟨σ6, h6, hf⟩ := s_bind hf
  obtain ⟨σ7, h7, hf⟩ := s_bind hf
  obtain ⟨σ8, h8, hf⟩ := s_bind hf
  obtain ⟨σ9, h9, hf⟩ := s_bind hf
  obtain ⟨σ10, h10, hf⟩ := s_bind hf
  obtain ⟨σ11, h11, hf⟩ := s_bind hf
  obtain ⟨σ12, h12, hf⟩ := s_bind hf
  obtain ⟨σ13, h13, hf⟩ := s_bind hf
  obtain ⟨σ14, h14, hf⟩ := s_bind hf
  cases hf
  have k : _ = r := k
  subst k
  have le15 : s_le σ14 σ14 := s_le.rf
  have le16 := s_le.tr (s_le2 (s_pf_2 h14)) le15
  have le17 := s_le.tr (s_le2 (s_pf_2 h13)) le16
  have le18 := s_le.tr (s_le2 (s_pf_2 h12)) le17
  have le19 := s_le.tr (s_na_le h11) le18
  have le20 := s_le.tr (s_le2 (s_pf_2 h10)) le19
  have le21 := s_le.tr (s_na_le h9) le20
  have le22 := s_le.tr (s_le2 (s_pf_2 h8)) le21
  have le23 := s_le.tr (s_na_le h7) le22
  have le24 := s_le.tr (s_le2 (s_pf_2 h6)) le23
  have le25 := s_le.tr (s_na_le h5) le24
  have le26 := s_le.tr (s_le2 (s_pf_2 h4)) le25
  have le27 := s_le.tr (s_na_le h3) le26
  have le28 := s_le.tr (s_le2 (s_pf_2 h2)) le27
  refine lv_aload_n hx hb dX4_init_0 rfl (lv_at hl 0 rfl) ?_
  refine r_objI X w_399 w_202 w_203 hl.1 (Nat.le_of_ble_eq_true rfl) dX4_init_1 ?_
  refine lv_aload_n hx hb dX4_init_4 rfl (lv_at hl 0 rfl) ?_
  refine lv_bipush (v := 40) hx hb dX4_init_5 (by decide) ?_
  refine r_newa X I at_int h1 hn le28 dX4_init_7 (fun H I => ?_)
  have hn := s_kna h1 hn
  refine r_put X I fp_X4_11 (fun _ => rfl) h2 rfl rfl dX4_init_9 (fun H locs I => ?_)
  have hn := s_k2 (s_pf_2 h2) hn
  refine lv_aload_n hx hb dX4_init_12 rfl (lv_at hl 0 rfl) ?_
  refine lv_bipush (v := 40) hx hb dX4_init_13 (by decide) ?_
  refine r_newa X I at_int h3 hn le26 dX4_init_15 (fun H I => ?_)
  have hn := s_kna h3 hn
  refine r_put X I fp_X4_15 (fun _ => rfl) h4 rfl rfl dX4_init_17 (fun H locs I => ?_)
  have hn := s_k2 (s_pf_2 h4) hn
  refine lv_aload_n hx hb dX4_init_20 rfl (lv_at hl 0 rfl) ?_
  refine lv_bipush (v := 16) hx hb dX4_init_21 (by decide) ?_
  refine r_newa X I at_int h5 hn le24 dX4_init_23 (fun H I => ?_)
  have hn := s_kna h5 hn
  refine r_put X I fp_X4_18 (fun _ => rfl) h6 rfl rfl dX4_init_25 (fun H locs I => ?_)
  have hn := s_k2 (s_pf_2 h6) hn
  refine lv_aload_n hx hb dX4_init_28 rfl (lv_at hl 0 rfl) ?_
  refine lv_iconst (v := 3) hx hb dX4_init_29 (by decide) ?_
  refine r_newa X I at_int h7 hn le22 dX4_init_30 (fun H I => ?_)
  have hn := s_kna h7 hn
  refine r_put X I fp_X4_21 (fun _ => rfl) h8 rfl rfl dX4_init_32 (fun H locs I => ?_)
  have hn := s_k2 (s_pf_2 h8) hn
  refine lv_aload_n hx hb dX4_init_35 rfl (lv_at hl 0 rfl) ?_
  refine lv_sipush (v := 2800) hx hb dX4_init_36 (by decide) ?_
  refine r_newa X I at_int h9 hn le20 dX4_init_39 (fun H I => ?_)
  have hn := s_kna h9 hn
  refine r_put X I fp_X4_24 (fun _ => rfl) h10 rfl rfl dX4_init_41 (fun H locs I => ?_)
  have hn := s_k2 (s_pf_2 h10) hn
  refine lv_aload_n hx hb dX4_init_44 rfl (lv_at hl 0 rfl) ?_
  refine lv_sipush (v := 320) hx hb dX4_init_45 (by decide) ?_
  refine r_newa X I at_int h11 hn le18 dX4_init_48 (fun H I => ?_)
  have hn := s_kna h11 hn
  refine r_put X I fp_X4_27 (fun _ => rfl) h12 rfl rfl dX4_init_50 (fun H locs I => ?_)
  have hn := s_k2 (s_pf_2 h12) hn
  refine lv_aload_n hx hb dX4_init_53 rfl (lv_at hl 0 rfl) ?_
  refine lv_aload_n hx hb dX4_init_54 rfl (lv_at hl 1 rfl) ?_
  refine r_put X I fp_X4_30 (fun _ => rfl) h13 rfl rfl dX4_init_55 (fun H locs I => ?_)
  have hn := s_k2 (s_pf_2 h13) hn
  refine lv_aload_n hx hb dX4_init_58 rfl (lv_at hl 0 rfl) ?_
  refine lv_aload_n hx hb dX4_init_59 rfl (lv_at hl 2 rfl) ?_
  refine r_put X I fp_X4_34 (fun _ => rfl) h14 rfl rfl dX4_init_60 (fun H locs I => ?_)
  have hn := s_k2 (s_pf_2 h14) hn
  exact r_vret X I rfl rfl hn dX4_init_63
theorem v_X4_init {G : sG} {d : Nat} {vs0 : List Value} {σ0 : sS} {x : sL} {z : sZ Unit} {r : Unit × sS} (hs : S_X4_init x = some z) (k : s_K G (d + 1) M_X4_init vs0 σ0 Y_X4_init e_V z r) : s_V G (d + 1) M_X4_init vs0 σ0 Y_X4_init x (e_V r) := by
  obtain ⟨pc, vs, σ⟩ := x
  unfold S_X4_init at hs
  dsimp only at hs
  rcases s_ite hs with ⟨c, hs⟩ | ⟨-, hs⟩
  · subst c
    unfold U_X4_init_0 at hs
    obtain ⟨a0, g0, hs⟩ := s_bind hs
    obtain ⟨a1, g1, hs⟩ := s_bind hs
    obtain ⟨a2, g2, hs⟩ := s_bind hs
    obtain ⟨u9, ge, hs⟩ := s_bind hs
    rw [g_r_to g0, g_r_to g1, g_r_to g2, g_e_to ge]
    exact v_X4_init_0 hs k
  cases hs
theorem t_X4_init {G : sG} {d : Nat} {v0 : Nat} {v1 : Nat} {v2 : Nat} {σ : sS} {q : Unit × sS} (h : F_X4_init v0 v1 v2 σ = some q) : s_T G (d + 1) M_X4_init [.ref v0, .ref v1, .ref v2] σ (e_V q) := by
  unfold F_X4_init at h
  exact s_ofV rfl (by decide) (Nat.le_of_ble_eq_true rfl) rfl rfl (s_run_ind (V := fun x r => s_V G (d + 1) M_X4_init [.ref v0, .ref v1, .ref v2] σ Y_X4_init x (e_V r)) (fun x z r hs hk => v_X4_init hs (by cases z <;> exact hk)) h)
/-! X6_init -/
noncomputable def T_X6_init_0 (v0 : Nat) (v1 : Nat) (v2 : Nat) (σ : sS) : Option (sZ Unit) :=
  (s_pf σ v0 6 0 (.ref v1)).bind fun σ1 =>
  (s_pf σ1 v0 6 1 (.ref v2)).bind fun σ2 =>
  some (.inr ((), σ2))
noncomputable def U_X6_init_0 (vs : List Value) (σ : sS) : Option (sZ Unit) := (g_r vs).bind fun a0 => (g_r a0.2).bind fun a1 => (g_r a1.2).bind fun a2 => (g_e a2.2).bind fun _ => T_X6_init_0 a0.1 a1.1 a2.1 σ
noncomputable def S_X6_init (x : sL) : Option (sZ Unit) := if x.1 = 0 then U_X6_init_0 x.2.1 x.2.2 else none
def Y_X6_init (pc : Nat) : List Nat := if pc = 0 then [0, 1, 2] else []
noncomputable def F_X6_init (v0 : Nat) (v1 : Nat) (v2 : Nat) (σ : sS) : Option (Unit × sS) := s_run S_X6_init (0, [.ref v0, .ref v1, .ref v2], σ)
theorem l_X6_init_0 {v0 : Nat} {v1 : Nat} {v2 : Nat} {σ : sS} {z : sZ Unit} (hf : T_X6_init_0 v0 v1 v2 σ = some z) : s_lz σ z := by
  unfold T_X6_init_0 at hf
  obtain ⟨σ1, hh, hf⟩ := s_bind hf
  refine s_lz.tr (s_le2 (s_pf_2 hh)) ?_
  obtain ⟨σ2, hh, hf⟩ := s_bind hf
  refine s_lz.tr (s_le2 (s_pf_2 hh)) ?_
  cases hf
  exact s_le.rf
theorem l_X6_init_s {x : sL} {z : sZ Unit} (hs : S_X6_init x = some z) : s_lz x.2.2 z := by
  obtain ⟨pc, vs, σ⟩ := x
  unfold S_X6_init at hs
  dsimp only at hs ⊢
  rcases s_ite hs with ⟨c, hs⟩ | ⟨-, hs⟩
  · subst c
    unfold U_X6_init_0 at hs
    obtain ⟨a0, g0, hs⟩ := s_bind hs
    obtain ⟨a1, g1, hs⟩ := s_bind hs
    obtain ⟨a2, g2, hs⟩ := s_bind hs
    obtain ⟨u9, ge, hs⟩ := s_bind hs
    exact l_X6_init_0 hs
  cases hs
theorem l_X6_init {v0 : Nat} {v1 : Nat} {v2 : Nat} {σ : sS} {q : Unit × sS} (h : F_X6_init v0 v1 v2 σ = some q) : s_le σ q.2 := by
  unfold F_X6_init at h
  exact s_run_ind (V := fun x r => s_le x.2.2 r.2) (fun x z r hs hk => by
    have h9 := l_X6_init_s hs
    cases z with
    | inl y => exact s_le.tr h9 hk
    | inr q => cases hk; exact h9) h
set_option maxRecDepth 100000 in
set_option maxHeartbeats 4000000 in
theorem v_X6_init_0 {G : sG} {d : Nat} {vs0 : List Value} {σ0 : sS} {v0 : Nat} {v1 : Nat} {v2 : Nat} {σ : sS} {z : sZ Unit} {r : Unit × sS} (hf : T_X6_init_0 v0 v1 v2 σ = some z) (k : s_K G (d + 1) M_X6_init vs0 σ0 Y_X6_init e_V z r) : s_V G (d + 1) M_X6_init vs0 σ0 Y_X6_init (0, [.ref v0, .ref v1, .ref v2], σ) (e_V r) := by
  have le0 : s_le σ (e_V r).2 := s_lek hem_V (l_X6_init_0 hf) k
  refine ⟨le0, ?_⟩
  intro p e s m below meth c H locs cells slots ls X I hn1 hn2 hl
  have hn : cells + σ0.2.1 ≤ σ.2.1 ∧ slots + σ0.2.2.1 ≤ σ.2.2.1 := ⟨hn1, hn2⟩
  have hl : lv_has ls 3 [(0, .ref v0), (1, .ref v1), (2, .ref v2)] := hl
  have hx := X.1
  have hb : c.code = cX6_init := X.2.1
  have hown : s.vm.findClass RX6 = some m.cls := X.2.2.2.2.2.1
  have hts := X.2.2.2.2.2.2.1
  refine W.eq (g2 := F0 m 0 ls []) rfl ?_
  unfold T_X6_init_0 at hf
  obtain ⟨σ1, h1, hf⟩ := s_bind hf
  obtain ⟨σ2, h2, hf⟩ := s_bind hf
  cases hf
  have k : _ = r := k
  subst k
  have le3 : s_le σ2 σ2 := s_le.rf
  have le4 := s_le.tr (s_le2 (s_pf_2 h2)) le3
  refine lv_aload_n hx hb dX6_init_0 rfl (lv_at hl 0 rfl) ?_
  refine r_objI X w_445 w_202 w_203 hl.1 (Nat.le_of_ble_eq_true rfl) dX6_init_1 ?_
  refine lv_aload_n hx hb dX6_init_4 rfl (lv_at hl 0 rfl) ?_
  refine lv_aload_n hx hb dX6_init_5 rfl (lv_at hl 1 rfl) ?_
  refine r_put X I fp_X6_9 (fun _ => rfl) h1 rfl rfl dX6_init_6 (fun H locs I => ?_)
  have hn := s_k2 (s_pf_2 h1) hn
  refine lv_aload_n hx hb dX6_init_9 rfl (lv_at hl 0 rfl) ?_
  refine lv_aload_n hx hb dX6_init_10 rfl (lv_at hl 2 rfl) ?_
  refine r_put X I fp_X6_15 (fun _ => rfl) h2 rfl rfl dX6_init_11 (fun H locs I => ?_)
  have hn := s_k2 (s_pf_2 h2) hn
  exact r_vret X I rfl rfl hn dX6_init_14
theorem v_X6_init {G : sG} {d : Nat} {vs0 : List Value} {σ0 : sS} {x : sL} {z : sZ Unit} {r : Unit × sS} (hs : S_X6_init x = some z) (k : s_K G (d + 1) M_X6_init vs0 σ0 Y_X6_init e_V z r) : s_V G (d + 1) M_X6_init vs0 σ0 Y_X6_init x (e_V r) := by
  obtain ⟨pc, vs, σ⟩ := x
  unfold S_X6_init at hs
  dsimp only at hs
  rcases s_ite hs with ⟨c, hs⟩ | ⟨-, hs⟩
  · subst c
    unfold U_X6_init_0 at hs
    obtain ⟨a0, g0, hs⟩ := s_bind hs
    obtain ⟨a1, g1, hs⟩ := s_bind hs
    obtain ⟨a2, g2, hs⟩ := s_bind hs
    obtain ⟨u9, ge, hs⟩ := s_bind hs
    rw [g_r_to g0, g_r_to g1, g_r_to g2, g_e_to ge]
    exact v_X6_init_0 hs k
  cases hs
theorem t_X6_init {G : sG} {d : Nat} {v0 : Nat} {v1 : Nat} {v2 : Nat} {σ : sS} {q : Unit × sS} (h : F_X6_init v0 v1 v2 σ = some q) : s_T G (d + 1) M_X6_init [.ref v0, .ref v1, .ref v2] σ (e_V q) := by
  unfold F_X6_init at h
  exact s_ofV rfl (by decide) (Nat.le_of_ble_eq_true rfl) rfl rfl (s_run_ind (V := fun x r => s_V G (d + 1) M_X6_init [.ref v0, .ref v1, .ref v2] σ Y_X6_init x (e_V r)) (fun x z r hs hk => v_X6_init hs (by cases z <;> exact hk)) h)
/-! X7_init -/
noncomputable def T_X7_init_0 (v0 : Nat) (σ : sS) : Option (sZ Unit) :=
  (some (s_nw σ 2 8 [.int 0, .null, .null, .null, .null, .null, .null, .null])).bind fun σ1 =>
  (F_X2_init σ.2.1 σ1).bind fun q2 =>
  (s_pf q2.2 v0 7 0 (.ref σ.2.1)).bind fun σ3 =>
  (some (s_nw σ3 1 15 [.int 0, .int 0, .int 0, .null, .null, .null, .int 0, .null, .null, .int 0, .int 0, .null, .null, .null, .null])).bind fun σ4 =>
  (F_X1_init σ3.2.1 σ4).bind fun q5 =>
  (s_pf q5.2 v0 7 1 (.ref σ3.2.1)).bind fun σ6 =>
  (some (s_nw σ6 1 15 [.int 0, .int 0, .int 0, .null, .null, .null, .int 0, .null, .null, .int 0, .int 0, .null, .null, .null, .null])).bind fun σ7 =>
  (F_X1_init σ6.2.1 σ7).bind fun q8 =>
  (s_pf q8.2 v0 7 2 (.ref σ6.2.1)).bind fun σ9 =>
  (some (s_nw σ9 5 7 [.int 0, .int 0, .null, .null, .int 0, .int 0, .int 0])).bind fun σ10 =>
  (s_fr σ10 v0 7 0).bind fun x11 =>
  (F_X5_init σ9.2.1 x11 σ10).bind fun q12 =>
  (s_pf q12.2 v0 7 3 (.ref σ9.2.1)).bind fun σ13 =>
  (some (s_nw σ13 3 6 [.null, .null, .null, .null, .null, .null])).bind fun σ14 =>
  (s_fr σ14 v0 7 1).bind fun x15 =>
  (F_X3_init σ13.2.1 x15 σ14).bind fun q16 =>
  (s_pf q16.2 v0 7 4 (.ref σ13.2.1)).bind fun σ17 =>
  (some (s_nw σ17 0 6 [.long 0, .long 0, .long 0, .long 0, .null, .null])).bind fun σ18 =>
  (s_fr σ18 v0 7 0).bind fun x19 =>
  (s_fr σ18 v0 7 1).bind fun x20 =>
  (F_X0_init σ17.2.1 x19 x20 σ18).bind fun q21 =>
  (s_pf q21.2 v0 7 5 (.ref σ17.2.1)).bind fun σ22 =>
  (some (s_nw σ22 4 13 [.null, .null, .null, .null, .null, .null, .null, .null, .int 0, .int 0, .int 0, .int 0, .int 0])).bind fun σ23 =>
  (s_fr σ23 v0 7 0).bind fun x24 =>
  (s_fr σ23 v0 7 1).bind fun x25 =>
  (F_X4_init σ22.2.1 x24 x25 σ23).bind fun q26 =>
  (s_pf q26.2 v0 7 6 (.ref σ22.2.1)).bind fun σ27 =>
  (some (s_nw σ27 6 2 [.null, .null])).bind fun σ28 =>
  (s_fr σ28 v0 7 1).bind fun x29 =>
  (s_fr σ28 v0 7 5).bind fun x30 =>
  (F_X6_init σ27.2.1 x29 x30 σ28).bind fun q31 =>
  (s_pf q31.2 v0 7 7 (.ref σ27.2.1)).bind fun σ32 =>
  some (.inr ((), σ32))
noncomputable def U_X7_init_0 (vs : List Value) (σ : sS) : Option (sZ Unit) := (g_r vs).bind fun a0 => (g_e a0.2).bind fun _ => T_X7_init_0 a0.1 σ
noncomputable def S_X7_init (x : sL) : Option (sZ Unit) := if x.1 = 0 then U_X7_init_0 x.2.1 x.2.2 else none
def Y_X7_init (pc : Nat) : List Nat := if pc = 0 then [0] else []
noncomputable def F_X7_init (v0 : Nat) (σ : sS) : Option (Unit × sS) := s_run S_X7_init (0, [.ref v0], σ)
theorem l_X7_init_0 {v0 : Nat} {σ : sS} {z : sZ Unit} (hf : T_X7_init_0 v0 σ = some z) : s_lz σ z := by
  unfold T_X7_init_0 at hf
  obtain ⟨σ1, hh, hf⟩ := s_bind hf
  refine s_lz.tr (s_nws hh) ?_
  obtain ⟨q2, hh, hf⟩ := s_bind hf
  refine s_lz.tr (l_X2_init hh) ?_
  obtain ⟨σ3, hh, hf⟩ := s_bind hf
  refine s_lz.tr (s_le2 (s_pf_2 hh)) ?_
  obtain ⟨σ4, hh, hf⟩ := s_bind hf
  refine s_lz.tr (s_nws hh) ?_
  obtain ⟨q5, hh, hf⟩ := s_bind hf
  refine s_lz.tr (l_X1_init hh) ?_
  obtain ⟨σ6, hh, hf⟩ := s_bind hf
  refine s_lz.tr (s_le2 (s_pf_2 hh)) ?_
  obtain ⟨σ7, hh, hf⟩ := s_bind hf
  refine s_lz.tr (s_nws hh) ?_
  obtain ⟨q8, hh, hf⟩ := s_bind hf
  refine s_lz.tr (l_X1_init hh) ?_
  obtain ⟨σ9, hh, hf⟩ := s_bind hf
  refine s_lz.tr (s_le2 (s_pf_2 hh)) ?_
  obtain ⟨σ10, hh, hf⟩ := s_bind hf
  refine s_lz.tr (s_nws hh) ?_
  obtain ⟨x11, -, hf⟩ := s_bind hf
  obtain ⟨q12, hh, hf⟩ := s_bind hf
  refine s_lz.tr (l_X5_init hh) ?_
  obtain ⟨σ13, hh, hf⟩ := s_bind hf
  refine s_lz.tr (s_le2 (s_pf_2 hh)) ?_
  obtain ⟨σ14, hh, hf⟩ := s_bind hf
  refine s_lz.tr (s_nws hh) ?_
  obtain ⟨x15, -, hf⟩ := s_bind hf
  obtain ⟨q16, hh, hf⟩ := s_bind hf
  refine s_lz.tr (l_X3_init hh) ?_
  obtain ⟨σ17, hh, hf⟩ := s_bind hf
  refine s_lz.tr (s_le2 (s_pf_2 hh)) ?_
  obtain ⟨σ18, hh, hf⟩ := s_bind hf
  refine s_lz.tr (s_nws hh) ?_
  obtain ⟨x19, -, hf⟩ := s_bind hf
  obtain ⟨x20, -, hf⟩ := s_bind hf
  obtain ⟨q21, hh, hf⟩ := s_bind hf
  refine s_lz.tr (l_X0_init hh) ?_
  obtain ⟨σ22, hh, hf⟩ := s_bind hf
  refine s_lz.tr (s_le2 (s_pf_2 hh)) ?_
  obtain ⟨σ23, hh, hf⟩ := s_bind hf
  refine s_lz.tr (s_nws hh) ?_
  obtain ⟨x24, -, hf⟩ := s_bind hf
  obtain ⟨x25, -, hf⟩ := s_bind hf
  obtain ⟨q26, hh, hf⟩ := s_bind hf
  refine s_lz.tr (l_X4_init hh) ?_
  obtain ⟨σ27, hh, hf⟩ := s_bind hf
  refine s_lz.tr (s_le2 (s_pf_2 hh)) ?_
  obtain ⟨σ28, hh, hf⟩ := s_bind hf
  refine s_lz.tr (s_nws hh) ?_
  obtain ⟨x29, -, hf⟩ := s_bind hf
  obtain ⟨x30, -, hf⟩ := s_bind hf
  obtain ⟨q31, hh, hf⟩ := s_bind hf
  refine s_lz.tr (l_X6_init hh) ?_
  obtain ⟨σ32, hh, hf⟩ := s_bind hf
  refine s_lz.tr (s_le2 (s_pf_2 hh)) ?_
  cases hf
  exact s_le.rf
theorem l_X7_init_s {x : sL} {z : sZ Unit} (hs : S_X7_init x = some z) : s_lz x.2.2 z := by
  obtain ⟨pc, vs, σ⟩ := x
  unfold S_X7_init at hs
  dsimp only at hs ⊢
  rcases s_ite hs with ⟨c, hs⟩ | ⟨-, hs⟩
  · subst c
    unfold U_X7_init_0 at hs
    obtain ⟨a0, g0, hs⟩ := s_bind hs
    obtain ⟨u9, ge, hs⟩ := s_bind hs
    exact l_X7_init_0 hs
  cases hs
theorem l_X7_init {v0 : Nat} {σ : sS} {q : Unit × sS} (h : F_X7_init v0 σ = some q) : s_le σ q.2 := by
  unfold F_X7_init at h
  exact s_run_ind (V := fun x r => s_le x.2.2 r.2) (fun x z r hs hk => by
    have h9 := l_X7_init_s hs
    cases z with
    | inl y => exact s_le.tr h9 hk
    | inr q => cases hk; exact h9) h
set_option maxRecDepth 100000 in
set_option maxHeartbeats 4000000 in
theorem v_X7_init_0 {G : sG} {d : Nat} {vs0 : List Value} {σ0 : sS} {v0 : Nat} {σ : sS} {z : sZ Unit} {r : Unit × sS} (hf : T_X7_init_0 v0 σ = some z) (k : s_K G (d + 3) M_X7_init vs0 σ0 Y_X7_init e_V z r) : s_V G (d + 3) M_X7_init vs0 σ0 Y_X7_init (0, [.ref v0], σ) (e_V r) := by
  have le0 : s_le σ (e_V r).2 := s_lek hem_V (l_X7_init_0 hf) k
  refine ⟨le0, ?_⟩
  intro p e s m below meth c H locs cells slots ls X I hn1 hn2 hl
  have hn : cells + σ0.2.1 ≤ σ.2.1 ∧ slots + σ0.2.2.1 ≤ σ.2.2.1 := ⟨hn1, hn2⟩
  have hl : lv_has ls 1 [(0, .ref v0)] := hl
  have hx := X.1
  have hb : c.code = cX7_init := X.2.1
  have hown : s.vm.findClass RX7 = some m.cls := X.2.2.2.2.2.1
  have hts := X.2.2.2.2.2.2.1
  refine W.eq (g2 := F0 m 0 ls []) rfl ?_
  unfold T_X7_init_0 at hf
  obtain ⟨σ1, h1, hf⟩ := s_bind hf
  obtain ⟨q2, h2, hf⟩ := s_bind hf
  obtain ⟨σ3, h3, hf⟩ := s_bind hf
  obtain ⟨σ4, h4, hf⟩ := s_bind hf
  obtain ⟨q5, h5, hf⟩ := s_bind hf
  obtain ⟨σ6, h6, hf⟩ := s_bind hf
  obtain ⟨σ7, h7, hf⟩ := s_bind hf
  obtain ⟨q8, h8, hf⟩ := s_bind hf
  obtain ⟨σ9, h9, hf⟩ := s_bind hf
  obtain ⟨σ10, h10, hf⟩ := s_bind hf
  obtain ⟨x11, h11, hf⟩ := s_bind hf
  obtain ⟨q12, h12, hf⟩ := s_bind hf
  obtain ⟨σ13, h13, hf⟩ := s_bind hf
  obtain ⟨σ14, h14, hf⟩ := s_bind hf
  obtain ⟨x15, h15, hf⟩ := s_bind hf
  obtain ⟨q16, h16, hf⟩ := s_bind hf
  obtain ⟨σ17, h17, hf⟩ := s_bind hf
  obtain ⟨σ18, h18, hf⟩ := s_bind hf
  obtain ⟨x19, h19, hf⟩ := s_bind hf
  obtain ⟨x20, h20, hf⟩ := s_bind hf
  obtain ⟨q21, h21, hf⟩ := s_bind hf
  obtain ⟨σ22, h22, hf⟩ := s_bind hf
  obtain ⟨σ23, h23, hf⟩ := s_bind hf
  obtain ⟨x24, h24, hf⟩ := s_bind hf
  obtain ⟨x25, h25, hf⟩ := s_bind hf
  obtain ⟨q26, h26, hf⟩ := s_bind hf
  obtain ⟨σ27, h27, hf⟩ := s_bind hf
  obtain ⟨σ28, h28, hf⟩ := s_bind hf
  obtain ⟨x29, h29, hf⟩ := s_bind hf
  obtain ⟨x30, h30, hf⟩ := s_bind hf
  obtain ⟨q31, h31, hf⟩ := s_bind hf
  obtain ⟨σ32, h32, hf⟩ := s_bind hf
  cases hf
  have k : _ = r := k
  subst k
  have le33 : s_le σ32 σ32 := s_le.rf
  have le34 := s_le.tr (s_le2 (s_pf_2 h32)) le33
  have le35 := s_le.tr (l_X6_init h31) le34
  have le36 := s_le.tr (s_nws h28) le35
  have le37 := s_le.tr (s_le2 (s_pf_2 h27)) le36
  have le38 := s_le.tr (l_X4_init h26) le37
  have le39 := s_le.tr (s_nws h23) le38
  have le40 := s_le.tr (s_le2 (s_pf_2 h22)) le39
  have le41 := s_le.tr (l_X0_init h21) le40
  have le42 := s_le.tr (s_nws h18) le41
  have le43 := s_le.tr (s_le2 (s_pf_2 h17)) le42
  have le44 := s_le.tr (l_X3_init h16) le43
  have le45 := s_le.tr (s_nws h14) le44
  have le46 := s_le.tr (s_le2 (s_pf_2 h13)) le45
  have le47 := s_le.tr (l_X5_init h12) le46
  have le48 := s_le.tr (s_nws h10) le47
  have le49 := s_le.tr (s_le2 (s_pf_2 h9)) le48
  have le50 := s_le.tr (l_X1_init h8) le49
  have le51 := s_le.tr (s_nws h7) le50
  have le52 := s_le.tr (s_le2 (s_pf_2 h6)) le51
  have le53 := s_le.tr (l_X1_init h5) le52
  have le54 := s_le.tr (s_nws h4) le53
  have le55 := s_le.tr (s_le2 (s_pf_2 h3)) le54
  have le56 := s_le.tr (l_X2_init h2) le55
  refine lv_aload_n hx hb dX7_init_0 rfl (lv_at hl 0 rfl) ?_
  refine r_objI X w_201 w_202 w_203 hl.1 (Nat.le_of_ble_eq_true rfl) dX7_init_1 ?_
  refine lv_aload_n hx hb dX7_init_4 rfl (lv_at hl 0 rfl) ?_
  refine r_new X I nw_X7_9 hn (Option.some.inj h1 ▸ le56) dX7_init_5 (fun H I => ?_)
  have hn := s_knw (ci := 2) (N := 8) (fs := [.int 0, .null, .null, .null, .null, .null, .null, .null]) hn
  rw [Option.some.inj h1] at I hn
  refine lv_dup hx hb dX7_init_8 rfl ?_
  refine r_callI (Y := M_X2_init) X I w_206 my_X2_init (by omega) (t_X2_init (G := G) (d := d + 0) h2) rfl rfl hl.1 rfl (Nat.le_of_ble_eq_true rfl) hn le55 dX7_init_9 (fun H locs cells slots I hn1 hn2 => ?_)
  have I : s_I G q2.2 s H locs := I
  have hn : cells + σ0.2.1 ≤ q2.2.2.1 ∧ slots + σ0.2.2.1 ≤ q2.2.2.2.1 := ⟨hn1, hn2⟩
  refine r_put X I fp_X7_12 (fun _ => rfl) h3 rfl rfl dX7_init_12 (fun H locs I => ?_)
  have hn := s_k2 (s_pf_2 h3) hn
  refine lv_aload_n hx hb dX7_init_15 rfl (lv_at hl 0 rfl) ?_
  refine r_new X I nw_X7_16 hn (Option.some.inj h4 ▸ le53) dX7_init_16 (fun H I => ?_)
  have hn := s_knw (ci := 1) (N := 15) (fs := [.int 0, .int 0, .int 0, .null, .null, .null, .int 0, .null, .null, .int 0, .int 0, .null, .null, .null, .null]) hn
  rw [Option.some.inj h4] at I hn
  refine lv_dup hx hb dX7_init_19 rfl ?_
  refine r_callI (Y := M_X1_init) X I w_242 my_X1_init (by omega) (t_X1_init (G := G) (d := d + 1) h5) rfl rfl hl.1 rfl (Nat.le_of_ble_eq_true rfl) hn le52 dX7_init_20 (fun H locs cells slots I hn1 hn2 => ?_)
  have I : s_I G q5.2 s H locs := I
  have hn : cells + σ0.2.1 ≤ q5.2.2.1 ∧ slots + σ0.2.2.1 ≤ q5.2.2.2.1 := ⟨hn1, hn2⟩
  refine r_put X I fp_X7_19 (fun _ => rfl) h6 rfl rfl dX7_init_23 (fun H locs I => ?_)
  have hn := s_k2 (s_pf_2 h6) hn
  refine lv_aload_n hx hb dX7_init_26 rfl (lv_at hl 0 rfl) ?_
  refine r_new X I nw_X7_16 hn (Option.some.inj h7 ▸ le50) dX7_init_27 (fun H I => ?_)
  have hn := s_knw (ci := 1) (N := 15) (fs := [.int 0, .int 0, .int 0, .null, .null, .null, .int 0, .null, .null, .int 0, .int 0, .null, .null, .null, .null]) hn
  rw [Option.some.inj h7] at I hn
  refine lv_dup hx hb dX7_init_30 rfl ?_
  refine r_callI (Y := M_X1_init) X I w_242 my_X1_init (by omega) (t_X1_init (G := G) (d := d + 1) h8) rfl rfl hl.1 rfl (Nat.le_of_ble_eq_true rfl) hn le49 dX7_init_31 (fun H locs cells slots I hn1 hn2 => ?_)
  have I : s_I G q8.2 s H locs := I
  have hn : cells + σ0.2.1 ≤ q8.2.2.1 ∧ slots + σ0.2.2.1 ≤ q8.2.2.2.1 := ⟨hn1, hn2⟩
  refine r_put X I fp_X7_23 (fun _ => rfl) h9 rfl rfl dX7_init_34 (fun H locs I => ?_)
  have hn := s_k2 (s_pf_2 h9) hn
  refine lv_aload_n hx hb dX7_init_37 rfl (lv_at hl 0 rfl) ?_
  refine r_new X I nw_X7_26 hn (Option.some.inj h10 ▸ le47) dX7_init_38 (fun H I => ?_)
  have hn := s_knw (ci := 5) (N := 7) (fs := [.int 0, .int 0, .null, .null, .int 0, .int 0, .int 0]) hn
  rw [Option.some.inj h10] at I hn
  refine lv_dup hx hb dX7_init_41 rfl ?_
  refine lv_aload_n hx hb dX7_init_42 rfl (lv_at hl 0 rfl) ?_
  refine r_gr X I fl_X7_12 h11 dX7_init_43 ?_
  refine r_callI (Y := M_X5_init) X I w_314 my_X5_init (by omega) (t_X5_init (G := G) (d := d + 1) h12) rfl rfl hl.1 rfl (Nat.le_of_ble_eq_true rfl) hn le46 dX7_init_46 (fun H locs cells slots I hn1 hn2 => ?_)
  have I : s_I G q12.2 s H locs := I
  have hn : cells + σ0.2.1 ≤ q12.2.2.1 ∧ slots + σ0.2.2.1 ≤ q12.2.2.2.1 := ⟨hn1, hn2⟩
  refine r_put X I fp_X7_31 (fun _ => rfl) h13 rfl rfl dX7_init_49 (fun H locs I => ?_)
  have hn := s_k2 (s_pf_2 h13) hn
  refine lv_aload_n hx hb dX7_init_52 rfl (lv_at hl 0 rfl) ?_
  refine r_new X I nw_X7_35 hn (Option.some.inj h14 ▸ le44) dX7_init_53 (fun H I => ?_)
  have hn := s_knw (ci := 3) (N := 6) (fs := [.null, .null, .null, .null, .null, .null]) hn
  rw [Option.some.inj h14] at I hn
  refine lv_dup hx hb dX7_init_56 rfl ?_
  refine lv_aload_n hx hb dX7_init_57 rfl (lv_at hl 0 rfl) ?_
  refine r_gr X I fl_X7_19 h15 dX7_init_58 ?_
  refine r_callI (Y := M_X3_init) X I w_345 my_X3_init (by omega) (t_X3_init (G := G) (d := d + 1) h16) rfl rfl hl.1 rfl (Nat.le_of_ble_eq_true rfl) hn le43 dX7_init_61 (fun H locs cells slots I hn1 hn2 => ?_)
  have I : s_I G q16.2 s H locs := I
  have hn : cells + σ0.2.1 ≤ q16.2.2.1 ∧ slots + σ0.2.2.1 ≤ q16.2.2.2.1 := ⟨hn1, hn2⟩
  refine r_put X I fp_X7_40 (fun _ => rfl) h17 rfl rfl dX7_init_64 (fun H locs I => ?_)
  have hn := s_k2 (s_pf_2 h17) hn
  refine lv_aload_n hx hb dX7_init_67 rfl (lv_at hl 0 rfl) ?_
  refine r_new X I nw_X7_44 hn (Option.some.inj h18 ▸ le41) dX7_init_68 (fun H I => ?_)
  have hn := s_knw (ci := 0) (N := 6) (fs := [.long 0, .long 0, .long 0, .long 0, .null, .null]) hn
  rw [Option.some.inj h18] at I hn
  refine lv_dup hx hb dX7_init_71 rfl ?_
  refine lv_aload_n hx hb dX7_init_72 rfl (lv_at hl 0 rfl) ?_
  refine r_gr X I fl_X7_12 h19 dX7_init_73 ?_
  refine lv_aload_n hx hb dX7_init_76 rfl (lv_at hl 0 rfl) ?_
  refine r_gr X I fl_X7_19 h20 dX7_init_77 ?_
  refine r_callI (Y := M_X0_init) X I w_370 my_X0_init (by omega) (t_X0_init (G := G) (d := d + 1) h21) rfl rfl hl.1 rfl (Nat.le_of_ble_eq_true rfl) hn le40 dX7_init_80 (fun H locs cells slots I hn1 hn2 => ?_)
  have I : s_I G q21.2 s H locs := I
  have hn : cells + σ0.2.1 ≤ q21.2.2.1 ∧ slots + σ0.2.2.1 ≤ q21.2.2.2.1 := ⟨hn1, hn2⟩
  refine r_put X I fp_X7_49 (fun _ => rfl) h22 rfl rfl dX7_init_83 (fun H locs I => ?_)
  have hn := s_k2 (s_pf_2 h22) hn
  refine lv_aload_n hx hb dX7_init_86 rfl (lv_at hl 0 rfl) ?_
  refine r_new X I nw_X7_53 hn (Option.some.inj h23 ▸ le38) dX7_init_87 (fun H I => ?_)
  have hn := s_knw (ci := 4) (N := 13) (fs := [.null, .null, .null, .null, .null, .null, .null, .null, .int 0, .int 0, .int 0, .int 0, .int 0]) hn
  rw [Option.some.inj h23] at I hn
  refine lv_dup hx hb dX7_init_90 rfl ?_
  refine lv_aload_n hx hb dX7_init_91 rfl (lv_at hl 0 rfl) ?_
  refine r_gr X I fl_X7_12 h24 dX7_init_92 ?_
  refine lv_aload_n hx hb dX7_init_95 rfl (lv_at hl 0 rfl) ?_
  refine r_gr X I fl_X7_19 h25 dX7_init_96 ?_
  refine r_callI (Y := M_X4_init) X I w_396 my_X4_init (by omega) (t_X4_init (G := G) (d := d + 1) h26) rfl rfl hl.1 rfl (Nat.le_of_ble_eq_true rfl) hn le37 dX7_init_99 (fun H locs cells slots I hn1 hn2 => ?_)
  have I : s_I G q26.2 s H locs := I
  have hn : cells + σ0.2.1 ≤ q26.2.2.1 ∧ slots + σ0.2.2.1 ≤ q26.2.2.2.1 := ⟨hn1, hn2⟩
  refine r_put X I fp_X7_56 (fun _ => rfl) h27 rfl rfl dX7_init_102 (fun H locs I => ?_)
  have hn := s_k2 (s_pf_2 h27) hn
  refine lv_aload_n hx hb dX7_init_105 rfl (lv_at hl 0 rfl) ?_
  refine r_new X I nw_X7_60 hn (Option.some.inj h28 ▸ le35) dX7_init_106 (fun H I => ?_)
  have hn := s_knw (ci := 6) (N := 2) (fs := [.null, .null]) hn
  rw [Option.some.inj h28] at I hn
  refine lv_dup hx hb dX7_init_109 rfl ?_
  refine lv_aload_n hx hb dX7_init_110 rfl (lv_at hl 0 rfl) ?_
  refine r_gr X I fl_X7_19 h29 dX7_init_111 ?_
  refine lv_aload_n hx hb dX7_init_114 rfl (lv_at hl 0 rfl) ?_
  refine r_gr X I fl_X7_49 h30 dX7_init_115 ?_
  refine r_callI (Y := M_X6_init) X I w_442 my_X6_init (by omega) (t_X6_init (G := G) (d := d + 1) h31) rfl rfl hl.1 rfl (Nat.le_of_ble_eq_true rfl) hn le34 dX7_init_118 (fun H locs cells slots I hn1 hn2 => ?_)
  have I : s_I G q31.2 s H locs := I
  have hn : cells + σ0.2.1 ≤ q31.2.2.1 ∧ slots + σ0.2.2.1 ≤ q31.2.2.2.1 := ⟨hn1, hn2⟩
  refine r_put X I fp_X7_65 (fun _ => rfl) h32 rfl rfl dX7_init_121 (fun H locs I => ?_)
  have hn := s_k2 (s_pf_2 h32) hn
  exact r_vret X I rfl rfl hn dX7_init_124
theorem v_X7_init {G : sG} {d : Nat} {vs0 : List Value} {σ0 : sS} {x : sL} {z : sZ Unit} {r : Unit × sS} (hs : S_X7_init x = some z) (k : s_K G (d + 3) M_X7_init vs0 σ0 Y_X7_init e_V z r) : s_V G (d + 3) M_X7_init vs0 σ0 Y_X7_init x (e_V r) := by
  obtain ⟨pc, vs, σ⟩ := x
  unfold S_X7_init at hs
  dsimp only at hs
  rcases s_ite hs with ⟨c, hs⟩ | ⟨-, hs⟩
  · subst c
    unfold U_X7_init_0 at hs
    obtain ⟨a0, g0, hs⟩ := s_bind hs
    obtain ⟨u9, ge, hs⟩ := s_bind hs
    rw [g_r_to g0, g_e_to ge]
    exact v_X7_init_0 hs k
  cases hs
theorem t_X7_init {G : sG} {d : Nat} {v0 : Nat} {σ : sS} {q : Unit × sS} (h : F_X7_init v0 σ = some q) : s_T G (d + 3) M_X7_init [.ref v0] σ (e_V q) := by
  unfold F_X7_init at h
  exact s_ofV rfl (by decide) (Nat.le_of_ble_eq_true rfl) rfl rfl (s_run_ind (V := fun x r => s_V G (d + 3) M_X7_init [.ref v0] σ Y_X7_init x (e_V r)) (fun x z r hs hk => v_X7_init hs (by cases z <;> exact hk)) h)
/-! X8_init -/
noncomputable def T_X8_init_0 (v0 : Nat) (σ : sS) : Option (sZ Unit) :=
  (s_na σ 0 1682).bind fun σ1 =>
  (s_pf σ1 v0 8 1 (.ref σ.2.1)).bind fun σ2 =>
  (s_na σ2 0 1682).bind fun σ3 =>
  (s_pf σ3 v0 8 2 (.ref σ2.2.1)).bind fun σ4 =>
  (s_na σ4 0 72).bind fun σ5 =>
  (s_pf σ5 v0 8 4 (.ref σ4.2.1)).bind fun σ6 =>
  (s_na σ6 0 2880).bind fun σ7 =>
  (s_pf σ7 v0 8 5 (.ref σ6.2.1)).bind fun σ8 =>
  (s_na σ8 2 400).bind fun σ9 =>
  (s_pf σ9 v0 8 6 (.ref σ8.2.1)).bind fun σ10 =>
  (s_pf σ10 v0 8 13 (.int (-1))).bind fun σ11 =>
  (s_na σ11 0 5).bind fun σ12 =>
  (s_pf σ12 v0 8 15 (.ref σ11.2.1)).bind fun σ13 =>
  (s_na σ13 0 40).bind fun σ14 =>
  (s_pf σ14 v0 8 16 (.ref σ13.2.1)).bind fun σ15 =>
  (s_na σ15 3 40).bind fun σ16 =>
  (s_pf σ16 v0 8 17 (.ref σ15.2.1)).bind fun σ17 =>
  (s_na σ17 1 40).bind fun σ18 =>
  (s_pf σ18 v0 8 18 (.ref σ17.2.1)).bind fun σ19 =>
  (s_na σ19 1 40).bind fun σ20 =>
  (s_pf σ20 v0 8 19 (.ref σ19.2.1)).bind fun σ21 =>
  (s_na σ21 0 1024).bind fun σ22 =>
  (s_pf σ22 v0 8 20 (.ref σ21.2.1)).bind fun σ23 =>
  (s_na σ23 0 1088).bind fun σ24 =>
  (s_pf σ24 v0 8 21 (.ref σ23.2.1)).bind fun σ25 =>
  (s_na σ25 0 4).bind fun σ26 =>
  (s_pf σ26 v0 8 22 (.ref σ25.2.1)).bind fun σ27 =>
  (s_na σ27 0 40).bind fun σ28 =>
  (s_pf σ28 v0 8 23 (.ref σ27.2.1)).bind fun σ29 =>
  (s_na σ29 0 40).bind fun σ30 =>
  (s_pf σ30 v0 8 24 (.ref σ29.2.1)).bind fun σ31 =>
  (s_na σ31 0 40).bind fun σ32 =>
  (s_pf σ32 v0 8 25 (.ref σ31.2.1)).bind fun σ33 =>
  (s_na σ33 0 120).bind fun σ34 =>
  (s_pf σ34 v0 8 26 (.ref σ33.2.1)).bind fun σ35 =>
  (s_na σ35 3 40).bind fun σ36 =>
  (s_pf σ36 v0 8 27 (.ref σ35.2.1)).bind fun σ37 =>
  (s_na σ37 3 1600).bind fun σ38 =>
  (s_pf σ38 v0 8 28 (.ref σ37.2.1)).bind fun σ39 =>
  (s_na σ39 3 1600).bind fun σ40 =>
  (s_pf σ40 v0 8 29 (.ref σ39.2.1)).bind fun σ41 =>
  (s_na σ41 0 1600).bind fun σ42 =>
  (s_pf σ42 v0 8 30 (.ref σ41.2.1)).bind fun σ43 =>
  (s_na σ43 0 1600).bind fun σ44 =>
  (s_pf σ44 v0 8 31 (.ref σ43.2.1)).bind fun σ45 =>
  (s_na σ45 0 3).bind fun σ46 =>
  (s_pf σ46 v0 8 32 (.ref σ45.2.1)).bind fun σ47 =>
  (s_na σ47 0 320).bind fun σ48 =>
  (s_pf σ48 v0 8 36 (.ref σ47.2.1)).bind fun σ49 =>
  (s_na σ49 0 608).bind fun σ50 =>
  (s_pf σ50 v0 8 37 (.ref σ49.2.1)).bind fun σ51 =>
  (s_fr σ51 v0 8 1).bind fun x52 =>
  (s_si σ51 x52 0 2).bind fun σ53 =>
  some (.inl (227, [.ref v0, .int 0], σ53))
noncomputable def U_X8_init_0 (vs : List Value) (σ : sS) : Option (sZ Unit) := (g_r vs).bind fun a0 => (g_e a0.2).bind fun _ => T_X8_init_0 a0.1 σ
noncomputable def T_X8_init_227 (v0 : Nat) (v1 : Int32) (σ : sS) : Option (sZ Unit) :=
  if (3 : Int32) ≤ v1 then (some (.inr ((), σ)))
  else ((s_fr σ v0 8 1).bind fun x1 =>
  (s_si σ x1 (4 + (18 * v1)) 65535).bind fun σ2 =>
  some (.inl (249, [.ref v0, .int v1, .int (4 + (18 * v1)), .int 0], σ2)))
noncomputable def U_X8_init_227 (vs : List Value) (σ : sS) : Option (sZ Unit) := (g_r vs).bind fun a0 => (g_i a0.2).bind fun a1 => (g_e a1.2).bind fun _ => T_X8_init_227 a0.1 a1.1 σ
noncomputable def T_X8_init_249 (v0 : Nat) (v1 : Int32) (v2 : Int32) (v3 : Int32) (σ : sS) : Option (sZ Unit) :=
  if (16 : Int32) ≤ v3 then ((s_fr σ v0 8 1).bind fun x1 =>
  (s_si σ x1 ((v2 + 1) + 16) 1).bind fun σ2 =>
  some (.inl (227, [.ref v0, .int (v1 + 1)], σ2)))
  else ((s_fr σ v0 8 1).bind fun x3 =>
  (s_si σ x3 ((v2 + 1) + v3) 10).bind fun σ4 =>
  some (.inl (249, [.ref v0, .int v1, .int v2, .int (v3 + 1)], σ4)))
noncomputable def U_X8_init_249 (vs : List Value) (σ : sS) : Option (sZ Unit) := (g_r vs).bind fun a0 => (g_i a0.2).bind fun a1 => (g_i a1.2).bind fun a2 => (g_i a2.2).bind fun a3 => (g_e a3.2).bind fun _ => T_X8_init_249 a0.1 a1.1 a2.1 a3.1 σ
noncomputable def S_X8_init (x : sL) : Option (sZ Unit) := if x.1 = 0 then U_X8_init_0 x.2.1 x.2.2 else if x.1 = 227 then U_X8_init_227 x.2.1 x.2.2 else if x.1 = 249 then U_X8_init_249 x.2.1 x.2.2 else none
def Y_X8_init (pc : Nat) : List Nat := if pc = 0 then [0] else if pc = 227 then [0, 1] else if pc = 249 then [0, 1, 2, 3] else []
noncomputable def F_X8_init (v0 : Nat) (σ : sS) : Option (Unit × sS) := s_run S_X8_init (0, [.ref v0], σ)
theorem l_X8_init_0 {v0 : Nat} {σ : sS} {z : sZ Unit} (hf : T_X8_init_0 v0 σ = some z) : s_lz σ z := by
  unfold T_X8_init_0 at hf
  obtain ⟨σ1, hh, hf⟩ := s_bind hf
  refine s_lz.tr (s_na_le hh) ?_
  obtain ⟨σ2, hh, hf⟩ := s_bind hf
  refine s_lz.tr (s_le2 (s_pf_2 hh)) ?_
  obtain ⟨σ3, hh, hf⟩ := s_bind hf
  refine s_lz.tr (s_na_le hh) ?_
  obtain ⟨σ4, hh, hf⟩ := s_bind hf
  refine s_lz.tr (s_le2 (s_pf_2 hh)) ?_
  obtain ⟨σ5, hh, hf⟩ := s_bind hf
  refine s_lz.tr (s_na_le hh) ?_
  obtain ⟨σ6, hh, hf⟩ := s_bind hf
  refine s_lz.tr (s_le2 (s_pf_2 hh)) ?_
  obtain ⟨σ7, hh, hf⟩ := s_bind hf
  refine s_lz.tr (s_na_le hh) ?_
  obtain ⟨σ8, hh, hf⟩ := s_bind hf
  refine s_lz.tr (s_le2 (s_pf_2 hh)) ?_
  obtain ⟨σ9, hh, hf⟩ := s_bind hf
  refine s_lz.tr (s_na_le hh) ?_
  obtain ⟨σ10, hh, hf⟩ := s_bind hf
  refine s_lz.tr (s_le2 (s_pf_2 hh)) ?_
  obtain ⟨σ11, hh, hf⟩ := s_bind hf
  refine s_lz.tr (s_le2 (s_pf_2 hh)) ?_
  obtain ⟨σ12, hh, hf⟩ := s_bind hf
  refine s_lz.tr (s_na_le hh) ?_
  obtain ⟨σ13, hh, hf⟩ := s_bind hf
  refine s_lz.tr (s_le2 (s_pf_2 hh)) ?_
  obtain ⟨σ14, hh, hf⟩ := s_bind hf
  refine s_lz.tr (s_na_le hh) ?_
  obtain ⟨σ15, hh, hf⟩ := s_bind hf
  refine s_lz.tr (s_le2 (s_pf_2 hh)) ?_
  obtain ⟨σ16, hh, hf⟩ := s_bind hf
  refine s_lz.tr (s_na_le hh) ?_
  obtain ⟨σ17, hh, hf⟩ := s_bind hf
  refine s_lz.tr (s_le2 (s_pf_2 hh)) ?_
  obtain ⟨σ18, hh, hf⟩ := s_bind hf
  refine s_lz.tr (s_na_le hh) ?_
  obtain ⟨σ19, hh, hf⟩ := s_bind hf
  refine s_lz.tr (s_le2 (s_pf_2 hh)) ?_
  obtain ⟨σ20, hh, hf⟩ := s_bind hf
  refine s_lz.tr (s_na_le hh) ?_
  obtain ⟨σ21, hh, hf⟩ := s_bind hf
  refine s_lz.tr (s_le2 (s_pf_2 hh)) ?_
  obtain ⟨σ22, hh, hf⟩ := s_bind hf
  refine s_lz.tr (s_na_le hh) ?_
  obtain ⟨σ23, hh, hf⟩ := s_bind hf
  refine s_lz.tr (s_le2 (s_pf_2 hh)) ?_
  obtain ⟨σ24, hh, hf⟩ := s_bind hf
  refine s_lz.tr (s_na_le hh) ?_
  obtain ⟨σ25, hh, hf⟩ := s_bind hf
  refine s_lz.tr (s_le2 (s_pf_2 hh)) ?_
  obtain ⟨σ26, hh, hf⟩ := s_bind hf
  refine s_lz.tr (s_na_le hh) ?_
  obtain ⟨σ27, hh, hf⟩ := s_bind hf
  refine s_lz.tr (s_le2 (s_pf_2 hh)) ?_
  obtain ⟨σ28, hh, hf⟩ := s_bind hf
  refine s_lz.tr (s_na_le hh) ?_
  obtain ⟨σ29, hh, hf⟩ := s_bind hf
  refine s_lz.tr (s_le2 (s_pf_2 hh)) ?_
  obtain ⟨σ30, hh, hf⟩ := s_bind hf
  refine s_lz.tr (s_na_le hh) ?_
  obtain ⟨σ31, hh, hf⟩ := s_bind hf
  refine s_lz.tr (s_le2 (s_pf_2 hh)) ?_
  obtain ⟨σ32, hh, hf⟩ := s_bind hf
  refine s_lz.tr (s_na_le hh) ?_
  obtain ⟨σ33, hh, hf⟩ := s_bind hf
  refine s_lz.tr (s_le2 (s_pf_2 hh)) ?_
  obtain ⟨σ34, hh, hf⟩ := s_bind hf
  refine s_lz.tr (s_na_le hh) ?_
  obtain ⟨σ35, hh, hf⟩ := s_bind hf
  refine s_lz.tr (s_le2 (s_pf_2 hh)) ?_
  obtain ⟨σ36, hh, hf⟩ := s_bind hf
  refine s_lz.tr (s_na_le hh) ?_
  obtain ⟨σ37, hh, hf⟩ := s_bind hf
  refine s_lz.tr (s_le2 (s_pf_2 hh)) ?_
  obtain ⟨σ38, hh, hf⟩ := s_bind hf
  refine s_lz.tr (s_na_le hh) ?_
  obtain ⟨σ39, hh, hf⟩ := s_bind hf
  refine s_lz.tr (s_le2 (s_pf_2 hh)) ?_
  obtain ⟨σ40, hh, hf⟩ := s_bind hf
  refine s_lz.tr (s_na_le hh) ?_
  obtain ⟨σ41, hh, hf⟩ := s_bind hf
  refine s_lz.tr (s_le2 (s_pf_2 hh)) ?_
  obtain ⟨σ42, hh, hf⟩ := s_bind hf
  refine s_lz.tr (s_na_le hh) ?_
  obtain ⟨σ43, hh, hf⟩ := s_bind hf
  refine s_lz.tr (s_le2 (s_pf_2 hh)) ?_
  obtain ⟨σ44, hh, hf⟩ := s_bind hf
  refine s_lz.tr (s_na_le hh) ?_
  obtain ⟨σ45, hh, hf⟩ := s_bind hf
  refine s_lz.tr (s_le2 (s_pf_2 hh)) ?_
  obtain ⟨σ46, hh, hf⟩ := s_bind hf
  refine s_lz.tr (s_na_le hh) ?_
  obtain ⟨σ47, hh, hf⟩ := s_bind hf
  refine s_lz.tr (s_le2 (s_pf_2 hh)) ?_
  obtain ⟨σ48, hh, hf⟩ := s_bind hf
  refine s_lz.tr (s_na_le hh) ?_
  obtain ⟨σ49, hh, hf⟩ := s_bind hf
  refine s_lz.tr (s_le2 (s_pf_2 hh)) ?_
  obtain ⟨σ50, hh, hf⟩ := s_bind hf
  refine s_lz.tr (s_na_le hh) ?_
  obtain ⟨σ51, hh, hf⟩ := s_bind hf
  refine s_lz.tr (s_le2 (s_pf_2 hh)) ?_
  obtain ⟨x52, -, hf⟩ := s_bind hf
  obtain ⟨σ53, hh, hf⟩ := s_bind hf
  refine s_lz.tr (s_le2 (s_si_2 hh)) ?_
  cases hf
  exact s_le.rf
theorem l_X8_init_227 {v0 : Nat} {v1 : Int32} {σ : sS} {z : sZ Unit} (hf : T_X8_init_227 v0 v1 σ = some z) : s_lz σ z := by
  unfold T_X8_init_227 at hf
  rcases s_ite hf with ⟨-, hf⟩ | ⟨-, hf⟩
  · cases hf
    exact s_le.rf
  · obtain ⟨x1, -, hf⟩ := s_bind hf
    obtain ⟨σ2, hh, hf⟩ := s_bind hf
    refine s_lz.tr (s_le2 (s_si_2 hh)) ?_
    cases hf
    exact s_le.rf
theorem l_X8_init_249 {v0 : Nat} {v1 : Int32} {v2 : Int32} {v3 : Int32} {σ : sS} {z : sZ Unit} (hf : T_X8_init_249 v0 v1 v2 v3 σ = some z) : s_lz σ z := by
  unfold T_X8_init_249 at hf
  rcases s_ite hf with ⟨-, hf⟩ | ⟨-, hf⟩
  · obtain ⟨x1, -, hf⟩ := s_bind hf
    obtain ⟨σ2, hh, hf⟩ := s_bind hf
    refine s_lz.tr (s_le2 (s_si_2 hh)) ?_
    cases hf
    exact s_le.rf
  · obtain ⟨x3, -, hf⟩ := s_bind hf
    obtain ⟨σ4, hh, hf⟩ := s_bind hf
    refine s_lz.tr (s_le2 (s_si_2 hh)) ?_
    cases hf
    exact s_le.rf
theorem l_X8_init_s {x : sL} {z : sZ Unit} (hs : S_X8_init x = some z) : s_lz x.2.2 z := by
  obtain ⟨pc, vs, σ⟩ := x
  unfold S_X8_init at hs
  dsimp only at hs ⊢
  rcases s_ite hs with ⟨c, hs⟩ | ⟨-, hs⟩
  · subst c
    unfold U_X8_init_0 at hs
    obtain ⟨a0, g0, hs⟩ := s_bind hs
    obtain ⟨u9, ge, hs⟩ := s_bind hs
    exact l_X8_init_0 hs
  rcases s_ite hs with ⟨c, hs⟩ | ⟨-, hs⟩
  · subst c
    unfold U_X8_init_227 at hs
    obtain ⟨a0, g0, hs⟩ := s_bind hs
    obtain ⟨a1, g1, hs⟩ := s_bind hs
    obtain ⟨u9, ge, hs⟩ := s_bind hs
    exact l_X8_init_227 hs
  rcases s_ite hs with ⟨c, hs⟩ | ⟨-, hs⟩
  · subst c
    unfold U_X8_init_249 at hs
    obtain ⟨a0, g0, hs⟩ := s_bind hs
    obtain ⟨a1, g1, hs⟩ := s_bind hs
    obtain ⟨a2, g2, hs⟩ := s_bind hs
    obtain ⟨a3, g3, hs⟩ := s_bind hs
    obtain ⟨u9, ge, hs⟩ := s_bind hs
    exact l_X8_init_249 hs
  cases hs
theorem l_X8_init {v0 : Nat} {σ : sS} {q : Unit × sS} (h : F_X8_init v0 σ = some q) : s_le σ q.2 := by
  unfold F_X8_init at h
  exact s_run_ind (V := fun x r => s_le x.2.2 r.2) (fun x z r hs hk => by
    have h9 := l_X8_init_s hs
    cases z with
    | inl y => exact s_le.tr h9 hk
    | inr q => cases hk; exact h9) h
set_option maxRecDepth 100000 in
set_option maxHeartbeats 4000000 in
theorem v_X8_init_0 {G : sG} {d : Nat} {vs0 : List Value} {σ0 : sS} {v0 : Nat} {σ : sS} {z : sZ Unit} {r : Unit × sS} (hf : T_X8_init_0 v0 σ = some z) (k : s_K G (d + 1) M_X8_init vs0 σ0 Y_X8_init e_V z r) : s_V G (d + 1) M_X8_init vs0 σ0 Y_X8_init (0, [.ref v0], σ) (e_V r) := by
  have le0 : s_le σ (e_V r).2 := s_lek hem_V (l_X8_init_0 hf) k
  refine ⟨le0, ?_⟩
  intro p e s m below meth c H locs cells slots ls X I hn1 hn2 hl
  have hn : cells + σ0.2.1 ≤ σ.2.1 ∧ slots + σ0.2.2.1 ≤ σ.2.2.1 := ⟨hn1, hn2⟩
  have hl : lv_has ls 4 [(0, .ref v0)] := hl
  have hx := X.1
  have hb : c.code = cX8_init := X.2.1
  have hown : s.vm.findClass RX8 = some m.cls := X.2.2.2.2.2.1
  have hts := X.2.2.2.2.2.2.1
  refine W.eq (g2 := F0 m 0 ls []) rfl ?_
  unfold T_X8_init_0 at hf
  obtain ⟨σ1, h1, hf⟩ := s_bind hf
  obtain ⟨σ2, h2, hf⟩ := s_bind hf
  obtain ⟨σ3, h3, hf⟩ := s_bind hf
  obtain ⟨σ4, h4, hf⟩ := s_bind hf
  obtain ⟨σ5, h5, hf⟩ := s_bind hf
  obtain ⟨σ6, h6, hf⟩ := s_bind hf
  obtain ⟨σ7, h7, hf⟩ := s_bind hf
  obtain ⟨σ8, h8, hf⟩ := s_bind hf
  obtain ⟨σ9, h9, hf⟩ := s_bind hf
  obtain ⟨σ10, h10, hf⟩ := s_bind hf
  obtain ⟨σ11, h11, hf⟩ := s_bind hf
  obtain ⟨σ12, h12, hf⟩ := s_bind hf
  obtain ⟨σ13, h13, hf⟩ := s_bind hf
  obtain ⟨σ14, h14, hf⟩ := s_bind hf
  obtain ⟨σ15, h15, hf⟩ := s_bind hf
  obtain ⟨σ16, h16, hf⟩ := s_bind hf
  obtain ⟨σ17, h17, hf⟩ := s_bind hf
  obtain ⟨σ18, h18, hf⟩ := s_bind hf
  obtain ⟨σ19, h19, hf⟩ := s_bind hf
  obtain ⟨σ20, h20, hf⟩ := s_bind hf
  obtain ⟨σ21, h21, hf⟩ := s_bind hf
  obtain ⟨σ22, h22, hf⟩ := s_bind hf
  obtain ⟨σ23, h23, hf⟩ := s_bind hf
  obtain ⟨σ24, h24, hf⟩ := s_bind hf
  obtain ⟨σ25, h25, hf⟩ := s_bind hf
  obtain ⟨σ26, h26, hf⟩ := s_bind hf
  obtain ⟨σ27, h27, hf⟩ := s_bind hf
  obtain ⟨σ28, h28, hf⟩ := s_bind hf
  obtain ⟨σ29, h29, hf⟩ := s_bind hf
  obtain ⟨σ30, h30, hf⟩ := s_bind hf
  obtain ⟨σ31, h31, hf⟩ := s_bind hf
  obtain ⟨σ32, h32, hf⟩ := s_bind hf
  obtain ⟨σ33, h33, hf⟩ := s_bind hf
  obtain ⟨σ34, h34, hf⟩ := s_bind hf
  obtain ⟨σ35, h35, hf⟩ := s_bind hf
  obtain ⟨σ36, h36, hf⟩ := s_bind hf
  obtain ⟨σ37, h37, hf⟩ := s_bind hf
  obtain ⟨σ38, h38, hf⟩ := s_bind hf
  obtain ⟨σ39, h39, hf⟩ := s_bind hf
  obtain ⟨σ40, h40, hf⟩ := s_bind hf
  obtain ⟨σ41, h41, hf⟩ := s_bind hf
  obtain ⟨σ42, h42, hf⟩ := s_bind hf
  obtain ⟨σ43, h43, hf⟩ := s_bind hf
  obtain ⟨σ44, h44, hf⟩ := s_bind hf
  obtain ⟨σ45, h45, hf⟩ := s_bind hf
  obtain ⟨σ46, h46, hf⟩ := s_bind hf
  obtain ⟨σ47, h47, hf⟩ := s_bind hf
  obtain ⟨σ48, h48, hf⟩ := s_bind hf
  obtain ⟨σ49, h49, hf⟩ := s_bind hf
  obtain ⟨σ50, h50, hf⟩ := s_bind hf
  obtain ⟨σ51, h51, hf⟩ := s_bind hf
  obtain ⟨x52, h52, hf⟩ := s_bind hf
  obtain ⟨σ53, h53, hf⟩ := s_bind hf
  cases hf
  have k : s_V G (d + 1) M_X8_init vs0 σ0 Y_X8_init (227, [.ref v0, .int 0], σ53) (e_V r) := k
  have le54 : s_le σ53 (e_V r).2 := k.1
  have le55 := s_le.tr (s_le2 (s_si_2 h53)) le54
  have le56 := s_le.tr (s_le2 (s_pf_2 h51)) le55
  have le57 := s_le.tr (s_na_le h50) le56
  have le58 := s_le.tr (s_le2 (s_pf_2 h49)) le57
  have le59 := s_le.tr (s_na_le h48) le58
  have le60 := s_le.tr (s_le2 (s_pf_2 h47)) le59
  have le61 := s_le.tr (s_na_le h46) le60
  have le62 := s_le.tr (s_le2 (s_pf_2 h45)) le61
  have le63 := s_le.tr (s_na_le h44) le62
  have le64 := s_le.tr (s_le2 (s_pf_2 h43)) le63
  have le65 := s_le.tr (s_na_le h42) le64
  have le66 := s_le.tr (s_le2 (s_pf_2 h41)) le65
  have le67 := s_le.tr (s_na_le h40) le66
  have le68 := s_le.tr (s_le2 (s_pf_2 h39)) le67
  have le69 := s_le.tr (s_na_le h38) le68
  have le70 := s_le.tr (s_le2 (s_pf_2 h37)) le69
  have le71 := s_le.tr (s_na_le h36) le70
  have le72 := s_le.tr (s_le2 (s_pf_2 h35)) le71
  have le73 := s_le.tr (s_na_le h34) le72
  have le74 := s_le.tr (s_le2 (s_pf_2 h33)) le73
  have le75 := s_le.tr (s_na_le h32) le74
  have le76 := s_le.tr (s_le2 (s_pf_2 h31)) le75
  have le77 := s_le.tr (s_na_le h30) le76
  have le78 := s_le.tr (s_le2 (s_pf_2 h29)) le77
  have le79 := s_le.tr (s_na_le h28) le78
  have le80 := s_le.tr (s_le2 (s_pf_2 h27)) le79
  have le81 := s_le.tr (s_na_le h26) le80
  have le82 := s_le.tr (s_le2 (s_pf_2 h25)) le81
  have le83 := s_le.tr (s_na_le h24) le82
  have le84 := s_le.tr (s_le2 (s_pf_2 h23)) le83
  have le85 := s_le.tr (s_na_le h22) le84
  have le86 := s_le.tr (s_le2 (s_pf_2 h21)) le85
  have le87 := s_le.tr (s_na_le h20) le86
  have le88 := s_le.tr (s_le2 (s_pf_2 h19)) le87
  have le89 := s_le.tr (s_na_le h18) le88
  have le90 := s_le.tr (s_le2 (s_pf_2 h17)) le89
  have le91 := s_le.tr (s_na_le h16) le90
  have le92 := s_le.tr (s_le2 (s_pf_2 h15)) le91
  have le93 := s_le.tr (s_na_le h14) le92
  have le94 := s_le.tr (s_le2 (s_pf_2 h13)) le93
  have le95 := s_le.tr (s_na_le h12) le94
  have le96 := s_le.tr (s_le2 (s_pf_2 h11)) le95
  have le97 := s_le.tr (s_le2 (s_pf_2 h10)) le96
  have le98 := s_le.tr (s_na_le h9) le97
  have le99 := s_le.tr (s_le2 (s_pf_2 h8)) le98
  have le100 := s_le.tr (s_na_le h7) le99
  have le101 := s_le.tr (s_le2 (s_pf_2 h6)) le100
  have le102 := s_le.tr (s_na_le h5) le101
  have le103 := s_le.tr (s_le2 (s_pf_2 h4)) le102
  have le104 := s_le.tr (s_na_le h3) le103
  have le105 := s_le.tr (s_le2 (s_pf_2 h2)) le104
  refine lv_aload_n hx hb dX8_init_0 rfl (lv_at hl 0 rfl) ?_
  refine r_objI X w_1680 w_202 w_203 hl.1 (Nat.le_of_ble_eq_true rfl) dX8_init_1 ?_
  refine lv_aload_n hx hb dX8_init_4 rfl (lv_at hl 0 rfl) ?_
  refine lv_sipush (v := 1682) hx hb dX8_init_5 (by decide) ?_
  refine r_newa X I at_int h1 hn le105 dX8_init_8 (fun H I => ?_)
  have hn := s_kna h1 hn
  refine r_put X I fp_X8_13 (fun _ => rfl) h2 rfl rfl dX8_init_10 (fun H locs I => ?_)
  have hn := s_k2 (s_pf_2 h2) hn
  refine lv_aload_n hx hb dX8_init_13 rfl (lv_at hl 0 rfl) ?_
  refine lv_sipush (v := 1682) hx hb dX8_init_14 (by decide) ?_
  refine r_newa X I at_int h3 hn le103 dX8_init_17 (fun H I => ?_)
  have hn := s_kna h3 hn
  refine r_put X I fp_X8_17 (fun _ => rfl) h4 rfl rfl dX8_init_19 (fun H locs I => ?_)
  have hn := s_k2 (s_pf_2 h4) hn
  refine lv_aload_n hx hb dX8_init_22 rfl (lv_at hl 0 rfl) ?_
  refine lv_bipush (v := 72) hx hb dX8_init_23 (by decide) ?_
  refine r_newa X I at_int h5 hn le101 dX8_init_25 (fun H I => ?_)
  have hn := s_kna h5 hn
  refine r_put X I fp_X8_20 (fun _ => rfl) h6 rfl rfl dX8_init_27 (fun H locs I => ?_)
  have hn := s_k2 (s_pf_2 h6) hn
  refine lv_aload_n hx hb dX8_init_30 rfl (lv_at hl 0 rfl) ?_
  refine lv_sipush (v := 2880) hx hb dX8_init_31 (by decide) ?_
  refine r_newa X I at_int h7 hn le99 dX8_init_34 (fun H I => ?_)
  have hn := s_kna h7 hn
  refine r_put X I fp_X8_23 (fun _ => rfl) h8 rfl rfl dX8_init_36 (fun H locs I => ?_)
  have hn := s_k2 (s_pf_2 h8) hn
  refine lv_aload_n hx hb dX8_init_39 rfl (lv_at hl 0 rfl) ?_
  refine lv_sipush (v := 400) hx hb dX8_init_40 (by decide) ?_
  refine r_newa X I at_byte h9 hn le97 dX8_init_43 (fun H I => ?_)
  have hn := s_kna h9 hn
  refine r_put X I fp_X8_26 (fun _ => rfl) h10 rfl rfl dX8_init_45 (fun H locs I => ?_)
  have hn := s_k2 (s_pf_2 h10) hn
  refine lv_aload_n hx hb dX8_init_48 rfl (lv_at hl 0 rfl) ?_
  refine lv_iconst (v := (-1)) hx hb dX8_init_49 (by decide) ?_
  refine r_put X I fp_X8_30 (fun h => by cases h) h11 rfl rfl dX8_init_50 (fun H locs I => ?_)
  have hn := s_k2 (s_pf_2 h11) hn
  refine lv_aload_n hx hb dX8_init_53 rfl (lv_at hl 0 rfl) ?_
  refine lv_iconst (v := 5) hx hb dX8_init_54 (by decide) ?_
  refine r_newa X I at_int h12 hn le94 dX8_init_55 (fun H I => ?_)
  have hn := s_kna h12 hn
  refine r_put X I fp_X8_33 (fun _ => rfl) h13 rfl rfl dX8_init_57 (fun H locs I => ?_)
  have hn := s_k2 (s_pf_2 h13) hn
  refine lv_aload_n hx hb dX8_init_60 rfl (lv_at hl 0 rfl) ?_
  refine lv_bipush (v := 40) hx hb dX8_init_61 (by decide) ?_
  refine r_newa X I at_int h14 hn le92 dX8_init_63 (fun H I => ?_)
  have hn := s_kna h14 hn
  refine r_put X I fp_X8_36 (fun _ => rfl) h15 rfl rfl dX8_init_65 (fun H locs I => ?_)
  have hn := s_k2 (s_pf_2 h15) hn
  refine lv_aload_n hx hb dX8_init_68 rfl (lv_at hl 0 rfl) ?_
  refine lv_bipush (v := 40) hx hb dX8_init_69 (by decide) ?_
  refine r_newa X I at_boolean h16 hn le90 dX8_init_71 (fun H I => ?_)
  have hn := s_kna h16 hn
  refine r_put X I fp_X8_39 (fun _ => rfl) h17 rfl rfl dX8_init_73 (fun H locs I => ?_)
  have hn := s_k2 (s_pf_2 h17) hn
  refine lv_aload_n hx hb dX8_init_76 rfl (lv_at hl 0 rfl) ?_
  refine lv_bipush (v := 40) hx hb dX8_init_77 (by decide) ?_
  refine r_newa X I at_long h18 hn le88 dX8_init_79 (fun H I => ?_)
  have hn := s_kna h18 hn
  refine r_put X I fp_X8_43 (fun _ => rfl) h19 rfl rfl dX8_init_81 (fun H locs I => ?_)
  have hn := s_k2 (s_pf_2 h19) hn
  refine lv_aload_n hx hb dX8_init_84 rfl (lv_at hl 0 rfl) ?_
  refine lv_bipush (v := 40) hx hb dX8_init_85 (by decide) ?_
  refine r_newa X I at_long h20 hn le86 dX8_init_87 (fun H I => ?_)
  have hn := s_kna h20 hn
  refine r_put X I fp_X8_47 (fun _ => rfl) h21 rfl rfl dX8_init_89 (fun H locs I => ?_)
  have hn := s_k2 (s_pf_2 h21) hn
  refine lv_aload_n hx hb dX8_init_92 rfl (lv_at hl 0 rfl) ?_
  refine lv_sipush (v := 1024) hx hb dX8_init_93 (by decide) ?_
  refine r_newa X I at_int h22 hn le84 dX8_init_96 (fun H I => ?_)
  have hn := s_kna h22 hn
  refine r_put X I fp_X8_50 (fun _ => rfl) h23 rfl rfl dX8_init_98 (fun H locs I => ?_)
  have hn := s_k2 (s_pf_2 h23) hn
  refine lv_aload_n hx hb dX8_init_101 rfl (lv_at hl 0 rfl) ?_
  refine lv_sipush (v := 1088) hx hb dX8_init_102 (by decide) ?_
  refine r_newa X I at_int h24 hn le82 dX8_init_105 (fun H I => ?_)
  have hn := s_kna h24 hn
  refine r_put X I fp_X8_53 (fun _ => rfl) h25 rfl rfl dX8_init_107 (fun H locs I => ?_)
  have hn := s_k2 (s_pf_2 h25) hn
  refine lv_aload_n hx hb dX8_init_110 rfl (lv_at hl 0 rfl) ?_
  refine lv_iconst (v := 4) hx hb dX8_init_111 (by decide) ?_
  refine r_newa X I at_int h26 hn le80 dX8_init_112 (fun H I => ?_)
  have hn := s_kna h26 hn
  refine r_put X I fp_X8_56 (fun _ => rfl) h27 rfl rfl dX8_init_114 (fun H locs I => ?_)
  have hn := s_k2 (s_pf_2 h27) hn
  refine lv_aload_n hx hb dX8_init_117 rfl (lv_at hl 0 rfl) ?_
  refine lv_bipush (v := 40) hx hb dX8_init_118 (by decide) ?_
  refine r_newa X I at_int h28 hn le78 dX8_init_120 (fun H I => ?_)
  have hn := s_kna h28 hn
  refine r_put X I fp_X8_59 (fun _ => rfl) h29 rfl rfl dX8_init_122 (fun H locs I => ?_)
  have hn := s_k2 (s_pf_2 h29) hn
  refine lv_aload_n hx hb dX8_init_125 rfl (lv_at hl 0 rfl) ?_
  refine lv_bipush (v := 40) hx hb dX8_init_126 (by decide) ?_
  refine r_newa X I at_int h30 hn le76 dX8_init_128 (fun H I => ?_)
  have hn := s_kna h30 hn
  refine r_put X I fp_X8_62 (fun _ => rfl) h31 rfl rfl dX8_init_130 (fun H locs I => ?_)
  have hn := s_k2 (s_pf_2 h31) hn
  refine lv_aload_n hx hb dX8_init_133 rfl (lv_at hl 0 rfl) ?_
  refine lv_bipush (v := 40) hx hb dX8_init_134 (by decide) ?_
  refine r_newa X I at_int h32 hn le74 dX8_init_136 (fun H I => ?_)
  have hn := s_kna h32 hn
  refine r_put X I fp_X8_65 (fun _ => rfl) h33 rfl rfl dX8_init_138 (fun H locs I => ?_)
  have hn := s_k2 (s_pf_2 h33) hn
  refine lv_aload_n hx hb dX8_init_141 rfl (lv_at hl 0 rfl) ?_
  refine lv_bipush (v := 120) hx hb dX8_init_142 (by decide) ?_
  refine r_newa X I at_int h34 hn le72 dX8_init_144 (fun H I => ?_)
  have hn := s_kna h34 hn
  refine r_put X I fp_X8_68 (fun _ => rfl) h35 rfl rfl dX8_init_146 (fun H locs I => ?_)
  have hn := s_k2 (s_pf_2 h35) hn
  refine lv_aload_n hx hb dX8_init_149 rfl (lv_at hl 0 rfl) ?_
  refine lv_bipush (v := 40) hx hb dX8_init_150 (by decide) ?_
  refine r_newa X I at_boolean h36 hn le70 dX8_init_152 (fun H I => ?_)
  have hn := s_kna h36 hn
  refine r_put X I fp_X8_71 (fun _ => rfl) h37 rfl rfl dX8_init_154 (fun H locs I => ?_)
  have hn := s_k2 (s_pf_2 h37) hn
  refine lv_aload_n hx hb dX8_init_157 rfl (lv_at hl 0 rfl) ?_
  refine lv_sipush (v := 1600) hx hb dX8_init_158 (by decide) ?_
  refine r_newa X I at_boolean h38 hn le68 dX8_init_161 (fun H I => ?_)
  have hn := s_kna h38 hn
  refine r_put X I fp_X8_74 (fun _ => rfl) h39 rfl rfl dX8_init_163 (fun H locs I => ?_)
  have hn := s_k2 (s_pf_2 h39) hn
  refine lv_aload_n hx hb dX8_init_166 rfl (lv_at hl 0 rfl) ?_
  refine lv_sipush (v := 1600) hx hb dX8_init_167 (by decide) ?_
  refine r_newa X I at_boolean h40 hn le66 dX8_init_170 (fun H I => ?_)
  have hn := s_kna h40 hn
  refine r_put X I fp_X8_77 (fun _ => rfl) h41 rfl rfl dX8_init_172 (fun H locs I => ?_)
  have hn := s_k2 (s_pf_2 h41) hn
  refine lv_aload_n hx hb dX8_init_175 rfl (lv_at hl 0 rfl) ?_
  refine lv_sipush (v := 1600) hx hb dX8_init_176 (by decide) ?_
  refine r_newa X I at_int h42 hn le64 dX8_init_179 (fun H I => ?_)
  have hn := s_kna h42 hn
  refine r_put X I fp_X8_80 (fun _ => rfl) h43 rfl rfl dX8_init_181 (fun H locs I => ?_)
  have hn := s_k2 (s_pf_2 h43) hn
  refine lv_aload_n hx hb dX8_init_184 rfl (lv_at hl 0 rfl) ?_
  refine lv_sipush (v := 1600) hx hb dX8_init_185 (by decide) ?_
  refine r_newa X I at_int h44 hn le62 dX8_init_188 (fun H I => ?_)
  have hn := s_kna h44 hn
  refine r_put X I fp_X8_83 (fun _ => rfl) h45 rfl rfl dX8_init_190 (fun H locs I => ?_)
  have hn := s_k2 (s_pf_2 h45) hn
  refine lv_aload_n hx hb dX8_init_193 rfl (lv_at hl 0 rfl) ?_
  refine lv_iconst (v := 3) hx hb dX8_init_194 (by decide) ?_
  refine r_newa X I at_int h46 hn le60 dX8_init_195 (fun H I => ?_)
  have hn := s_kna h46 hn
  refine r_put X I fp_X8_86 (fun _ => rfl) h47 rfl rfl dX8_init_197 (fun H locs I => ?_)
  have hn := s_k2 (s_pf_2 h47) hn
  refine lv_aload_n hx hb dX8_init_200 rfl (lv_at hl 0 rfl) ?_
  refine lv_sipush (v := 320) hx hb dX8_init_201 (by decide) ?_
  refine r_newa X I at_int h48 hn le58 dX8_init_204 (fun H I => ?_)
  have hn := s_kna h48 hn
  refine r_put X I fp_X8_89 (fun _ => rfl) h49 rfl rfl dX8_init_206 (fun H locs I => ?_)
  have hn := s_k2 (s_pf_2 h49) hn
  refine lv_aload_n hx hb dX8_init_209 rfl (lv_at hl 0 rfl) ?_
  refine lv_sipush (v := 608) hx hb dX8_init_210 (by decide) ?_
  refine r_newa X I at_int h50 hn le56 dX8_init_213 (fun H I => ?_)
  have hn := s_kna h50 hn
  refine r_put X I fp_X8_92 (fun _ => rfl) h51 rfl rfl dX8_init_215 (fun H locs I => ?_)
  have hn := s_k2 (s_pf_2 h51) hn
  refine lv_aload_n hx hb dX8_init_218 rfl (lv_at hl 0 rfl) ?_
  refine r_gr X I fl_X8_13 h52 dX8_init_219 ?_
  refine lv_iconst (v := 0) hx hb dX8_init_222 (by decide) ?_
  refine lv_iconst (v := 2) hx hb dX8_init_223 (by decide) ?_
  refine r_iast X I h53 dX8_init_224 (fun H locs I => ?_)
  have hn := s_k2 (s_si_2 h53) hn
  refine lv_iconst (v := 0) hx hb dX8_init_225 (by decide) ?_
  refine lv_istore_n (lv' := [(1, .int 0), (0, .ref v0)]) hx hb dX8_init_226 rfl hl (by decide) rfl (fun ls hl => ?_)
  exact k.2 p e s m below meth c _ _ _ _ _ X I hn.1 hn.2 (lv_sub hl [1, 0] rfl)
set_option maxRecDepth 100000 in
set_option maxHeartbeats 4000000 in
theorem v_X8_init_227 {G : sG} {d : Nat} {vs0 : List Value} {σ0 : sS} {v0 : Nat} {v1 : Int32} {σ : sS} {z : sZ Unit} {r : Unit × sS} (hf : T_X8_init_227 v0 v1 σ = some z) (k : s_K G (d + 1) M_X8_init vs0 σ0 Y_X8_init e_V z r) : s_V G (d + 1) M_X8_init vs0 σ0 Y_X8_init (227, [.ref v0, .int v1], σ) (e_V r) := by
  have le0 : s_le σ (e_V r).2 := s_lek hem_V (l_X8_init_227 hf) k
  refine ⟨le0, ?_⟩
  intro p e s m below meth c H locs cells slots ls X I hn1 hn2 hl
  have hn : cells + σ0.2.1 ≤ σ.2.1 ∧ slots + σ0.2.2.1 ≤ σ.2.2.1 := ⟨hn1, hn2⟩
  have hl : lv_has ls 4 [(0, .ref v0), (1, .int v1)] := hl
  have hx := X.1
  have hb : c.code = cX8_init := X.2.1
  have hown : s.vm.findClass RX8 = some m.cls := X.2.2.2.2.2.1
  have hts := X.2.2.2.2.2.2.1
  refine W.eq (g2 := F0 m 227 ls []) rfl ?_
  unfold T_X8_init_227 at hf
  refine lv_iload_n hx hb dX8_init_227 rfl (lv_at hl 1 rfl) ?_
  refine lv_iconst (v := 3) hx hb dX8_init_228 (by decide) ?_
  rcases s_ite hf with ⟨c1, hf⟩ | ⟨c1, hf⟩
  · refine lv_icmp_ge (tgt := 291) hx hb dX8_init_229 (by decide) (fun _ => ?_) (fun n => absurd c1 n)
    cases hf
    have k : _ = r := k
    subst k
    exact r_vret X I rfl rfl hn dX8_init_291
  · refine lv_icmp_ge (tgt := 291) hx hb dX8_init_229 (by decide) (fun n => absurd n c1) (fun _ => ?_)
    obtain ⟨x1, h2, hf⟩ := s_bind hf
    obtain ⟨σ2, h3, hf⟩ := s_bind hf
    cases hf
    have k : s_V G (d + 1) M_X8_init vs0 σ0 Y_X8_init (249, [.ref v0, .int v1, .int (4 + (18 * v1)), .int 0], σ2) (e_V r) := k
    have le4 : s_le σ2 (e_V r).2 := k.1
    refine lv_iconst (v := 4) hx hb dX8_init_232 (by decide) ?_
    refine lv_bipush (v := 18) hx hb dX8_init_233 (by decide) ?_
    refine lv_iload_n hx hb dX8_init_235 rfl (lv_at hl 1 rfl) ?_
    refine lv_imul hx hb dX8_init_236 ?_
    refine lv_iadd hx hb dX8_init_237 ?_
    refine lv_istore_n (lv' := [(2, .int (4 + (18 * v1))), (0, .ref v0), (1, .int v1)]) hx hb dX8_init_238 rfl hl (by decide) rfl (fun ls hl => ?_)
    refine lv_aload_n hx hb dX8_init_239 rfl (lv_at hl 1 rfl) ?_
    refine r_gr X I fl_X8_13 h2 dX8_init_240 ?_
    refine lv_iload_n hx hb dX8_init_243 rfl (lv_at hl 0 rfl) ?_
    refine lv_ldc (own := RX8) hx hb hown (hts _ w_1681) dX8_init_244 ?_
    refine r_iast X I h3 dX8_init_246 (fun H locs I => ?_)
    have hn := s_k2 (s_si_2 h3) hn
    refine lv_iconst (v := 0) hx hb dX8_init_247 (by decide) ?_
    refine lv_istore_n (lv' := [(3, .int 0), (2, .int (4 + (18 * v1))), (0, .ref v0), (1, .int v1)]) hx hb dX8_init_248 rfl hl (by decide) rfl (fun ls hl => ?_)
    exact k.2 p e s m below meth c _ _ _ _ _ X I hn.1 hn.2 (lv_sub hl [2, 3, 1, 0] rfl)
set_option maxRecDepth 100000 in
set_option maxHeartbeats 4000000 in
theorem v_X8_init_249 {G : sG} {d : Nat} {vs0 : List Value} {σ0 : sS} {v0 : Nat} {v1 : Int32} {v2 : Int32} {v3 : Int32} {σ : sS} {z : sZ Unit} {r : Unit × sS} (hf : T_X8_init_249 v0 v1 v2 v3 σ = some z) (k : s_K G (d + 1) M_X8_init vs0 σ0 Y_X8_init e_V z r) : s_V G (d + 1) M_X8_init vs0 σ0 Y_X8_init (249, [.ref v0, .int v1, .int v2, .int v3], σ) (e_V r) := by
  have le0 : s_le σ (e_V r).2 := s_lek hem_V (l_X8_init_249 hf) k
  refine ⟨le0, ?_⟩
  intro p e s m below meth c H locs cells slots ls X I hn1 hn2 hl
  have hn : cells + σ0.2.1 ≤ σ.2.1 ∧ slots + σ0.2.2.1 ≤ σ.2.2.1 := ⟨hn1, hn2⟩
  have hl : lv_has ls 4 [(0, .ref v0), (1, .int v1), (2, .int v2), (3, .int v3)] := hl
  have hx := X.1
  have hb : c.code = cX8_init := X.2.1
  have hown : s.vm.findClass RX8 = some m.cls := X.2.2.2.2.2.1
  have hts := X.2.2.2.2.2.2.1
  refine W.eq (g2 := F0 m 249 ls []) rfl ?_
  unfold T_X8_init_249 at hf
  refine lv_iload_n hx hb dX8_init_249 rfl (lv_at hl 3 rfl) ?_
  refine lv_bipush (v := 16) hx hb dX8_init_250 (by decide) ?_
  rcases s_ite hf with ⟨c1, hf⟩ | ⟨c1, hf⟩
  · refine lv_icmp_ge (tgt := 273) hx hb dX8_init_252 (by decide) (fun _ => ?_) (fun n => absurd c1 n)
    obtain ⟨x1, h2, hf⟩ := s_bind hf
    obtain ⟨σ2, h3, hf⟩ := s_bind hf
    cases hf
    have k : s_V G (d + 1) M_X8_init vs0 σ0 Y_X8_init (227, [.ref v0, .int (v1 + 1)], σ2) (e_V r) := k
    have le4 : s_le σ2 (e_V r).2 := k.1
    refine lv_aload_n hx hb dX8_init_273 rfl (lv_at hl 0 rfl) ?_
    refine r_gr X I fl_X8_13 h2 dX8_init_274 ?_
    refine lv_iload_n hx hb dX8_init_277 rfl (lv_at hl 2 rfl) ?_
    refine lv_iconst (v := 1) hx hb dX8_init_278 (by decide) ?_
    refine lv_iadd hx hb dX8_init_279 ?_
    refine lv_bipush (v := 16) hx hb dX8_init_280 (by decide) ?_
    refine lv_iadd hx hb dX8_init_282 ?_
    refine lv_iconst (v := 1) hx hb dX8_init_283 (by decide) ?_
    refine r_iast X I h3 dX8_init_284 (fun H locs I => ?_)
    have hn := s_k2 (s_si_2 h3) hn
    refine lv_iinc (v := (v1 + 1)) (lv' := [(1, .int (v1 + 1)), (0, .ref v0), (2, .int v2), (3, .int v3)]) hx hb dX8_init_285 hl (k := 1) rfl rfl (by decide) rfl (fun ls hl => ?_)
    refine lv_goto (tgt := 227) hx hb dX8_init_288 (by decide) ?_
    exact k.2 p e s m below meth c _ _ _ _ _ X I hn.1 hn.2 (lv_sub hl [1, 0] rfl)
  · refine lv_icmp_ge (tgt := 273) hx hb dX8_init_252 (by decide) (fun n => absurd n c1) (fun _ => ?_)
    obtain ⟨x3, h5, hf⟩ := s_bind hf
    obtain ⟨σ4, h6, hf⟩ := s_bind hf
    cases hf
    have k : s_V G (d + 1) M_X8_init vs0 σ0 Y_X8_init (249, [.ref v0, .int v1, .int v2, .int (v3 + 1)], σ4) (e_V r) := k
    have le7 : s_le σ4 (e_V r).2 := k.1
    refine lv_aload_n hx hb dX8_init_255 rfl (lv_at hl 0 rfl) ?_
    refine r_gr X I fl_X8_13 h5 dX8_init_256 ?_
    refine lv_iload_n hx hb dX8_init_259 rfl (lv_at hl 2 rfl) ?_
    refine lv_iconst (v := 1) hx hb dX8_init_260 (by decide) ?_
    refine lv_iadd hx hb dX8_init_261 ?_
    refine lv_iload_n hx hb dX8_init_262 rfl (lv_at hl 3 rfl) ?_
    refine lv_iadd hx hb dX8_init_263 ?_
    refine lv_bipush (v := 10) hx hb dX8_init_264 (by decide) ?_
    refine r_iast X I h6 dX8_init_266 (fun H locs I => ?_)
    have hn := s_k2 (s_si_2 h6) hn
    refine lv_iinc (v := (v3 + 1)) (lv' := [(3, .int (v3 + 1)), (0, .ref v0), (1, .int v1), (2, .int v2)]) hx hb dX8_init_267 hl (k := 3) rfl rfl (by decide) rfl (fun ls hl => ?_)
    refine lv_goto (tgt := 249) hx hb dX8_init_270 (by decide) ?_
    exact k.2 p e s m below meth c _ _ _ _ _ X I hn.1 hn.2 (lv_sub hl [1, 2, 3, 0] rfl)
theorem v_X8_init {G : sG} {d : Nat} {vs0 : List Value} {σ0 : sS} {x : sL} {z : sZ Unit} {r : Unit × sS} (hs : S_X8_init x = some z) (k : s_K G (d + 1) M_X8_init vs0 σ0 Y_X8_init e_V z r) : s_V G (d + 1) M_X8_init vs0 σ0 Y_X8_init x (e_V r) := by
  obtain ⟨pc, vs, σ⟩ := x
  unfold S_X8_init at hs
  dsimp only at hs
  rcases s_ite hs with ⟨c, hs⟩ | ⟨-, hs⟩
  · subst c
    unfold U_X8_init_0 at hs
    obtain ⟨a0, g0, hs⟩ := s_bind hs
    obtain ⟨u9, ge, hs⟩ := s_bind hs
    rw [g_r_to g0, g_e_to ge]
    exact v_X8_init_0 hs k
  rcases s_ite hs with ⟨c, hs⟩ | ⟨-, hs⟩
  · subst c
    unfold U_X8_init_227 at hs
    obtain ⟨a0, g0, hs⟩ := s_bind hs
    obtain ⟨a1, g1, hs⟩ := s_bind hs
    obtain ⟨u9, ge, hs⟩ := s_bind hs
    rw [g_r_to g0, g_i_to g1, g_e_to ge]
    exact v_X8_init_227 hs k
  rcases s_ite hs with ⟨c, hs⟩ | ⟨-, hs⟩
  · subst c
    unfold U_X8_init_249 at hs
    obtain ⟨a0, g0, hs⟩ := s_bind hs
    obtain ⟨a1, g1, hs⟩ := s_bind hs
    obtain ⟨a2, g2, hs⟩ := s_bind hs
    obtain ⟨a3, g3, hs⟩ := s_bind hs
    obtain ⟨u9, ge, hs⟩ := s_bind hs
    rw [g_r_to g0, g_i_to g1, g_i_to g2, g_i_to g3, g_e_to ge]
    exact v_X8_init_249 hs k
  cases hs
theorem t_X8_init {G : sG} {d : Nat} {v0 : Nat} {σ : sS} {q : Unit × sS} (h : F_X8_init v0 σ = some q) : s_T G (d + 1) M_X8_init [.ref v0] σ (e_V q) := by
  unfold F_X8_init at h
  exact s_ofV rfl (by decide) (Nat.le_of_ble_eq_true rfl) rfl rfl (s_run_ind (V := fun x r => s_V G (d + 1) M_X8_init [.ref v0] σ Y_X8_init x (e_V r)) (fun x z r hs hk => v_X8_init hs (by cases z <;> exact hk)) h)
/-! X5_hasRoom -/
noncomputable def T_X5_hasRoom_0 (v0 : Nat) (v1 : Int32) (σ : sS) : Option (sZ Int32) :=
  (s_fi σ v0 5 0).bind fun x1 =>
  if (400 : Int32) < (x1 + v1) then (some (.inr (0, σ)))
  else (some (.inr (1, σ)))
noncomputable def U_X5_hasRoom_0 (vs : List Value) (σ : sS) : Option (sZ Int32) := (g_r vs).bind fun a0 => (g_i a0.2).bind fun a1 => (g_e a1.2).bind fun _ => T_X5_hasRoom_0 a0.1 a1.1 σ
noncomputable def S_X5_hasRoom (x : sL) : Option (sZ Int32) := if x.1 = 0 then U_X5_hasRoom_0 x.2.1 x.2.2 else none
def Y_X5_hasRoom (pc : Nat) : List Nat := if pc = 0 then [0, 1] else []
noncomputable def F_X5_hasRoom (v0 : Nat) (v1 : Int32) (σ : sS) : Option (Int32 × sS) := (s_is σ v0 5).bind fun _ => s_run S_X5_hasRoom (0, [.ref v0, .int v1], σ)
theorem l_X5_hasRoom_0 {v0 : Nat} {v1 : Int32} {σ : sS} {z : sZ Int32} (hf : T_X5_hasRoom_0 v0 v1 σ = some z) : s_lz σ z := by
  unfold T_X5_hasRoom_0 at hf
  obtain ⟨x1, -, hf⟩ := s_bind hf
  rcases s_ite hf with ⟨-, hf⟩ | ⟨-, hf⟩
  · cases hf
    exact s_le.rf
  · cases hf
    exact s_le.rf
theorem l_X5_hasRoom_s {x : sL} {z : sZ Int32} (hs : S_X5_hasRoom x = some z) : s_lz x.2.2 z := by
  obtain ⟨pc, vs, σ⟩ := x
  unfold S_X5_hasRoom at hs
  dsimp only at hs ⊢
  rcases s_ite hs with ⟨c, hs⟩ | ⟨-, hs⟩
  · subst c
    unfold U_X5_hasRoom_0 at hs
    obtain ⟨a0, g0, hs⟩ := s_bind hs
    obtain ⟨a1, g1, hs⟩ := s_bind hs
    obtain ⟨u9, ge, hs⟩ := s_bind hs
    exact l_X5_hasRoom_0 hs
  cases hs
theorem l_X5_hasRoom {v0 : Nat} {v1 : Int32} {σ : sS} {q : Int32 × sS} (h : F_X5_hasRoom v0 v1 σ = some q) : s_le σ q.2 := by
  unfold F_X5_hasRoom at h
  obtain ⟨-, -, h⟩ := s_bind h
  exact s_run_ind (V := fun x r => s_le x.2.2 r.2) (fun x z r hs hk => by
    have h9 := l_X5_hasRoom_s hs
    cases z with
    | inl y => exact s_le.tr h9 hk
    | inr q => cases hk; exact h9) h
theorem b_X5_hasRoom {v0 : Nat} {v1 : Int32} {σ : sS} {q : Int32 × sS} (h : F_X5_hasRoom v0 v1 σ = some q) : ∃ fs, σ.1 v0 = some (.inr (5, fs)) := by
  unfold F_X5_hasRoom at h
  obtain ⟨u, hu, -⟩ := s_bind h
  exact s_is_to hu
set_option maxRecDepth 100000 in
set_option maxHeartbeats 4000000 in
theorem v_X5_hasRoom_0 {G : sG} {d : Nat} {vs0 : List Value} {σ0 : sS} {v0 : Nat} {v1 : Int32} {σ : sS} {z : sZ Int32} {r : Int32 × sS} (hf : T_X5_hasRoom_0 v0 v1 σ = some z) (k : s_K G (d + 1) M_X5_hasRoom vs0 σ0 Y_X5_hasRoom e_I z r) : s_V G (d + 1) M_X5_hasRoom vs0 σ0 Y_X5_hasRoom (0, [.ref v0, .int v1], σ) (e_I r) := by
  have le0 : s_le σ (e_I r).2 := s_lek hem_I (l_X5_hasRoom_0 hf) k
  refine ⟨le0, ?_⟩
  intro p e s m below meth c H locs cells slots ls X I hn1 hn2 hl
  have hn : cells + σ0.2.1 ≤ σ.2.1 ∧ slots + σ0.2.2.1 ≤ σ.2.2.1 := ⟨hn1, hn2⟩
  have hl : lv_has ls 2 [(0, .ref v0), (1, .int v1)] := hl
  have hx := X.1
  have hb : c.code = cX5_hasRoom := X.2.1
  have hown : s.vm.findClass RX5 = some m.cls := X.2.2.2.2.2.1
  have hts := X.2.2.2.2.2.2.1
  refine W.eq (g2 := F0 m 0 ls []) rfl ?_
  unfold T_X5_hasRoom_0 at hf
  obtain ⟨x1, h1, hf⟩ := s_bind hf
  refine lv_aload_n hx hb dX5_hasRoom_0 rfl (lv_at hl 0 rfl) ?_
  refine r_gi X I fl_X5_23 h1 dX5_hasRoom_1 ?_
  refine lv_iload_n hx hb dX5_hasRoom_4 rfl (lv_at hl 1 rfl) ?_
  refine lv_iadd hx hb dX5_hasRoom_5 ?_
  refine lv_sipush (v := 400) hx hb dX5_hasRoom_6 (by decide) ?_
  rcases s_ite hf with ⟨c2, hf⟩ | ⟨c2, hf⟩
  · refine lv_icmp_gt (tgt := 16) hx hb dX5_hasRoom_9 (by decide) (fun _ => ?_) (fun n => absurd c2 n)
    cases hf
    have k : _ = r := k
    subst k
    refine lv_iconst (v := 0) hx hb dX5_hasRoom_16 (by decide) ?_
    exact r_iret X I rfl rfl rfl hn dX5_hasRoom_17
  · refine lv_icmp_gt (tgt := 16) hx hb dX5_hasRoom_9 (by decide) (fun n => absurd n c2) (fun _ => ?_)
    cases hf
    have k : _ = r := k
    subst k
    refine lv_iconst (v := 1) hx hb dX5_hasRoom_12 (by decide) ?_
    refine lv_goto (tgt := 17) hx hb dX5_hasRoom_13 (by decide) ?_
    exact r_iret X I rfl rfl rfl hn dX5_hasRoom_17
theorem v_X5_hasRoom {G : sG} {d : Nat} {vs0 : List Value} {σ0 : sS} {x : sL} {z : sZ Int32} {r : Int32 × sS} (hs : S_X5_hasRoom x = some z) (k : s_K G (d + 1) M_X5_hasRoom vs0 σ0 Y_X5_hasRoom e_I z r) : s_V G (d + 1) M_X5_hasRoom vs0 σ0 Y_X5_hasRoom x (e_I r) := by
  obtain ⟨pc, vs, σ⟩ := x
  unfold S_X5_hasRoom at hs
  dsimp only at hs
  rcases s_ite hs with ⟨c, hs⟩ | ⟨-, hs⟩
  · subst c
    unfold U_X5_hasRoom_0 at hs
    obtain ⟨a0, g0, hs⟩ := s_bind hs
    obtain ⟨a1, g1, hs⟩ := s_bind hs
    obtain ⟨u9, ge, hs⟩ := s_bind hs
    rw [g_r_to g0, g_i_to g1, g_e_to ge]
    exact v_X5_hasRoom_0 hs k
  cases hs
theorem t_X5_hasRoom {G : sG} {d : Nat} {v0 : Nat} {v1 : Int32} {σ : sS} {q : Int32 × sS} (h : F_X5_hasRoom v0 v1 σ = some q) : s_T G (d + 1) M_X5_hasRoom [.ref v0, .int v1] σ (e_I q) := by
  unfold F_X5_hasRoom at h
  obtain ⟨-, -, h⟩ := s_bind h
  exact s_ofV rfl (by decide) (Nat.le_of_ble_eq_true rfl) rfl rfl (s_run_ind (V := fun x r => s_V G (d + 1) M_X5_hasRoom [.ref v0, .int v1] σ Y_X5_hasRoom x (e_I r)) (fun x z r hs hk => v_X5_hasRoom hs (by cases z <;> exact hk)) h)
/-! X5_put -/
noncomputable def T_X5_put_0 (v0 : Nat) (v1 : Int32) (σ : sS) : Option (sZ Unit) :=
  some (.inl (3, [.ref v0, .int v1, .int 24], σ))
noncomputable def U_X5_put_0 (vs : List Value) (σ : sS) : Option (sZ Unit) := (g_r vs).bind fun a0 => (g_i a0.2).bind fun a1 => (g_e a1.2).bind fun _ => T_X5_put_0 a0.1 a1.1 σ
noncomputable def T_X5_put_3 (v0 : Nat) (v1 : Int32) (v2 : Int32) (σ : sS) : Option (sZ Unit) :=
  if v2 < 0 then (some (.inr ((), σ)))
  else ((s_fi σ v0 5 0).bind fun x1 =>
  if (400 : Int32) ≤ x1 then (some (.inr ((), σ)))
  else ((s_fr σ v0 5 3).bind fun x2 =>
  (s_fi σ v0 5 0).bind fun x3 =>
  (s_sb σ x2 x3 (((v1 >>> (v2 &&& 31)) : Int32).toInt8.toInt32)).bind fun σ4 =>
  (s_fi σ4 v0 5 0).bind fun x5 =>
  (s_pf σ4 v0 5 0 (.int (x5 + 1))).bind fun σ6 =>
  some (.inl (3, [.ref v0, .int v1, .int (v2 + (-8))], σ6))))
noncomputable def U_X5_put_3 (vs : List Value) (σ : sS) : Option (sZ Unit) := (g_r vs).bind fun a0 => (g_i a0.2).bind fun a1 => (g_i a1.2).bind fun a2 => (g_e a2.2).bind fun _ => T_X5_put_3 a0.1 a1.1 a2.1 σ
noncomputable def S_X5_put (x : sL) : Option (sZ Unit) := if x.1 = 0 then U_X5_put_0 x.2.1 x.2.2 else if x.1 = 3 then U_X5_put_3 x.2.1 x.2.2 else none
def Y_X5_put (pc : Nat) : List Nat := if pc = 0 then [0, 1] else if pc = 3 then [0, 1, 2] else []
noncomputable def F_X5_put (v0 : Nat) (v1 : Int32) (σ : sS) : Option (Unit × sS) := (s_is σ v0 5).bind fun _ => s_run S_X5_put (0, [.ref v0, .int v1], σ)
theorem l_X5_put_0 {v0 : Nat} {v1 : Int32} {σ : sS} {z : sZ Unit} (hf : T_X5_put_0 v0 v1 σ = some z) : s_lz σ z := by
  unfold T_X5_put_0 at hf
  cases hf
  exact s_le.rf
theorem l_X5_put_3 {v0 : Nat} {v1 : Int32} {v2 : Int32} {σ : sS} {z : sZ Unit} (hf : T_X5_put_3 v0 v1 v2 σ = some z) : s_lz σ z := by
  unfold T_X5_put_3 at hf
  rcases s_ite hf with ⟨-, hf⟩ | ⟨-, hf⟩
  · cases hf
    exact s_le.rf
  · obtain ⟨x1, -, hf⟩ := s_bind hf
    rcases s_ite hf with ⟨-, hf⟩ | ⟨-, hf⟩
    · cases hf
      exact s_le.rf
    · obtain ⟨x2, -, hf⟩ := s_bind hf
      obtain ⟨x3, -, hf⟩ := s_bind hf
      obtain ⟨σ4, hh, hf⟩ := s_bind hf
      refine s_lz.tr (s_le2 (s_sb_2 hh)) ?_
      obtain ⟨x5, -, hf⟩ := s_bind hf
      obtain ⟨σ6, hh, hf⟩ := s_bind hf
      refine s_lz.tr (s_le2 (s_pf_2 hh)) ?_
      cases hf
      exact s_le.rf
theorem l_X5_put_s {x : sL} {z : sZ Unit} (hs : S_X5_put x = some z) : s_lz x.2.2 z := by
  obtain ⟨pc, vs, σ⟩ := x
  unfold S_X5_put at hs
  dsimp only at hs ⊢
  rcases s_ite hs with ⟨c, hs⟩ | ⟨-, hs⟩
  · subst c
    unfold U_X5_put_0 at hs
    obtain ⟨a0, g0, hs⟩ := s_bind hs
    obtain ⟨a1, g1, hs⟩ := s_bind hs
    obtain ⟨u9, ge, hs⟩ := s_bind hs
    exact l_X5_put_0 hs
  rcases s_ite hs with ⟨c, hs⟩ | ⟨-, hs⟩
  · subst c
    unfold U_X5_put_3 at hs
    obtain ⟨a0, g0, hs⟩ := s_bind hs
    obtain ⟨a1, g1, hs⟩ := s_bind hs
    obtain ⟨a2, g2, hs⟩ := s_bind hs
    obtain ⟨u9, ge, hs⟩ := s_bind hs
    exact l_X5_put_3 hs
  cases hs
theorem l_X5_put {v0 : Nat} {v1 : Int32} {σ : sS} {q : Unit × sS} (h : F_X5_put v0 v1 σ = some q) : s_le σ q.2 := by
  unfold F_X5_put at h
  obtain ⟨-, -, h⟩ := s_bind h
  exact s_run_ind (V := fun x r => s_le x.2.2 r.2) (fun x z r hs hk => by
    have h9 := l_X5_put_s hs
    cases z with
    | inl y => exact s_le.tr h9 hk
    | inr q => cases hk; exact h9) h
theorem b_X5_put {v0 : Nat} {v1 : Int32} {σ : sS} {q : Unit × sS} (h : F_X5_put v0 v1 σ = some q) : ∃ fs, σ.1 v0 = some (.inr (5, fs)) := by
  unfold F_X5_put at h
  obtain ⟨u, hu, -⟩ := s_bind h
  exact s_is_to hu
set_option maxRecDepth 100000 in
set_option maxHeartbeats 4000000 in
theorem v_X5_put_0 {G : sG} {d : Nat} {vs0 : List Value} {σ0 : sS} {v0 : Nat} {v1 : Int32} {σ : sS} {z : sZ Unit} {r : Unit × sS} (hf : T_X5_put_0 v0 v1 σ = some z) (k : s_K G (d + 1) M_X5_put vs0 σ0 Y_X5_put e_V z r) : s_V G (d + 1) M_X5_put vs0 σ0 Y_X5_put (0, [.ref v0, .int v1], σ) (e_V r) := by
  have le0 : s_le σ (e_V r).2 := s_lek hem_V (l_X5_put_0 hf) k
  refine ⟨le0, ?_⟩
  intro p e s m below meth c H locs cells slots ls X I hn1 hn2 hl
  have hn : cells + σ0.2.1 ≤ σ.2.1 ∧ slots + σ0.2.2.1 ≤ σ.2.2.1 := ⟨hn1, hn2⟩
  have hl : lv_has ls 3 [(0, .ref v0), (1, .int v1)] := hl
  have hx := X.1
  have hb : c.code = cX5_put := X.2.1
  have hown : s.vm.findClass RX5 = some m.cls := X.2.2.2.2.2.1
  have hts := X.2.2.2.2.2.2.1
  refine W.eq (g2 := F0 m 0 ls []) rfl ?_
  unfold T_X5_put_0 at hf
  cases hf
  have k : s_V G (d + 1) M_X5_put vs0 σ0 Y_X5_put (3, [.ref v0, .int v1, .int 24], σ) (e_V r) := k
  refine lv_bipush (v := 24) hx hb dX5_put_0 (by decide) ?_
  refine lv_istore_n (lv' := [(2, .int 24), (0, .ref v0), (1, .int v1)]) hx hb dX5_put_2 rfl hl (by decide) rfl (fun ls hl => ?_)
  exact k.2 p e s m below meth c _ _ _ _ _ X I hn.1 hn.2 (lv_sub hl [1, 2, 0] rfl)
set_option maxRecDepth 100000 in
set_option maxHeartbeats 4000000 in
theorem v_X5_put_3 {G : sG} {d : Nat} {vs0 : List Value} {σ0 : sS} {v0 : Nat} {v1 : Int32} {v2 : Int32} {σ : sS} {z : sZ Unit} {r : Unit × sS} (hf : T_X5_put_3 v0 v1 v2 σ = some z) (k : s_K G (d + 1) M_X5_put vs0 σ0 Y_X5_put e_V z r) : s_V G (d + 1) M_X5_put vs0 σ0 Y_X5_put (3, [.ref v0, .int v1, .int v2], σ) (e_V r) := by
  have le0 : s_le σ (e_V r).2 := s_lek hem_V (l_X5_put_3 hf) k
  refine ⟨le0, ?_⟩
  intro p e s m below meth c H locs cells slots ls X I hn1 hn2 hl
  have hn : cells + σ0.2.1 ≤ σ.2.1 ∧ slots + σ0.2.2.1 ≤ σ.2.2.1 := ⟨hn1, hn2⟩
  have hl : lv_has ls 3 [(0, .ref v0), (1, .int v1), (2, .int v2)] := hl
  have hx := X.1
  have hb : c.code = cX5_put := X.2.1
  have hown : s.vm.findClass RX5 = some m.cls := X.2.2.2.2.2.1
  have hts := X.2.2.2.2.2.2.1
  refine W.eq (g2 := F0 m 3 ls []) rfl ?_
  unfold T_X5_put_3 at hf
  refine lv_iload_n hx hb dX5_put_3 rfl (lv_at hl 2 rfl) ?_
  rcases s_ite hf with ⟨c1, hf⟩ | ⟨c1, hf⟩
  · refine lv_if_lt (tgt := 46) hx hb dX5_put_4 (by decide) (fun _ => ?_) (fun n => absurd c1 n)
    cases hf
    have k : _ = r := k
    subst k
    exact r_vret X I rfl rfl hn dX5_put_46
  · refine lv_if_lt (tgt := 46) hx hb dX5_put_4 (by decide) (fun n => absurd n c1) (fun _ => ?_)
    obtain ⟨x1, h2, hf⟩ := s_bind hf
    refine lv_aload_n hx hb dX5_put_7 rfl (lv_at hl 0 rfl) ?_
    refine r_gi X I fl_X5_23 h2 dX5_put_8 ?_
    refine lv_sipush (v := 400) hx hb dX5_put_11 (by decide) ?_
    rcases s_ite hf with ⟨c3, hf⟩ | ⟨c3, hf⟩
    · refine lv_icmp_ge (tgt := 46) hx hb dX5_put_14 (by decide) (fun _ => ?_) (fun n => absurd c3 n)
      cases hf
      have k : _ = r := k
      subst k
      exact r_vret X I rfl rfl hn dX5_put_46
    · refine lv_icmp_ge (tgt := 46) hx hb dX5_put_14 (by decide) (fun n => absurd n c3) (fun _ => ?_)
      obtain ⟨x2, h4, hf⟩ := s_bind hf
      obtain ⟨x3, h5, hf⟩ := s_bind hf
      obtain ⟨σ4, h6, hf⟩ := s_bind hf
      obtain ⟨x5, h7, hf⟩ := s_bind hf
      obtain ⟨σ6, h8, hf⟩ := s_bind hf
      cases hf
      have k : s_V G (d + 1) M_X5_put vs0 σ0 Y_X5_put (3, [.ref v0, .int v1, .int (v2 + (-8))], σ6) (e_V r) := k
      have le9 : s_le σ6 (e_V r).2 := k.1
      have le10 := s_le.tr (s_le2 (s_pf_2 h8)) le9
      refine lv_aload_n hx hb dX5_put_17 rfl (lv_at hl 0 rfl) ?_
      refine r_gr X I fl_X5_15 h4 dX5_put_18 ?_
      refine lv_aload_n hx hb dX5_put_21 rfl (lv_at hl 0 rfl) ?_
      refine r_gi X I fl_X5_23 h5 dX5_put_22 ?_
      refine lv_iload_n hx hb dX5_put_25 rfl (lv_at hl 1 rfl) ?_
      refine lv_iload_n hx hb dX5_put_26 rfl (lv_at hl 2 rfl) ?_
      refine lv_ishr hx hb dX5_put_27 ?_
      refine lv_i2b hx hb dX5_put_28 rfl ?_
      refine r_bast X I h6 dX5_put_29 (fun H locs I => ?_)
      have hn := s_k2 (s_sb_2 h6) hn
      refine lv_aload_n hx hb dX5_put_30 rfl (lv_at hl 0 rfl) ?_
      refine lv_dup hx hb dX5_put_31 rfl ?_
      refine r_gi X I fl_X5_23 h7 dX5_put_32 ?_
      refine lv_iconst (v := 1) hx hb dX5_put_35 (by decide) ?_
      refine lv_iadd hx hb dX5_put_36 ?_
      refine r_put X I fp_X5_23 (fun h => by cases h) h8 rfl rfl dX5_put_37 (fun H locs I => ?_)
      have hn := s_k2 (s_pf_2 h8) hn
      refine lv_iinc (v := (v2 + (-8))) (lv' := [(2, .int (v2 + (-8))), (0, .ref v0), (1, .int v1)]) hx hb dX5_put_40 hl (k := 2) rfl rfl (by decide) rfl (fun ls hl => ?_)
      refine lv_goto (tgt := 3) hx hb dX5_put_43 (by decide) ?_
      exact k.2 p e s m below meth c _ _ _ _ _ X I hn.1 hn.2 (lv_sub hl [1, 2, 0] rfl)
theorem v_X5_put {G : sG} {d : Nat} {vs0 : List Value} {σ0 : sS} {x : sL} {z : sZ Unit} {r : Unit × sS} (hs : S_X5_put x = some z) (k : s_K G (d + 1) M_X5_put vs0 σ0 Y_X5_put e_V z r) : s_V G (d + 1) M_X5_put vs0 σ0 Y_X5_put x (e_V r) := by
  obtain ⟨pc, vs, σ⟩ := x
  unfold S_X5_put at hs
  dsimp only at hs
  rcases s_ite hs with ⟨c, hs⟩ | ⟨-, hs⟩
  · subst c
    unfold U_X5_put_0 at hs
    obtain ⟨a0, g0, hs⟩ := s_bind hs
    obtain ⟨a1, g1, hs⟩ := s_bind hs
    obtain ⟨u9, ge, hs⟩ := s_bind hs
    rw [g_r_to g0, g_i_to g1, g_e_to ge]
    exact v_X5_put_0 hs k
  rcases s_ite hs with ⟨c, hs⟩ | ⟨-, hs⟩
  · subst c
    unfold U_X5_put_3 at hs
    obtain ⟨a0, g0, hs⟩ := s_bind hs
    obtain ⟨a1, g1, hs⟩ := s_bind hs
    obtain ⟨a2, g2, hs⟩ := s_bind hs
    obtain ⟨u9, ge, hs⟩ := s_bind hs
    rw [g_r_to g0, g_i_to g1, g_i_to g2, g_e_to ge]
    exact v_X5_put_3 hs k
  cases hs
theorem t_X5_put {G : sG} {d : Nat} {v0 : Nat} {v1 : Int32} {σ : sS} {q : Unit × sS} (h : F_X5_put v0 v1 σ = some q) : s_T G (d + 1) M_X5_put [.ref v0, .int v1] σ (e_V q) := by
  unfold F_X5_put at h
  obtain ⟨-, -, h⟩ := s_bind h
  exact s_ofV rfl (by decide) (Nat.le_of_ble_eq_true rfl) rfl rfl (s_run_ind (V := fun x r => s_V G (d + 1) M_X5_put [.ref v0, .int v1] σ Y_X5_put x (e_V r)) (fun x z r hs hk => v_X5_put hs (by cases z <;> exact hk)) h)
/-! X7_feed -/
noncomputable def T_X7_feed_0 (v0 : Nat) (v1 : Int32) (v2 : Int32) (v3 : Int32) (v4 : Int32) (v5 : Int32) (σ : sS) : Option (sZ Int32) :=
  (s_fr σ v0 7 3).bind fun x1 =>
  (F_X5_hasRoom x1 20 σ).bind fun q2 =>
  if q2.1 = 0 then (some (.inr ((-1), q2.2)))
  else ((s_fr q2.2 v0 7 3).bind fun x3 =>
  (F_X5_put x3 v1 q2.2).bind fun q4 =>
  (s_fr q4.2 v0 7 3).bind fun x5 =>
  (F_X5_put x5 v2 q4.2).bind fun q6 =>
  (s_fr q6.2 v0 7 3).bind fun x7 =>
  (F_X5_put x7 v3 q6.2).bind fun q8 =>
  (s_fr q8.2 v0 7 3).bind fun x9 =>
  (F_X5_put x9 v4 q8.2).bind fun q10 =>
  (s_fr q10.2 v0 7 3).bind fun x11 =>
  (F_X5_put x11 v5 q10.2).bind fun q12 =>
  (s_fr q12.2 v0 7 3).bind fun x13 =>
  (s_fi q12.2 x13 5 0).bind fun x14 =>
  some (.inr (x14, q12.2)))
noncomputable def U_X7_feed_0 (vs : List Value) (σ : sS) : Option (sZ Int32) := (g_r vs).bind fun a0 => (g_i a0.2).bind fun a1 => (g_i a1.2).bind fun a2 => (g_i a2.2).bind fun a3 => (g_i a3.2).bind fun a4 => (g_i a4.2).bind fun a5 => (g_e a5.2).bind fun _ => T_X7_feed_0 a0.1 a1.1 a2.1 a3.1 a4.1 a5.1 σ
noncomputable def S_X7_feed (x : sL) : Option (sZ Int32) := if x.1 = 0 then U_X7_feed_0 x.2.1 x.2.2 else none
def Y_X7_feed (pc : Nat) : List Nat := if pc = 0 then [0, 1, 2, 3, 4, 5] else []
noncomputable def F_X7_feed (v0 : Nat) (v1 : Int32) (v2 : Int32) (v3 : Int32) (v4 : Int32) (v5 : Int32) (σ : sS) : Option (Int32 × sS) := (s_is σ v0 7).bind fun _ => s_run S_X7_feed (0, [.ref v0, .int v1, .int v2, .int v3, .int v4, .int v5], σ)
theorem l_X7_feed_0 {v0 : Nat} {v1 : Int32} {v2 : Int32} {v3 : Int32} {v4 : Int32} {v5 : Int32} {σ : sS} {z : sZ Int32} (hf : T_X7_feed_0 v0 v1 v2 v3 v4 v5 σ = some z) : s_lz σ z := by
  unfold T_X7_feed_0 at hf
  obtain ⟨x1, -, hf⟩ := s_bind hf
  obtain ⟨q2, hh, hf⟩ := s_bind hf
  refine s_lz.tr (l_X5_hasRoom hh) ?_
  rcases s_ite hf with ⟨-, hf⟩ | ⟨-, hf⟩
  · cases hf
    exact s_le.rf
  · obtain ⟨x3, -, hf⟩ := s_bind hf
    obtain ⟨q4, hh, hf⟩ := s_bind hf
    refine s_lz.tr (l_X5_put hh) ?_
    obtain ⟨x5, -, hf⟩ := s_bind hf
    obtain ⟨q6, hh, hf⟩ := s_bind hf
    refine s_lz.tr (l_X5_put hh) ?_
    obtain ⟨x7, -, hf⟩ := s_bind hf
    obtain ⟨q8, hh, hf⟩ := s_bind hf
    refine s_lz.tr (l_X5_put hh) ?_
    obtain ⟨x9, -, hf⟩ := s_bind hf
    obtain ⟨q10, hh, hf⟩ := s_bind hf
    refine s_lz.tr (l_X5_put hh) ?_
    obtain ⟨x11, -, hf⟩ := s_bind hf
    obtain ⟨q12, hh, hf⟩ := s_bind hf
    refine s_lz.tr (l_X5_put hh) ?_
    obtain ⟨x13, -, hf⟩ := s_bind hf
    obtain ⟨x14, -, hf⟩ := s_bind hf
    cases hf
    exact s_le.rf
theorem l_X7_feed_s {x : sL} {z : sZ Int32} (hs : S_X7_feed x = some z) : s_lz x.2.2 z := by
  obtain ⟨pc, vs, σ⟩ := x
  unfold S_X7_feed at hs
  dsimp only at hs ⊢
  rcases s_ite hs with ⟨c, hs⟩ | ⟨-, hs⟩
  · subst c
    unfold U_X7_feed_0 at hs
    obtain ⟨a0, g0, hs⟩ := s_bind hs
    obtain ⟨a1, g1, hs⟩ := s_bind hs
    obtain ⟨a2, g2, hs⟩ := s_bind hs
    obtain ⟨a3, g3, hs⟩ := s_bind hs
    obtain ⟨a4, g4, hs⟩ := s_bind hs
    obtain ⟨a5, g5, hs⟩ := s_bind hs
    obtain ⟨u9, ge, hs⟩ := s_bind hs
    exact l_X7_feed_0 hs
  cases hs
theorem l_X7_feed {v0 : Nat} {v1 : Int32} {v2 : Int32} {v3 : Int32} {v4 : Int32} {v5 : Int32} {σ : sS} {q : Int32 × sS} (h : F_X7_feed v0 v1 v2 v3 v4 v5 σ = some q) : s_le σ q.2 := by
  unfold F_X7_feed at h
  obtain ⟨-, -, h⟩ := s_bind h
  exact s_run_ind (V := fun x r => s_le x.2.2 r.2) (fun x z r hs hk => by
    have h9 := l_X7_feed_s hs
    cases z with
    | inl y => exact s_le.tr h9 hk
    | inr q => cases hk; exact h9) h
theorem b_X7_feed {v0 : Nat} {v1 : Int32} {v2 : Int32} {v3 : Int32} {v4 : Int32} {v5 : Int32} {σ : sS} {q : Int32 × sS} (h : F_X7_feed v0 v1 v2 v3 v4 v5 σ = some q) : ∃ fs, σ.1 v0 = some (.inr (7, fs)) := by
  unfold F_X7_feed at h
  obtain ⟨u, hu, -⟩ := s_bind h
  exact s_is_to hu
set_option maxRecDepth 100000 in
set_option maxHeartbeats 4000000 in
theorem v_X7_feed_0 {G : sG} {d : Nat} {vs0 : List Value} {σ0 : sS} {v0 : Nat} {v1 : Int32} {v2 : Int32} {v3 : Int32} {v4 : Int32} {v5 : Int32} {σ : sS} {z : sZ Int32} {r : Int32 × sS} (hf : T_X7_feed_0 v0 v1 v2 v3 v4 v5 σ = some z) (k : s_K G (d + 2) M_X7_feed vs0 σ0 Y_X7_feed e_I z r) : s_V G (d + 2) M_X7_feed vs0 σ0 Y_X7_feed (0, [.ref v0, .int v1, .int v2, .int v3, .int v4, .int v5], σ) (e_I r) := by
  have le0 : s_le σ (e_I r).2 := s_lek hem_I (l_X7_feed_0 hf) k
  refine ⟨le0, ?_⟩
  intro p e s m below meth c H locs cells slots ls X I hn1 hn2 hl
  have hn : cells + σ0.2.1 ≤ σ.2.1 ∧ slots + σ0.2.2.1 ≤ σ.2.2.1 := ⟨hn1, hn2⟩
  have hl : lv_has ls 6 [(0, .ref v0), (1, .int v1), (2, .int v2), (3, .int v3), (4, .int v4), (5, .int v5)] := hl
  have hx := X.1
  have hb : c.code = cX7_feed := X.2.1
  have hown : s.vm.findClass RX7 = some m.cls := X.2.2.2.2.2.1
  have hts := X.2.2.2.2.2.2.1
  refine W.eq (g2 := F0 m 0 ls []) rfl ?_
  unfold T_X7_feed_0 at hf
  obtain ⟨x1, h1, hf⟩ := s_bind hf
  obtain ⟨q2, h2, hf⟩ := s_bind hf
  have le3 : s_le q2.2 (e_I r).2 := by
    refine s_lek hem_I ?_ k
    rcases s_ite hf with ⟨-, hf⟩ | ⟨-, hf⟩
    · cases hf
      exact s_le.rf
    · obtain ⟨x3, -, hf⟩ := s_bind hf
      obtain ⟨q4, hh, hf⟩ := s_bind hf
      refine s_lz.tr (l_X5_put hh) ?_
      obtain ⟨x5, -, hf⟩ := s_bind hf
      obtain ⟨q6, hh, hf⟩ := s_bind hf
      refine s_lz.tr (l_X5_put hh) ?_
      obtain ⟨x7, -, hf⟩ := s_bind hf
      obtain ⟨q8, hh, hf⟩ := s_bind hf
      refine s_lz.tr (l_X5_put hh) ?_
      obtain ⟨x9, -, hf⟩ := s_bind hf
      obtain ⟨q10, hh, hf⟩ := s_bind hf
      refine s_lz.tr (l_X5_put hh) ?_
      obtain ⟨x11, -, hf⟩ := s_bind hf
      obtain ⟨q12, hh, hf⟩ := s_bind hf
      refine s_lz.tr (l_X5_put hh) ?_
      obtain ⟨x13, -, hf⟩ := s_bind hf
      obtain ⟨x14, -, hf⟩ := s_bind hf
      cases hf
      exact s_le.rf
  refine lv_aload_n hx hb dX7_feed_0 rfl (lv_at hl 0 rfl) ?_
  refine r_gr X I fl_X7_31 h1 dX7_feed_1 ?_
  refine lv_bipush (v := 20) hx hb dX7_feed_4 (by decide) ?_
  refine r_callV (Y := M_X5_hasRoom) (v := some (.int q2.1)) X I w_485 my_X5_hasRoom (by omega) (t_X5_hasRoom (G := G) (d := d + 0) h2) (b_X5_hasRoom h2) rfl rfl hl.1 rfl (Nat.le_of_ble_eq_true rfl) hn le3 dX7_feed_6 (fun H locs cells slots I hn1 hn2 => ?_)
  have I : s_I G q2.2 s H locs := I
  have hn : cells + σ0.2.1 ≤ q2.2.2.1 ∧ slots + σ0.2.2.1 ≤ q2.2.2.2.1 := ⟨hn1, hn2⟩
  rcases s_ite hf with ⟨c4, hf⟩ | ⟨c4, hf⟩
  · refine lv_if_ne (tgt := 14) hx hb dX7_feed_9 (by decide) (fun n => absurd c4 n) (fun _ => ?_)
    cases hf
    have k : _ = r := k
    subst k
    refine lv_iconst (v := (-1)) hx hb dX7_feed_12 (by decide) ?_
    exact r_iret X I rfl rfl rfl hn dX7_feed_13
  · refine lv_if_ne (tgt := 14) hx hb dX7_feed_9 (by decide) (fun _ => ?_) (fun n => absurd n c4)
    obtain ⟨x3, h5, hf⟩ := s_bind hf
    obtain ⟨q4, h6, hf⟩ := s_bind hf
    obtain ⟨x5, h7, hf⟩ := s_bind hf
    obtain ⟨q6, h8, hf⟩ := s_bind hf
    obtain ⟨x7, h9, hf⟩ := s_bind hf
    obtain ⟨q8, h10, hf⟩ := s_bind hf
    obtain ⟨x9, h11, hf⟩ := s_bind hf
    obtain ⟨q10, h12, hf⟩ := s_bind hf
    obtain ⟨x11, h13, hf⟩ := s_bind hf
    obtain ⟨q12, h14, hf⟩ := s_bind hf
    obtain ⟨x13, h15, hf⟩ := s_bind hf
    obtain ⟨x14, h16, hf⟩ := s_bind hf
    cases hf
    have k : _ = r := k
    subst k
    have le17 : s_le q12.2 q12.2 := s_le.rf
    have le18 := s_le.tr (l_X5_put h14) le17
    have le19 := s_le.tr (l_X5_put h12) le18
    have le20 := s_le.tr (l_X5_put h10) le19
    have le21 := s_le.tr (l_X5_put h8) le20
    refine lv_aload_n hx hb dX7_feed_14 rfl (lv_at hl 0 rfl) ?_
    refine r_gr X I fl_X7_31 h5 dX7_feed_15 ?_
    refine lv_iload_n hx hb dX7_feed_18 rfl (lv_at hl 1 rfl) ?_
    refine r_callV (Y := M_X5_put) (v := none) X I w_489 my_X5_put (by omega) (t_X5_put (G := G) (d := d + 0) h6) (b_X5_put h6) rfl rfl hl.1 rfl (Nat.le_of_ble_eq_true rfl) hn le21 dX7_feed_19 (fun H locs cells slots I hn1 hn2 => ?_)
    have I : s_I G q4.2 s H locs := I
    have hn : cells + σ0.2.1 ≤ q4.2.2.1 ∧ slots + σ0.2.2.1 ≤ q4.2.2.2.1 := ⟨hn1, hn2⟩
    refine lv_aload_n hx hb dX7_feed_22 rfl (lv_at hl 0 rfl) ?_
    refine r_gr X I fl_X7_31 h7 dX7_feed_23 ?_
    refine lv_iload_n hx hb dX7_feed_26 rfl (lv_at hl 2 rfl) ?_
    refine r_callV (Y := M_X5_put) (v := none) X I w_489 my_X5_put (by omega) (t_X5_put (G := G) (d := d + 0) h8) (b_X5_put h8) rfl rfl hl.1 rfl (Nat.le_of_ble_eq_true rfl) hn le20 dX7_feed_27 (fun H locs cells slots I hn1 hn2 => ?_)
    have I : s_I G q6.2 s H locs := I
    have hn : cells + σ0.2.1 ≤ q6.2.2.1 ∧ slots + σ0.2.2.1 ≤ q6.2.2.2.1 := ⟨hn1, hn2⟩
    refine lv_aload_n hx hb dX7_feed_30 rfl (lv_at hl 0 rfl) ?_
    refine r_gr X I fl_X7_31 h9 dX7_feed_31 ?_
    refine lv_iload_n hx hb dX7_feed_34 rfl (lv_at hl 3 rfl) ?_
    refine r_callV (Y := M_X5_put) (v := none) X I w_489 my_X5_put (by omega) (t_X5_put (G := G) (d := d + 0) h10) (b_X5_put h10) rfl rfl hl.1 rfl (Nat.le_of_ble_eq_true rfl) hn le19 dX7_feed_35 (fun H locs cells slots I hn1 hn2 => ?_)
    have I : s_I G q8.2 s H locs := I
    have hn : cells + σ0.2.1 ≤ q8.2.2.1 ∧ slots + σ0.2.2.1 ≤ q8.2.2.2.1 := ⟨hn1, hn2⟩
    refine lv_aload_n hx hb dX7_feed_38 rfl (lv_at hl 0 rfl) ?_
    refine r_gr X I fl_X7_31 h11 dX7_feed_39 ?_
    refine lv_iload hx hb dX7_feed_42 (lv_at hl 4 rfl) ?_
    refine r_callV (Y := M_X5_put) (v := none) X I w_489 my_X5_put (by omega) (t_X5_put (G := G) (d := d + 0) h12) (b_X5_put h12) rfl rfl hl.1 rfl (Nat.le_of_ble_eq_true rfl) hn le18 dX7_feed_44 (fun H locs cells slots I hn1 hn2 => ?_)
    have I : s_I G q10.2 s H locs := I
    have hn : cells + σ0.2.1 ≤ q10.2.2.1 ∧ slots + σ0.2.2.1 ≤ q10.2.2.2.1 := ⟨hn1, hn2⟩
    refine lv_aload_n hx hb dX7_feed_47 rfl (lv_at hl 0 rfl) ?_
    refine r_gr X I fl_X7_31 h13 dX7_feed_48 ?_
    refine lv_iload hx hb dX7_feed_51 (lv_at hl 5 rfl) ?_
    refine r_callV (Y := M_X5_put) (v := none) X I w_489 my_X5_put (by omega) (t_X5_put (G := G) (d := d + 0) h14) (b_X5_put h14) rfl rfl hl.1 rfl (Nat.le_of_ble_eq_true rfl) hn le17 dX7_feed_53 (fun H locs cells slots I hn1 hn2 => ?_)
    have I : s_I G q12.2 s H locs := I
    have hn : cells + σ0.2.1 ≤ q12.2.2.1 ∧ slots + σ0.2.2.1 ≤ q12.2.2.2.1 := ⟨hn1, hn2⟩
    refine lv_aload_n hx hb dX7_feed_56 rfl (lv_at hl 0 rfl) ?_
    refine r_gr X I fl_X7_31 h15 dX7_feed_57 ?_
    refine r_gi X I fl_X7_77 h16 dX7_feed_60 ?_
    exact r_iret X I rfl rfl rfl hn dX7_feed_63
theorem v_X7_feed {G : sG} {d : Nat} {vs0 : List Value} {σ0 : sS} {x : sL} {z : sZ Int32} {r : Int32 × sS} (hs : S_X7_feed x = some z) (k : s_K G (d + 2) M_X7_feed vs0 σ0 Y_X7_feed e_I z r) : s_V G (d + 2) M_X7_feed vs0 σ0 Y_X7_feed x (e_I r) := by
  obtain ⟨pc, vs, σ⟩ := x
  unfold S_X7_feed at hs
  dsimp only at hs
  rcases s_ite hs with ⟨c, hs⟩ | ⟨-, hs⟩
  · subst c
    unfold U_X7_feed_0 at hs
    obtain ⟨a0, g0, hs⟩ := s_bind hs
    obtain ⟨a1, g1, hs⟩ := s_bind hs
    obtain ⟨a2, g2, hs⟩ := s_bind hs
    obtain ⟨a3, g3, hs⟩ := s_bind hs
    obtain ⟨a4, g4, hs⟩ := s_bind hs
    obtain ⟨a5, g5, hs⟩ := s_bind hs
    obtain ⟨u9, ge, hs⟩ := s_bind hs
    rw [g_r_to g0, g_i_to g1, g_i_to g2, g_i_to g3, g_i_to g4, g_i_to g5, g_e_to ge]
    exact v_X7_feed_0 hs k
  cases hs
theorem t_X7_feed {G : sG} {d : Nat} {v0 : Nat} {v1 : Int32} {v2 : Int32} {v3 : Int32} {v4 : Int32} {v5 : Int32} {σ : sS} {q : Int32 × sS} (h : F_X7_feed v0 v1 v2 v3 v4 v5 σ = some q) : s_T G (d + 2) M_X7_feed [.ref v0, .int v1, .int v2, .int v3, .int v4, .int v5] σ (e_I q) := by
  unfold F_X7_feed at h
  obtain ⟨-, -, h⟩ := s_bind h
  exact s_ofV rfl (by decide) (Nat.le_of_ble_eq_true rfl) rfl rfl (s_run_ind (V := fun x r => s_V G (d + 2) M_X7_feed [.ref v0, .int v1, .int v2, .int v3, .int v4, .int v5] σ Y_X7_feed x (e_I r)) (fun x z r hs hk => v_X7_feed hs (by cases z <;> exact hk)) h)
/-! X8_feed -/
noncomputable def T_X8_feed_0 (v0 : Nat) (v1 : Int32) (v2 : Int32) (v3 : Int32) (v4 : Int32) (v5 : Int32) (σ : sS) : Option (sZ Int32) :=
  (s_pf σ v0 8 0 (.int 0)).bind fun σ1 =>
  (s_fi σ1 v0 8 7).bind fun x2 =>
  if (x2 + 20) ≤ 400 then ((s_fr σ1 v0 8 15).bind fun x3 =>
  (s_si σ1 x3 0 v1).bind fun σ4 =>
  (s_fr σ4 v0 8 15).bind fun x5 =>
  (s_si σ4 x5 1 v2).bind fun σ6 =>
  (s_fr σ6 v0 8 15).bind fun x7 =>
  (s_si σ6 x7 2 v3).bind fun σ8 =>
  (s_fr σ8 v0 8 15).bind fun x9 =>
  (s_si σ8 x9 3 v4).bind fun σ10 =>
  (s_fr σ10 v0 8 15).bind fun x11 =>
  (s_si σ10 x11 4 v5).bind fun σ12 =>
  some (.inl (60, [.ref v0, .int 0], σ12)))
  else (some (.inr ((-1), σ1)))
noncomputable def U_X8_feed_0 (vs : List Value) (σ : sS) : Option (sZ Int32) := (g_r vs).bind fun a0 => (g_i a0.2).bind fun a1 => (g_i a1.2).bind fun a2 => (g_i a2.2).bind fun a3 => (g_i a3.2).bind fun a4 => (g_i a4.2).bind fun a5 => (g_e a5.2).bind fun _ => T_X8_feed_0 a0.1 a1.1 a2.1 a3.1 a4.1 a5.1 σ
noncomputable def T_X8_feed_60 (v0 : Nat) (v6 : Int32) (σ : sS) : Option (sZ Int32) :=
  if (20 : Int32) ≤ v6 then ((s_fi σ v0 8 7).bind fun x1 =>
  (s_pf σ v0 8 7 (.int (x1 + 20))).bind fun σ2 =>
  (s_fi σ2 v0 8 7).bind fun x3 =>
  some (.inr (x3, σ2)))
  else ((s_fr σ v0 8 6).bind fun x4 =>
  (s_fi σ v0 8 7).bind fun x5 =>
  (s_fr σ v0 8 15).bind fun x6 =>
  (s_ai σ x6 (v6 / 4)).bind fun x7 =>
  (s_sb σ x4 (x5 + v6) (((x7 >>> ((24 - (8 * (v6 - v6 / 4 * 4))) &&& 31)) : Int32).toInt8.toInt32)).bind fun σ8 =>
  some (.inl (60, [.ref v0, .int (v6 + 1)], σ8)))
noncomputable def U_X8_feed_60 (vs : List Value) (σ : sS) : Option (sZ Int32) := (g_r vs).bind fun a0 => (g_i a0.2).bind fun a1 => (g_e a1.2).bind fun _ => T_X8_feed_60 a0.1 a1.1 σ
noncomputable def S_X8_feed (x : sL) : Option (sZ Int32) := if x.1 = 0 then U_X8_feed_0 x.2.1 x.2.2 else if x.1 = 60 then U_X8_feed_60 x.2.1 x.2.2 else none
def Y_X8_feed (pc : Nat) : List Nat := if pc = 0 then [0, 1, 2, 3, 4, 5] else if pc = 60 then [0, 6] else []
noncomputable def F_X8_feed (v0 : Nat) (v1 : Int32) (v2 : Int32) (v3 : Int32) (v4 : Int32) (v5 : Int32) (σ : sS) : Option (Int32 × sS) := (s_is σ v0 8).bind fun _ => s_run S_X8_feed (0, [.ref v0, .int v1, .int v2, .int v3, .int v4, .int v5], σ)
theorem l_X8_feed_0 {v0 : Nat} {v1 : Int32} {v2 : Int32} {v3 : Int32} {v4 : Int32} {v5 : Int32} {σ : sS} {z : sZ Int32} (hf : T_X8_feed_0 v0 v1 v2 v3 v4 v5 σ = some z) : s_lz σ z := by
  unfold T_X8_feed_0 at hf
  obtain ⟨σ1, hh, hf⟩ := s_bind hf
  refine s_lz.tr (s_le2 (s_pf_2 hh)) ?_
  obtain ⟨x2, -, hf⟩ := s_bind hf
  rcases s_ite hf with ⟨-, hf⟩ | ⟨-, hf⟩
  · obtain ⟨x3, -, hf⟩ := s_bind hf
    obtain ⟨σ4, hh, hf⟩ := s_bind hf
    refine s_lz.tr (s_le2 (s_si_2 hh)) ?_
    obtain ⟨x5, -, hf⟩ := s_bind hf
    obtain ⟨σ6, hh, hf⟩ := s_bind hf
    refine s_lz.tr (s_le2 (s_si_2 hh)) ?_
    obtain ⟨x7, -, hf⟩ := s_bind hf
    obtain ⟨σ8, hh, hf⟩ := s_bind hf
    refine s_lz.tr (s_le2 (s_si_2 hh)) ?_
    obtain ⟨x9, -, hf⟩ := s_bind hf
    obtain ⟨σ10, hh, hf⟩ := s_bind hf
    refine s_lz.tr (s_le2 (s_si_2 hh)) ?_
    obtain ⟨x11, -, hf⟩ := s_bind hf
    obtain ⟨σ12, hh, hf⟩ := s_bind hf
    refine s_lz.tr (s_le2 (s_si_2 hh)) ?_
    cases hf
    exact s_le.rf
  · cases hf
    exact s_le.rf
theorem l_X8_feed_60 {v0 : Nat} {v6 : Int32} {σ : sS} {z : sZ Int32} (hf : T_X8_feed_60 v0 v6 σ = some z) : s_lz σ z := by
  unfold T_X8_feed_60 at hf
  rcases s_ite hf with ⟨-, hf⟩ | ⟨-, hf⟩
  · obtain ⟨x1, -, hf⟩ := s_bind hf
    obtain ⟨σ2, hh, hf⟩ := s_bind hf
    refine s_lz.tr (s_le2 (s_pf_2 hh)) ?_
    obtain ⟨x3, -, hf⟩ := s_bind hf
    cases hf
    exact s_le.rf
  · obtain ⟨x4, -, hf⟩ := s_bind hf
    obtain ⟨x5, -, hf⟩ := s_bind hf
    obtain ⟨x6, -, hf⟩ := s_bind hf
    obtain ⟨x7, -, hf⟩ := s_bind hf
    obtain ⟨σ8, hh, hf⟩ := s_bind hf
    refine s_lz.tr (s_le2 (s_sb_2 hh)) ?_
    cases hf
    exact s_le.rf
theorem l_X8_feed_s {x : sL} {z : sZ Int32} (hs : S_X8_feed x = some z) : s_lz x.2.2 z := by
  obtain ⟨pc, vs, σ⟩ := x
  unfold S_X8_feed at hs
  dsimp only at hs ⊢
  rcases s_ite hs with ⟨c, hs⟩ | ⟨-, hs⟩
  · subst c
    unfold U_X8_feed_0 at hs
    obtain ⟨a0, g0, hs⟩ := s_bind hs
    obtain ⟨a1, g1, hs⟩ := s_bind hs
    obtain ⟨a2, g2, hs⟩ := s_bind hs
    obtain ⟨a3, g3, hs⟩ := s_bind hs
    obtain ⟨a4, g4, hs⟩ := s_bind hs
    obtain ⟨a5, g5, hs⟩ := s_bind hs
    obtain ⟨u9, ge, hs⟩ := s_bind hs
    exact l_X8_feed_0 hs
  rcases s_ite hs with ⟨c, hs⟩ | ⟨-, hs⟩
  · subst c
    unfold U_X8_feed_60 at hs
    obtain ⟨a0, g0, hs⟩ := s_bind hs
    obtain ⟨a1, g1, hs⟩ := s_bind hs
    obtain ⟨u9, ge, hs⟩ := s_bind hs
    exact l_X8_feed_60 hs
  cases hs
theorem l_X8_feed {v0 : Nat} {v1 : Int32} {v2 : Int32} {v3 : Int32} {v4 : Int32} {v5 : Int32} {σ : sS} {q : Int32 × sS} (h : F_X8_feed v0 v1 v2 v3 v4 v5 σ = some q) : s_le σ q.2 := by
  unfold F_X8_feed at h
  obtain ⟨-, -, h⟩ := s_bind h
  exact s_run_ind (V := fun x r => s_le x.2.2 r.2) (fun x z r hs hk => by
    have h9 := l_X8_feed_s hs
    cases z with
    | inl y => exact s_le.tr h9 hk
    | inr q => cases hk; exact h9) h
theorem b_X8_feed {v0 : Nat} {v1 : Int32} {v2 : Int32} {v3 : Int32} {v4 : Int32} {v5 : Int32} {σ : sS} {q : Int32 × sS} (h : F_X8_feed v0 v1 v2 v3 v4 v5 σ = some q) : ∃ fs, σ.1 v0 = some (.inr (8, fs)) := by
  unfold F_X8_feed at h
  obtain ⟨u, hu, -⟩ := s_bind h
  exact s_is_to hu
set_option maxRecDepth 100000 in
set_option maxHeartbeats 4000000 in
theorem v_X8_feed_0 {G : sG} {d : Nat} {vs0 : List Value} {σ0 : sS} {v0 : Nat} {v1 : Int32} {v2 : Int32} {v3 : Int32} {v4 : Int32} {v5 : Int32} {σ : sS} {z : sZ Int32} {r : Int32 × sS} (hf : T_X8_feed_0 v0 v1 v2 v3 v4 v5 σ = some z) (k : s_K G (d + 1) M_X8_feed vs0 σ0 Y_X8_feed e_I z r) : s_V G (d + 1) M_X8_feed vs0 σ0 Y_X8_feed (0, [.ref v0, .int v1, .int v2, .int v3, .int v4, .int v5], σ) (e_I r) := by
  have le0 : s_le σ (e_I r).2 := s_lek hem_I (l_X8_feed_0 hf) k
  refine ⟨le0, ?_⟩
  intro p e s m below meth c H locs cells slots ls X I hn1 hn2 hl
  have hn : cells + σ0.2.1 ≤ σ.2.1 ∧ slots + σ0.2.2.1 ≤ σ.2.2.1 := ⟨hn1, hn2⟩
  have hl : lv_has ls 7 [(0, .ref v0), (1, .int v1), (2, .int v2), (3, .int v3), (4, .int v4), (5, .int v5)] := hl
  have hx := X.1
  have hb : c.code = cX8_feed := X.2.1
  have hown : s.vm.findClass RX8 = some m.cls := X.2.2.2.2.2.1
  have hts := X.2.2.2.2.2.2.1
  refine W.eq (g2 := F0 m 0 ls []) rfl ?_
  unfold T_X8_feed_0 at hf
  obtain ⟨σ1, h1, hf⟩ := s_bind hf
  obtain ⟨x2, h2, hf⟩ := s_bind hf
  have le3 : s_le σ1 (e_I r).2 := by
    refine s_lek hem_I ?_ k
    rcases s_ite hf with ⟨-, hf⟩ | ⟨-, hf⟩
    · obtain ⟨x3, -, hf⟩ := s_bind hf
      obtain ⟨σ4, hh, hf⟩ := s_bind hf
      refine s_lz.tr (s_le2 (s_si_2 hh)) ?_
      obtain ⟨x5, -, hf⟩ := s_bind hf
      obtain ⟨σ6, hh, hf⟩ := s_bind hf
      refine s_lz.tr (s_le2 (s_si_2 hh)) ?_
      obtain ⟨x7, -, hf⟩ := s_bind hf
      obtain ⟨σ8, hh, hf⟩ := s_bind hf
      refine s_lz.tr (s_le2 (s_si_2 hh)) ?_
      obtain ⟨x9, -, hf⟩ := s_bind hf
      obtain ⟨σ10, hh, hf⟩ := s_bind hf
      refine s_lz.tr (s_le2 (s_si_2 hh)) ?_
      obtain ⟨x11, -, hf⟩ := s_bind hf
      obtain ⟨σ12, hh, hf⟩ := s_bind hf
      refine s_lz.tr (s_le2 (s_si_2 hh)) ?_
      cases hf
      exact s_le.rf
    · cases hf
      exact s_le.rf
  refine lv_aload_n hx hb dX8_feed_0 rfl (lv_at hl 0 rfl) ?_
  refine lv_iconst (v := 0) hx hb dX8_feed_1 (by decide) ?_
  refine r_put X I fp_X8_3 (fun h => by cases h) h1 rfl rfl dX8_feed_2 (fun H locs I => ?_)
  have hn := s_k2 (s_pf_2 h1) hn
  refine lv_aload_n hx hb dX8_feed_5 rfl (lv_at hl 0 rfl) ?_
  refine r_gi X I fl_X8_145 h2 dX8_feed_6 ?_
  refine lv_bipush (v := 20) hx hb dX8_feed_9 (by decide) ?_
  refine lv_iadd hx hb dX8_feed_11 ?_
  refine lv_sipush (v := 400) hx hb dX8_feed_12 (by decide) ?_
  rcases s_ite hf with ⟨c4, hf⟩ | ⟨c4, hf⟩
  · refine lv_icmp_le (tgt := 20) hx hb dX8_feed_15 (by decide) (fun _ => ?_) (fun n => absurd c4 n)
    obtain ⟨x3, h5, hf⟩ := s_bind hf
    obtain ⟨σ4, h6, hf⟩ := s_bind hf
    obtain ⟨x5, h7, hf⟩ := s_bind hf
    obtain ⟨σ6, h8, hf⟩ := s_bind hf
    obtain ⟨x7, h9, hf⟩ := s_bind hf
    obtain ⟨σ8, h10, hf⟩ := s_bind hf
    obtain ⟨x9, h11, hf⟩ := s_bind hf
    obtain ⟨σ10, h12, hf⟩ := s_bind hf
    obtain ⟨x11, h13, hf⟩ := s_bind hf
    obtain ⟨σ12, h14, hf⟩ := s_bind hf
    cases hf
    have k : s_V G (d + 1) M_X8_feed vs0 σ0 Y_X8_feed (60, [.ref v0, .int 0], σ12) (e_I r) := k
    have le15 : s_le σ12 (e_I r).2 := k.1
    have le16 := s_le.tr (s_le2 (s_si_2 h14)) le15
    have le17 := s_le.tr (s_le2 (s_si_2 h12)) le16
    have le18 := s_le.tr (s_le2 (s_si_2 h10)) le17
    have le19 := s_le.tr (s_le2 (s_si_2 h8)) le18
    refine lv_aload_n hx hb dX8_feed_20 rfl (lv_at hl 0 rfl) ?_
    refine r_gr X I fl_X8_33 h5 dX8_feed_21 ?_
    refine lv_iconst (v := 0) hx hb dX8_feed_24 (by decide) ?_
    refine lv_iload_n hx hb dX8_feed_25 rfl (lv_at hl 1 rfl) ?_
    refine r_iast X I h6 dX8_feed_26 (fun H locs I => ?_)
    have hn := s_k2 (s_si_2 h6) hn
    refine lv_aload_n hx hb dX8_feed_27 rfl (lv_at hl 0 rfl) ?_
    refine r_gr X I fl_X8_33 h7 dX8_feed_28 ?_
    refine lv_iconst (v := 1) hx hb dX8_feed_31 (by decide) ?_
    refine lv_iload_n hx hb dX8_feed_32 rfl (lv_at hl 2 rfl) ?_
    refine r_iast X I h8 dX8_feed_33 (fun H locs I => ?_)
    have hn := s_k2 (s_si_2 h8) hn
    refine lv_aload_n hx hb dX8_feed_34 rfl (lv_at hl 0 rfl) ?_
    refine r_gr X I fl_X8_33 h9 dX8_feed_35 ?_
    refine lv_iconst (v := 2) hx hb dX8_feed_38 (by decide) ?_
    refine lv_iload_n hx hb dX8_feed_39 rfl (lv_at hl 3 rfl) ?_
    refine r_iast X I h10 dX8_feed_40 (fun H locs I => ?_)
    have hn := s_k2 (s_si_2 h10) hn
    refine lv_aload_n hx hb dX8_feed_41 rfl (lv_at hl 0 rfl) ?_
    refine r_gr X I fl_X8_33 h11 dX8_feed_42 ?_
    refine lv_iconst (v := 3) hx hb dX8_feed_45 (by decide) ?_
    refine lv_iload hx hb dX8_feed_46 (lv_at hl 4 rfl) ?_
    refine r_iast X I h12 dX8_feed_48 (fun H locs I => ?_)
    have hn := s_k2 (s_si_2 h12) hn
    refine lv_aload_n hx hb dX8_feed_49 rfl (lv_at hl 0 rfl) ?_
    refine r_gr X I fl_X8_33 h13 dX8_feed_50 ?_
    refine lv_iconst (v := 4) hx hb dX8_feed_53 (by decide) ?_
    refine lv_iload hx hb dX8_feed_54 (lv_at hl 5 rfl) ?_
    refine r_iast X I h14 dX8_feed_56 (fun H locs I => ?_)
    have hn := s_k2 (s_si_2 h14) hn
    refine lv_iconst (v := 0) hx hb dX8_feed_57 (by decide) ?_
    refine lv_istore (lv' := [(6, .int 0), (0, .ref v0), (1, .int v1), (2, .int v2), (3, .int v3), (4, .int v4), (5, .int v5)]) hx hb dX8_feed_58 hl (by decide) rfl (fun ls hl => ?_)
    exact k.2 p e s m below meth c _ _ _ _ _ X I hn.1 hn.2 (lv_sub hl [1, 0] rfl)
  · refine lv_icmp_le (tgt := 20) hx hb dX8_feed_15 (by decide) (fun n => absurd n c4) (fun _ => ?_)
    cases hf
    have k : _ = r := k
    subst k
    refine lv_iconst (v := (-1)) hx hb dX8_feed_18 (by decide) ?_
    exact r_iret X I rfl rfl rfl hn dX8_feed_19
set_option maxRecDepth 100000 in
set_option maxHeartbeats 4000000 in
theorem v_X8_feed_60 {G : sG} {d : Nat} {vs0 : List Value} {σ0 : sS} {v0 : Nat} {v6 : Int32} {σ : sS} {z : sZ Int32} {r : Int32 × sS} (hf : T_X8_feed_60 v0 v6 σ = some z) (k : s_K G (d + 1) M_X8_feed vs0 σ0 Y_X8_feed e_I z r) : s_V G (d + 1) M_X8_feed vs0 σ0 Y_X8_feed (60, [.ref v0, .int v6], σ) (e_I r) := by
  have le0 : s_le σ (e_I r).2 := s_lek hem_I (l_X8_feed_60 hf) k
  refine ⟨le0, ?_⟩
  intro p e s m below meth c H locs cells slots ls X I hn1 hn2 hl
  have hn : cells + σ0.2.1 ≤ σ.2.1 ∧ slots + σ0.2.2.1 ≤ σ.2.2.1 := ⟨hn1, hn2⟩
  have hl : lv_has ls 7 [(0, .ref v0), (6, .int v6)] := hl
  have hx := X.1
  have hb : c.code = cX8_feed := X.2.1
  have hown : s.vm.findClass RX8 = some m.cls := X.2.2.2.2.2.1
  have hts := X.2.2.2.2.2.2.1
  refine W.eq (g2 := F0 m 60 ls []) rfl ?_
  unfold T_X8_feed_60 at hf
  refine lv_iload hx hb dX8_feed_60 (lv_at hl 1 rfl) ?_
  refine lv_bipush (v := 20) hx hb dX8_feed_62 (by decide) ?_
  rcases s_ite hf with ⟨c1, hf⟩ | ⟨c1, hf⟩
  · refine lv_icmp_ge (tgt := 106) hx hb dX8_feed_64 (by decide) (fun _ => ?_) (fun n => absurd c1 n)
    obtain ⟨x1, h2, hf⟩ := s_bind hf
    obtain ⟨σ2, h3, hf⟩ := s_bind hf
    obtain ⟨x3, h4, hf⟩ := s_bind hf
    cases hf
    have k : _ = r := k
    subst k
    have le5 : s_le σ2 σ2 := s_le.rf
    refine lv_aload_n hx hb dX8_feed_106 rfl (lv_at hl 0 rfl) ?_
    refine lv_dup hx hb dX8_feed_107 rfl ?_
    refine r_gi X I fl_X8_145 h2 dX8_feed_108 ?_
    refine lv_bipush (v := 20) hx hb dX8_feed_111 (by decide) ?_
    refine lv_iadd hx hb dX8_feed_113 ?_
    refine r_put X I fp_X8_145 (fun h => by cases h) h3 rfl rfl dX8_feed_114 (fun H locs I => ?_)
    have hn := s_k2 (s_pf_2 h3) hn
    refine lv_aload_n hx hb dX8_feed_117 rfl (lv_at hl 0 rfl) ?_
    refine r_gi X I fl_X8_145 h4 dX8_feed_118 ?_
    exact r_iret X I rfl rfl rfl hn dX8_feed_121
  · refine lv_icmp_ge (tgt := 106) hx hb dX8_feed_64 (by decide) (fun n => absurd n c1) (fun _ => ?_)
    obtain ⟨x4, h6, hf⟩ := s_bind hf
    obtain ⟨x5, h7, hf⟩ := s_bind hf
    obtain ⟨x6, h8, hf⟩ := s_bind hf
    obtain ⟨x7, h9, hf⟩ := s_bind hf
    obtain ⟨σ8, h10, hf⟩ := s_bind hf
    cases hf
    have k : s_V G (d + 1) M_X8_feed vs0 σ0 Y_X8_feed (60, [.ref v0, .int (v6 + 1)], σ8) (e_I r) := k
    have le11 : s_le σ8 (e_I r).2 := k.1
    refine lv_aload_n hx hb dX8_feed_67 rfl (lv_at hl 0 rfl) ?_
    refine r_gr X I fl_X8_26 h6 dX8_feed_68 ?_
    refine lv_aload_n hx hb dX8_feed_71 rfl (lv_at hl 0 rfl) ?_
    refine r_gi X I fl_X8_145 h7 dX8_feed_72 ?_
    refine lv_iload hx hb dX8_feed_75 (lv_at hl 1 rfl) ?_
    refine lv_iadd hx hb dX8_feed_77 ?_
    refine lv_aload_n hx hb dX8_feed_78 rfl (lv_at hl 0 rfl) ?_
    refine r_gr X I fl_X8_33 h8 dX8_feed_79 ?_
    refine lv_iload hx hb dX8_feed_82 (lv_at hl 1 rfl) ?_
    refine lv_iconst (v := 4) hx hb dX8_feed_84 (by decide) ?_
    refine lv_idiv hx hb dX8_feed_85 (by decide) ?_
    refine r_iald X I h9 dX8_feed_86 ?_
    refine lv_bipush (v := 24) hx hb dX8_feed_87 (by decide) ?_
    refine lv_bipush (v := 8) hx hb dX8_feed_89 (by decide) ?_
    refine lv_iload hx hb dX8_feed_91 (lv_at hl 1 rfl) ?_
    refine lv_iconst (v := 4) hx hb dX8_feed_93 (by decide) ?_
    refine lv_irem hx hb dX8_feed_94 (by decide) ?_
    refine lv_imul hx hb dX8_feed_95 ?_
    refine lv_isub hx hb dX8_feed_96 ?_
    refine lv_ishr hx hb dX8_feed_97 ?_
    refine lv_i2b hx hb dX8_feed_98 rfl ?_
    refine r_bast X I h10 dX8_feed_99 (fun H locs I => ?_)
    have hn := s_k2 (s_sb_2 h10) hn
    refine lv_iinc (v := (v6 + 1)) (lv' := [(6, .int (v6 + 1)), (0, .ref v0)]) hx hb dX8_feed_100 hl (k := 1) rfl rfl (by decide) rfl (fun ls hl => ?_)
    refine lv_goto (tgt := 60) hx hb dX8_feed_103 (by decide) ?_
    exact k.2 p e s m below meth c _ _ _ _ _ X I hn.1 hn.2 (lv_sub hl [1, 0] rfl)
theorem v_X8_feed {G : sG} {d : Nat} {vs0 : List Value} {σ0 : sS} {x : sL} {z : sZ Int32} {r : Int32 × sS} (hs : S_X8_feed x = some z) (k : s_K G (d + 1) M_X8_feed vs0 σ0 Y_X8_feed e_I z r) : s_V G (d + 1) M_X8_feed vs0 σ0 Y_X8_feed x (e_I r) := by
  obtain ⟨pc, vs, σ⟩ := x
  unfold S_X8_feed at hs
  dsimp only at hs
  rcases s_ite hs with ⟨c, hs⟩ | ⟨-, hs⟩
  · subst c
    unfold U_X8_feed_0 at hs
    obtain ⟨a0, g0, hs⟩ := s_bind hs
    obtain ⟨a1, g1, hs⟩ := s_bind hs
    obtain ⟨a2, g2, hs⟩ := s_bind hs
    obtain ⟨a3, g3, hs⟩ := s_bind hs
    obtain ⟨a4, g4, hs⟩ := s_bind hs
    obtain ⟨a5, g5, hs⟩ := s_bind hs
    obtain ⟨u9, ge, hs⟩ := s_bind hs
    rw [g_r_to g0, g_i_to g1, g_i_to g2, g_i_to g3, g_i_to g4, g_i_to g5, g_e_to ge]
    exact v_X8_feed_0 hs k
  rcases s_ite hs with ⟨c, hs⟩ | ⟨-, hs⟩
  · subst c
    unfold U_X8_feed_60 at hs
    obtain ⟨a0, g0, hs⟩ := s_bind hs
    obtain ⟨a1, g1, hs⟩ := s_bind hs
    obtain ⟨u9, ge, hs⟩ := s_bind hs
    rw [g_r_to g0, g_i_to g1, g_e_to ge]
    exact v_X8_feed_60 hs k
  cases hs
theorem t_X8_feed {G : sG} {d : Nat} {v0 : Nat} {v1 : Int32} {v2 : Int32} {v3 : Int32} {v4 : Int32} {v5 : Int32} {σ : sS} {q : Int32 × sS} (h : F_X8_feed v0 v1 v2 v3 v4 v5 σ = some q) : s_T G (d + 1) M_X8_feed [.ref v0, .int v1, .int v2, .int v3, .int v4, .int v5] σ (e_I q) := by
  unfold F_X8_feed at h
  obtain ⟨-, -, h⟩ := s_bind h
  exact s_ofV rfl (by decide) (Nat.le_of_ble_eq_true rfl) rfl rfl (s_run_ind (V := fun x r => s_V G (d + 1) M_X8_feed [.ref v0, .int v1, .int v2, .int v3, .int v4, .int v5] σ Y_X8_feed x (e_I r)) (fun x z r hs hk => v_X8_feed hs (by cases z <;> exact hk)) h)
/-! X5_cut -/
noncomputable def T_X5_cut_0 (v0 : Nat) (v1 : Int32) (σ : sS) : Option (sZ Int32) :=
  if v1 < 0 then (some (.inr (0, σ)))
  else ((s_fi σ v0 5 0).bind fun x1 =>
  if v1 ≤ x1 then ((s_pf σ v0 5 0 (.int v1)).bind fun σ2 =>
  some (.inr (1, σ2)))
  else (some (.inr (0, σ))))
noncomputable def U_X5_cut_0 (vs : List Value) (σ : sS) : Option (sZ Int32) := (g_r vs).bind fun a0 => (g_i a0.2).bind fun a1 => (g_e a1.2).bind fun _ => T_X5_cut_0 a0.1 a1.1 σ
noncomputable def S_X5_cut (x : sL) : Option (sZ Int32) := if x.1 = 0 then U_X5_cut_0 x.2.1 x.2.2 else none
def Y_X5_cut (pc : Nat) : List Nat := if pc = 0 then [0, 1] else []
noncomputable def F_X5_cut (v0 : Nat) (v1 : Int32) (σ : sS) : Option (Int32 × sS) := (s_is σ v0 5).bind fun _ => s_run S_X5_cut (0, [.ref v0, .int v1], σ)
theorem l_X5_cut_0 {v0 : Nat} {v1 : Int32} {σ : sS} {z : sZ Int32} (hf : T_X5_cut_0 v0 v1 σ = some z) : s_lz σ z := by
  unfold T_X5_cut_0 at hf
  rcases s_ite hf with ⟨-, hf⟩ | ⟨-, hf⟩
  · cases hf
    exact s_le.rf
  · obtain ⟨x1, -, hf⟩ := s_bind hf
    rcases s_ite hf with ⟨-, hf⟩ | ⟨-, hf⟩
    · obtain ⟨σ2, hh, hf⟩ := s_bind hf
      refine s_lz.tr (s_le2 (s_pf_2 hh)) ?_
      cases hf
      exact s_le.rf
    · cases hf
      exact s_le.rf
theorem l_X5_cut_s {x : sL} {z : sZ Int32} (hs : S_X5_cut x = some z) : s_lz x.2.2 z := by
  obtain ⟨pc, vs, σ⟩ := x
  unfold S_X5_cut at hs
  dsimp only at hs ⊢
  rcases s_ite hs with ⟨c, hs⟩ | ⟨-, hs⟩
  · subst c
    unfold U_X5_cut_0 at hs
    obtain ⟨a0, g0, hs⟩ := s_bind hs
    obtain ⟨a1, g1, hs⟩ := s_bind hs
    obtain ⟨u9, ge, hs⟩ := s_bind hs
    exact l_X5_cut_0 hs
  cases hs
theorem l_X5_cut {v0 : Nat} {v1 : Int32} {σ : sS} {q : Int32 × sS} (h : F_X5_cut v0 v1 σ = some q) : s_le σ q.2 := by
  unfold F_X5_cut at h
  obtain ⟨-, -, h⟩ := s_bind h
  exact s_run_ind (V := fun x r => s_le x.2.2 r.2) (fun x z r hs hk => by
    have h9 := l_X5_cut_s hs
    cases z with
    | inl y => exact s_le.tr h9 hk
    | inr q => cases hk; exact h9) h
theorem b_X5_cut {v0 : Nat} {v1 : Int32} {σ : sS} {q : Int32 × sS} (h : F_X5_cut v0 v1 σ = some q) : ∃ fs, σ.1 v0 = some (.inr (5, fs)) := by
  unfold F_X5_cut at h
  obtain ⟨u, hu, -⟩ := s_bind h
  exact s_is_to hu
set_option maxRecDepth 100000 in
set_option maxHeartbeats 4000000 in
theorem v_X5_cut_0 {G : sG} {d : Nat} {vs0 : List Value} {σ0 : sS} {v0 : Nat} {v1 : Int32} {σ : sS} {z : sZ Int32} {r : Int32 × sS} (hf : T_X5_cut_0 v0 v1 σ = some z) (k : s_K G (d + 1) M_X5_cut vs0 σ0 Y_X5_cut e_I z r) : s_V G (d + 1) M_X5_cut vs0 σ0 Y_X5_cut (0, [.ref v0, .int v1], σ) (e_I r) := by
  have le0 : s_le σ (e_I r).2 := s_lek hem_I (l_X5_cut_0 hf) k
  refine ⟨le0, ?_⟩
  intro p e s m below meth c H locs cells slots ls X I hn1 hn2 hl
  have hn : cells + σ0.2.1 ≤ σ.2.1 ∧ slots + σ0.2.2.1 ≤ σ.2.2.1 := ⟨hn1, hn2⟩
  have hl : lv_has ls 2 [(0, .ref v0), (1, .int v1)] := hl
  have hx := X.1
  have hb : c.code = cX5_cut := X.2.1
  have hown : s.vm.findClass RX5 = some m.cls := X.2.2.2.2.2.1
  have hts := X.2.2.2.2.2.2.1
  refine W.eq (g2 := F0 m 0 ls []) rfl ?_
  unfold T_X5_cut_0 at hf
  refine lv_iload_n hx hb dX5_cut_0 rfl (lv_at hl 1 rfl) ?_
  rcases s_ite hf with ⟨c1, hf⟩ | ⟨c1, hf⟩
  · refine lv_if_lt (tgt := 12) hx hb dX5_cut_1 (by decide) (fun _ => ?_) (fun n => absurd c1 n)
    cases hf
    have k : _ = r := k
    subst k
    refine lv_iconst (v := 0) hx hb dX5_cut_12 (by decide) ?_
    exact r_iret X I rfl rfl rfl hn dX5_cut_13
  · refine lv_if_lt (tgt := 12) hx hb dX5_cut_1 (by decide) (fun n => absurd n c1) (fun _ => ?_)
    obtain ⟨x1, h2, hf⟩ := s_bind hf
    refine lv_iload_n hx hb dX5_cut_4 rfl (lv_at hl 1 rfl) ?_
    refine lv_aload_n hx hb dX5_cut_5 rfl (lv_at hl 0 rfl) ?_
    refine r_gi X I fl_X5_23 h2 dX5_cut_6 ?_
    rcases s_ite hf with ⟨c3, hf⟩ | ⟨c3, hf⟩
    · refine lv_icmp_le (tgt := 14) hx hb dX5_cut_9 (by decide) (fun _ => ?_) (fun n => absurd c3 n)
      obtain ⟨σ2, h4, hf⟩ := s_bind hf
      cases hf
      have k : _ = r := k
      subst k
      have le5 : s_le σ2 σ2 := s_le.rf
      refine lv_aload_n hx hb dX5_cut_14 rfl (lv_at hl 0 rfl) ?_
      refine lv_iload_n hx hb dX5_cut_15 rfl (lv_at hl 1 rfl) ?_
      refine r_put X I fp_X5_23 (fun h => by cases h) h4 rfl rfl dX5_cut_16 (fun H locs I => ?_)
      have hn := s_k2 (s_pf_2 h4) hn
      refine lv_iconst (v := 1) hx hb dX5_cut_19 (by decide) ?_
      exact r_iret X I rfl rfl rfl hn dX5_cut_20
    · refine lv_icmp_le (tgt := 14) hx hb dX5_cut_9 (by decide) (fun n => absurd n c3) (fun _ => ?_)
      cases hf
      have k : _ = r := k
      subst k
      refine lv_iconst (v := 0) hx hb dX5_cut_12 (by decide) ?_
      exact r_iret X I rfl rfl rfl hn dX5_cut_13
theorem v_X5_cut {G : sG} {d : Nat} {vs0 : List Value} {σ0 : sS} {x : sL} {z : sZ Int32} {r : Int32 × sS} (hs : S_X5_cut x = some z) (k : s_K G (d + 1) M_X5_cut vs0 σ0 Y_X5_cut e_I z r) : s_V G (d + 1) M_X5_cut vs0 σ0 Y_X5_cut x (e_I r) := by
  obtain ⟨pc, vs, σ⟩ := x
  unfold S_X5_cut at hs
  dsimp only at hs
  rcases s_ite hs with ⟨c, hs⟩ | ⟨-, hs⟩
  · subst c
    unfold U_X5_cut_0 at hs
    obtain ⟨a0, g0, hs⟩ := s_bind hs
    obtain ⟨a1, g1, hs⟩ := s_bind hs
    obtain ⟨u9, ge, hs⟩ := s_bind hs
    rw [g_r_to g0, g_i_to g1, g_e_to ge]
    exact v_X5_cut_0 hs k
  cases hs
theorem t_X5_cut {G : sG} {d : Nat} {v0 : Nat} {v1 : Int32} {σ : sS} {q : Int32 × sS} (h : F_X5_cut v0 v1 σ = some q) : s_T G (d + 1) M_X5_cut [.ref v0, .int v1] σ (e_I q) := by
  unfold F_X5_cut at h
  obtain ⟨-, -, h⟩ := s_bind h
  exact s_ofV rfl (by decide) (Nat.le_of_ble_eq_true rfl) rfl rfl (s_run_ind (V := fun x r => s_V G (d + 1) M_X5_cut [.ref v0, .int v1] σ Y_X5_cut x (e_I r)) (fun x z r hs hk => v_X5_cut hs (by cases z <;> exact hk)) h)
