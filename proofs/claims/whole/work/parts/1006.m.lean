/-! X4_costAt -/
noncomputable def T_X4_costAt_0 (v0 : Nat) (v1 : Int32) (v2 : Int32) (σ : sS) : Option (sZ Int32) :=
  if ((v1 * 40) + v2) < 0 then (some (.inl (29, [], σ)))
  else ((s_fr σ v0 4 7).bind fun x1 =>
  (s_len σ x1).bind fun x2 =>
  if x2 ≤ ((v1 * 40) + v2) then (some (.inl (29, [], σ)))
  else ((s_fr σ v0 4 7).bind fun x3 =>
  (s_ai σ x3 ((v1 * 40) + v2)).bind fun x4 =>
  some (.inr (x4, σ))))
noncomputable def U_X4_costAt_0 (vs : List Value) (σ : sS) : Option (sZ Int32) := (g_r vs).bind fun a0 => (g_i a0.2).bind fun a1 => (g_i a1.2).bind fun a2 => (g_e a2.2).bind fun _ => T_X4_costAt_0 a0.1 a1.1 a2.1 σ
noncomputable def T_X4_costAt_29  (σ : sS) : Option (sZ Int32) :=
  some (.inr (268435456, σ))
noncomputable def U_X4_costAt_29 (vs : List Value) (σ : sS) : Option (sZ Int32) := (g_e vs).bind fun _ => T_X4_costAt_29  σ
noncomputable def S_X4_costAt (x : sL) : Option (sZ Int32) := if x.1 = 0 then U_X4_costAt_0 x.2.1 x.2.2 else if x.1 = 29 then U_X4_costAt_29 x.2.1 x.2.2 else none
def Y_X4_costAt (pc : Nat) : List Nat := if pc = 0 then [0, 1, 2] else if pc = 29 then [] else []
noncomputable def F_X4_costAt (v0 : Nat) (v1 : Int32) (v2 : Int32) (σ : sS) : Option (Int32 × sS) := (s_is σ v0 4).bind fun _ => s_run S_X4_costAt (0, [.ref v0, .int v1, .int v2], σ)
theorem l_X4_costAt_0 {v0 : Nat} {v1 : Int32} {v2 : Int32} {σ : sS} {z : sZ Int32} (hf : T_X4_costAt_0 v0 v1 v2 σ = some z) : s_lz σ z := by
  unfold T_X4_costAt_0 at hf
  rcases s_ite hf with ⟨-, hf⟩ | ⟨-, hf⟩
  · cases hf
    exact s_le.rf
  · obtain ⟨x1, -, hf⟩ := s_bind hf
    obtain ⟨x2, -, hf⟩ := s_bind hf
    rcases s_ite hf with ⟨-, hf⟩ | ⟨-, hf⟩
    · cases hf
      exact s_le.rf
    · obtain ⟨x3, -, hf⟩ := s_bind hf
      obtain ⟨x4, -, hf⟩ := s_bind hf
      cases hf
      exact s_le.rf
theorem l_X4_costAt_29  {σ : sS} {z : sZ Int32} (hf : T_X4_costAt_29  σ = some z) : s_lz σ z := by
  unfold T_X4_costAt_29 at hf
  cases hf
  exact s_le.rf
theorem l_X4_costAt_s {x : sL} {z : sZ Int32} (hs : S_X4_costAt x = some z) : s_lz x.2.2 z := by
  obtain ⟨pc, vs, σ⟩ := x
  unfold S_X4_costAt at hs
  dsimp only at hs ⊢
  rcases s_ite hs with ⟨c, hs⟩ | ⟨-, hs⟩
  · subst c
    unfold U_X4_costAt_0 at hs
    obtain ⟨a0, g0, hs⟩ := s_bind hs
    obtain ⟨a1, g1, hs⟩ := s_bind hs
    obtain ⟨a2, g2, hs⟩ := s_bind hs
    obtain ⟨u9, ge, hs⟩ := s_bind hs
    exact l_X4_costAt_0 hs
  rcases s_ite hs with ⟨c, hs⟩ | ⟨-, hs⟩
  · subst c
    unfold U_X4_costAt_29 at hs
    obtain ⟨u9, ge, hs⟩ := s_bind hs
    exact l_X4_costAt_29 hs
  cases hs
theorem l_X4_costAt {v0 : Nat} {v1 : Int32} {v2 : Int32} {σ : sS} {q : Int32 × sS} (h : F_X4_costAt v0 v1 v2 σ = some q) : s_le σ q.2 := by
  unfold F_X4_costAt at h
  obtain ⟨-, -, h⟩ := s_bind h
  exact s_run_ind (V := fun x r => s_le x.2.2 r.2) (fun x z r hs hk => by
    have h9 := l_X4_costAt_s hs
    cases z with
    | inl y => exact s_le.tr h9 hk
    | inr q => cases hk; exact h9) h
theorem b_X4_costAt {v0 : Nat} {v1 : Int32} {v2 : Int32} {σ : sS} {q : Int32 × sS} (h : F_X4_costAt v0 v1 v2 σ = some q) : ∃ fs, σ.1 v0 = some (.inr (4, fs)) := by
  unfold F_X4_costAt at h
  obtain ⟨u, hu, -⟩ := s_bind h
  exact s_is_to hu
set_option maxRecDepth 100000 in
set_option maxHeartbeats 4000000 in
theorem v_X4_costAt_0 {G : sG} {d : Nat} {vs0 : List Value} {σ0 : sS} {v0 : Nat} {v1 : Int32} {v2 : Int32} {σ : sS} {z : sZ Int32} {r : Int32 × sS} (hf : T_X4_costAt_0 v0 v1 v2 σ = some z) (k : s_K G (d + 1) M_X4_costAt vs0 σ0 Y_X4_costAt e_I z r) : s_V G (d + 1) M_X4_costAt vs0 σ0 Y_X4_costAt (0, [.ref v0, .int v1, .int v2], σ) (e_I r) := by
  have le0 : s_le σ (e_I r).2 := s_lek hem_I (l_X4_costAt_0 hf) k
  refine ⟨le0, ?_⟩
  intro p e s m below meth c H locs cells slots ls X I hn1 hn2 hl
  have hn : cells + σ0.2.1 ≤ σ.2.1 ∧ slots + σ0.2.2.1 ≤ σ.2.2.1 := ⟨hn1, hn2⟩
  have hl : lv_has ls 4 [(0, .ref v0), (1, .int v1), (2, .int v2)] := hl
  have hx := X.1
  have hb : c.code = cX4_costAt := X.2.1
  have hown : s.vm.findClass RX4 = some m.cls := X.2.2.2.2.2.1
  have hts := X.2.2.2.2.2.2.1
  refine W.eq (g2 := F0 m 0 ls []) rfl ?_
  unfold T_X4_costAt_0 at hf
  refine lv_iload_n hx hb dX4_costAt_0 rfl (lv_at hl 1 rfl) ?_
  refine lv_bipush (v := 40) hx hb dX4_costAt_1 (by decide) ?_
  refine lv_imul hx hb dX4_costAt_3 ?_
  refine lv_iload_n hx hb dX4_costAt_4 rfl (lv_at hl 2 rfl) ?_
  refine lv_iadd hx hb dX4_costAt_5 ?_
  refine lv_istore_n (lv' := [(3, .int ((v1 * 40) + v2)), (0, .ref v0), (1, .int v1), (2, .int v2)]) hx hb dX4_costAt_6 rfl hl (by decide) rfl (fun ls hl => ?_)
  refine lv_iload_n hx hb dX4_costAt_7 rfl (lv_at hl 0 rfl) ?_
  rcases s_ite hf with ⟨c1, hf⟩ | ⟨c1, hf⟩
  · refine lv_if_lt (tgt := 29) hx hb dX4_costAt_8 (by decide) (fun _ => ?_) (fun n => absurd c1 n)
    cases hf
    have k : s_V G (d + 1) M_X4_costAt vs0 σ0 Y_X4_costAt (29, [], σ) (e_I r) := k
    exact k.2 p e s m below meth c _ _ _ _ _ X I hn.1 hn.2 (lv_sub hl [] rfl)
  · refine lv_if_lt (tgt := 29) hx hb dX4_costAt_8 (by decide) (fun n => absurd n c1) (fun _ => ?_)
    obtain ⟨x1, h2, hf⟩ := s_bind hf
    obtain ⟨x2, h3, hf⟩ := s_bind hf
    refine lv_iload_n hx hb dX4_costAt_11 rfl (lv_at hl 0 rfl) ?_
    refine lv_aload_n hx hb dX4_costAt_12 rfl (lv_at hl 1 rfl) ?_
    refine r_gr X I fl_X4_27 h2 dX4_costAt_13 ?_
    refine r_alen X I h3 dX4_costAt_16 ?_
    rcases s_ite hf with ⟨c4, hf⟩ | ⟨c4, hf⟩
    · refine lv_icmp_ge (tgt := 29) hx hb dX4_costAt_17 (by decide) (fun _ => ?_) (fun n => absurd c4 n)
      cases hf
      have k : s_V G (d + 1) M_X4_costAt vs0 σ0 Y_X4_costAt (29, [], σ) (e_I r) := k
      exact k.2 p e s m below meth c _ _ _ _ _ X I hn.1 hn.2 (lv_sub hl [] rfl)
    · refine lv_icmp_ge (tgt := 29) hx hb dX4_costAt_17 (by decide) (fun n => absurd n c4) (fun _ => ?_)
      obtain ⟨x3, h5, hf⟩ := s_bind hf
      obtain ⟨x4, h6, hf⟩ := s_bind hf
      cases hf
      have k : _ = r := k
      subst k
      refine lv_aload_n hx hb dX4_costAt_20 rfl (lv_at hl 1 rfl) ?_
      refine r_gr X I fl_X4_27 h5 dX4_costAt_21 ?_
      refine lv_iload_n hx hb dX4_costAt_24 rfl (lv_at hl 0 rfl) ?_
      refine r_iald X I h6 dX4_costAt_25 ?_
      refine lv_goto (tgt := 31) hx hb dX4_costAt_26 (by decide) ?_
      exact r_iret X I rfl rfl rfl hn dX4_costAt_31
set_option maxRecDepth 100000 in
set_option maxHeartbeats 4000000 in
theorem v_X4_costAt_29 {G : sG} {d : Nat} {vs0 : List Value} {σ0 : sS}  {σ : sS} {z : sZ Int32} {r : Int32 × sS} (hf : T_X4_costAt_29  σ = some z) (k : s_K G (d + 1) M_X4_costAt vs0 σ0 Y_X4_costAt e_I z r) : s_V G (d + 1) M_X4_costAt vs0 σ0 Y_X4_costAt (29, [], σ) (e_I r) := by
  have le0 : s_le σ (e_I r).2 := s_lek hem_I (l_X4_costAt_29 hf) k
  refine ⟨le0, ?_⟩
  intro p e s m below meth c H locs cells slots ls X I hn1 hn2 hl
  have hn : cells + σ0.2.1 ≤ σ.2.1 ∧ slots + σ0.2.2.1 ≤ σ.2.2.1 := ⟨hn1, hn2⟩
  have hl : lv_has ls 4 [] := hl
  have hx := X.1
  have hb : c.code = cX4_costAt := X.2.1
  have hown : s.vm.findClass RX4 = some m.cls := X.2.2.2.2.2.1
  have hts := X.2.2.2.2.2.2.1
  refine W.eq (g2 := F0 m 29 ls []) rfl ?_
  unfold T_X4_costAt_29 at hf
  cases hf
  have k : _ = r := k
  subst k
  refine lv_ldc (own := RX4) hx hb hown (hts _ w_1349) dX4_costAt_29 ?_
  exact r_iret X I rfl rfl rfl hn dX4_costAt_31
theorem v_X4_costAt {G : sG} {d : Nat} {vs0 : List Value} {σ0 : sS} {x : sL} {z : sZ Int32} {r : Int32 × sS} (hs : S_X4_costAt x = some z) (k : s_K G (d + 1) M_X4_costAt vs0 σ0 Y_X4_costAt e_I z r) : s_V G (d + 1) M_X4_costAt vs0 σ0 Y_X4_costAt x (e_I r) := by
  obtain ⟨pc, vs, σ⟩ := x
  unfold S_X4_costAt at hs
  dsimp only at hs
  rcases s_ite hs with ⟨c, hs⟩ | ⟨-, hs⟩
  · subst c
    unfold U_X4_costAt_0 at hs
    obtain ⟨a0, g0, hs⟩ := s_bind hs
    obtain ⟨a1, g1, hs⟩ := s_bind hs
    obtain ⟨a2, g2, hs⟩ := s_bind hs
    obtain ⟨u9, ge, hs⟩ := s_bind hs
    rw [g_r_to g0, g_i_to g1, g_i_to g2, g_e_to ge]
    exact v_X4_costAt_0 hs k
  rcases s_ite hs with ⟨c, hs⟩ | ⟨-, hs⟩
  · subst c
    unfold U_X4_costAt_29 at hs
    obtain ⟨u9, ge, hs⟩ := s_bind hs
    rw [g_e_to ge]
    exact v_X4_costAt_29 hs k
  cases hs
theorem t_X4_costAt {G : sG} {d : Nat} {v0 : Nat} {v1 : Int32} {v2 : Int32} {σ : sS} {q : Int32 × sS} (h : F_X4_costAt v0 v1 v2 σ = some q) : s_T G (d + 1) M_X4_costAt [.ref v0, .int v1, .int v2] σ (e_I q) := by
  unfold F_X4_costAt at h
  obtain ⟨-, -, h⟩ := s_bind h
  exact s_ofV rfl (by decide) (Nat.le_of_ble_eq_true rfl) rfl rfl (s_run_ind (V := fun x r => s_V G (d + 1) M_X4_costAt [.ref v0, .int v1, .int v2] σ Y_X4_costAt x (e_I r)) (fun x z r hs hk => v_X4_costAt hs (by cases z <;> exact hk)) h)
/-! X4_limited -/
noncomputable def T_X4_limited_0 (v0 : Int32) (σ : sS) : Option (sZ Int32) :=
  if v0 ≤ 99999 then (some (.inr (v0, σ)))
  else (some (.inr (268435456, σ)))
noncomputable def U_X4_limited_0 (vs : List Value) (σ : sS) : Option (sZ Int32) := (g_i vs).bind fun a0 => (g_e a0.2).bind fun _ => T_X4_limited_0 a0.1 σ
noncomputable def S_X4_limited (x : sL) : Option (sZ Int32) := if x.1 = 0 then U_X4_limited_0 x.2.1 x.2.2 else none
def Y_X4_limited (pc : Nat) : List Nat := if pc = 0 then [0] else []
noncomputable def F_X4_limited (v0 : Int32) (σ : sS) : Option (Int32 × sS) := s_run S_X4_limited (0, [.int v0], σ)
theorem l_X4_limited_0 {v0 : Int32} {σ : sS} {z : sZ Int32} (hf : T_X4_limited_0 v0 σ = some z) : s_lz σ z := by
  unfold T_X4_limited_0 at hf
  rcases s_ite hf with ⟨-, hf⟩ | ⟨-, hf⟩
  · cases hf
    exact s_le.rf
  · cases hf
    exact s_le.rf
theorem l_X4_limited_s {x : sL} {z : sZ Int32} (hs : S_X4_limited x = some z) : s_lz x.2.2 z := by
  obtain ⟨pc, vs, σ⟩ := x
  unfold S_X4_limited at hs
  dsimp only at hs ⊢
  rcases s_ite hs with ⟨c, hs⟩ | ⟨-, hs⟩
  · subst c
    unfold U_X4_limited_0 at hs
    obtain ⟨a0, g0, hs⟩ := s_bind hs
    obtain ⟨u9, ge, hs⟩ := s_bind hs
    exact l_X4_limited_0 hs
  cases hs
theorem l_X4_limited {v0 : Int32} {σ : sS} {q : Int32 × sS} (h : F_X4_limited v0 σ = some q) : s_le σ q.2 := by
  unfold F_X4_limited at h
  exact s_run_ind (V := fun x r => s_le x.2.2 r.2) (fun x z r hs hk => by
    have h9 := l_X4_limited_s hs
    cases z with
    | inl y => exact s_le.tr h9 hk
    | inr q => cases hk; exact h9) h
set_option maxRecDepth 100000 in
set_option maxHeartbeats 4000000 in
theorem v_X4_limited_0 {G : sG} {d : Nat} {vs0 : List Value} {σ0 : sS} {v0 : Int32} {σ : sS} {z : sZ Int32} {r : Int32 × sS} (hf : T_X4_limited_0 v0 σ = some z) (k : s_K G (d + 1) M_X4_limited vs0 σ0 Y_X4_limited e_I z r) : s_V G (d + 1) M_X4_limited vs0 σ0 Y_X4_limited (0, [.int v0], σ) (e_I r) := by
  have le0 : s_le σ (e_I r).2 := s_lek hem_I (l_X4_limited_0 hf) k
  refine ⟨le0, ?_⟩
  intro p e s m below meth c H locs cells slots ls X I hn1 hn2 hl
  have hn : cells + σ0.2.1 ≤ σ.2.1 ∧ slots + σ0.2.2.1 ≤ σ.2.2.1 := ⟨hn1, hn2⟩
  have hl : lv_has ls 1 [(0, .int v0)] := hl
  have hx := X.1
  have hb : c.code = cX4_limited := X.2.1
  have hown : s.vm.findClass RX4 = some m.cls := X.2.2.2.2.2.1
  have hts := X.2.2.2.2.2.2.1
  refine W.eq (g2 := F0 m 0 ls []) rfl ?_
  unfold T_X4_limited_0 at hf
  refine lv_iload_n hx hb dX4_limited_0 rfl (lv_at hl 0 rfl) ?_
  refine lv_ldc (own := RX4) hx hb hown (hts _ w_1379) dX4_limited_1 ?_
  rcases s_ite hf with ⟨c1, hf⟩ | ⟨c1, hf⟩
  · refine lv_icmp_le (tgt := 11) hx hb dX4_limited_3 (by decide) (fun _ => ?_) (fun n => absurd c1 n)
    cases hf
    have k : _ = r := k
    subst k
    refine lv_iload_n hx hb dX4_limited_11 rfl (lv_at hl 0 rfl) ?_
    exact r_iret X I rfl rfl rfl hn dX4_limited_12
  · refine lv_icmp_le (tgt := 11) hx hb dX4_limited_3 (by decide) (fun n => absurd n c1) (fun _ => ?_)
    cases hf
    have k : _ = r := k
    subst k
    refine lv_ldc (own := RX4) hx hb hown (hts _ w_1349) dX4_limited_6 ?_
    refine lv_goto (tgt := 12) hx hb dX4_limited_8 (by decide) ?_
    exact r_iret X I rfl rfl rfl hn dX4_limited_12
theorem v_X4_limited {G : sG} {d : Nat} {vs0 : List Value} {σ0 : sS} {x : sL} {z : sZ Int32} {r : Int32 × sS} (hs : S_X4_limited x = some z) (k : s_K G (d + 1) M_X4_limited vs0 σ0 Y_X4_limited e_I z r) : s_V G (d + 1) M_X4_limited vs0 σ0 Y_X4_limited x (e_I r) := by
  obtain ⟨pc, vs, σ⟩ := x
  unfold S_X4_limited at hs
  dsimp only at hs
  rcases s_ite hs with ⟨c, hs⟩ | ⟨-, hs⟩
  · subst c
    unfold U_X4_limited_0 at hs
    obtain ⟨a0, g0, hs⟩ := s_bind hs
    obtain ⟨u9, ge, hs⟩ := s_bind hs
    rw [g_i_to g0, g_e_to ge]
    exact v_X4_limited_0 hs k
  cases hs
theorem t_X4_limited {G : sG} {d : Nat} {v0 : Int32} {σ : sS} {q : Int32 × sS} (h : F_X4_limited v0 σ = some q) : s_T G (d + 1) M_X4_limited [.int v0] σ (e_I q) := by
  unfold F_X4_limited at h
  exact s_ofV rfl (by decide) (Nat.le_of_ble_eq_true rfl) rfl rfl (s_run_ind (V := fun x r => s_V G (d + 1) M_X4_limited [.int v0] σ Y_X4_limited x (e_I r)) (fun x z r hs hk => v_X4_limited hs (by cases z <;> exact hk)) h)
/-! X4_costOfGiven -/
noncomputable def T_X4_costOfGiven_0 (v0 : Nat) (v1 : Int32) (v2 : Int32) (v3 : Int32) (v4 : Int32) (σ : sS) : Option (sZ Int32) :=
  if v4 < 0 then (some (.inl (25, [], σ)))
  else ((s_fi σ v0 4 9).bind fun x1 =>
  if x1 ≤ v4 then (some (.inl (25, [], σ)))
  else ((s_fr σ v0 4 4).bind fun x2 =>
  (s_ai σ x2 1).bind fun x3 =>
  if x3 = 268435456 then (some (.inl (25, [], σ)))
  else ((s_fr σ v0 4 5).bind fun x4 =>
  (s_ai σ x4 v4).bind fun x5 =>
  (F_X4_lineCost v0 1 x5 σ).bind fun q6 =>
  (F_X4_costAt v0 (v1 ||| (1 <<< (v4 &&& 31))) v3 q6.2).bind fun q7 =>
  (F_X4_limited ((v2 + q6.1) + q7.1) q7.2).bind fun q8 =>
  some (.inr (q8.1, q8.2)))))
noncomputable def U_X4_costOfGiven_0 (vs : List Value) (σ : sS) : Option (sZ Int32) := (g_r vs).bind fun a0 => (g_i a0.2).bind fun a1 => (g_i a1.2).bind fun a2 => (g_i a2.2).bind fun a3 => (g_i a3.2).bind fun a4 => (g_e a4.2).bind fun _ => T_X4_costOfGiven_0 a0.1 a1.1 a2.1 a3.1 a4.1 σ
noncomputable def T_X4_costOfGiven_25  (σ : sS) : Option (sZ Int32) :=
  some (.inr (268435456, σ))
noncomputable def U_X4_costOfGiven_25 (vs : List Value) (σ : sS) : Option (sZ Int32) := (g_e vs).bind fun _ => T_X4_costOfGiven_25  σ
noncomputable def S_X4_costOfGiven (x : sL) : Option (sZ Int32) := if x.1 = 0 then U_X4_costOfGiven_0 x.2.1 x.2.2 else if x.1 = 25 then U_X4_costOfGiven_25 x.2.1 x.2.2 else none
def Y_X4_costOfGiven (pc : Nat) : List Nat := if pc = 0 then [0, 1, 2, 3, 4] else if pc = 25 then [] else []
noncomputable def F_X4_costOfGiven (v0 : Nat) (v1 : Int32) (v2 : Int32) (v3 : Int32) (v4 : Int32) (σ : sS) : Option (Int32 × sS) := (s_is σ v0 4).bind fun _ => s_run S_X4_costOfGiven (0, [.ref v0, .int v1, .int v2, .int v3, .int v4], σ)
theorem l_X4_costOfGiven_0 {v0 : Nat} {v1 : Int32} {v2 : Int32} {v3 : Int32} {v4 : Int32} {σ : sS} {z : sZ Int32} (hf : T_X4_costOfGiven_0 v0 v1 v2 v3 v4 σ = some z) : s_lz σ z := by
  unfold T_X4_costOfGiven_0 at hf
  rcases s_ite hf with ⟨-, hf⟩ | ⟨-, hf⟩
  · cases hf
    exact s_le.rf
  · obtain ⟨x1, -, hf⟩ := s_bind hf
    rcases s_ite hf with ⟨-, hf⟩ | ⟨-, hf⟩
    · cases hf
      exact s_le.rf
    · obtain ⟨x2, -, hf⟩ := s_bind hf
      obtain ⟨x3, -, hf⟩ := s_bind hf
      rcases s_ite hf with ⟨-, hf⟩ | ⟨-, hf⟩
      · cases hf
        exact s_le.rf
      · obtain ⟨x4, -, hf⟩ := s_bind hf
        obtain ⟨x5, -, hf⟩ := s_bind hf
        obtain ⟨q6, hh, hf⟩ := s_bind hf
        refine s_lz.tr (l_X4_lineCost hh) ?_
        obtain ⟨q7, hh, hf⟩ := s_bind hf
        refine s_lz.tr (l_X4_costAt hh) ?_
        obtain ⟨q8, hh, hf⟩ := s_bind hf
        refine s_lz.tr (l_X4_limited hh) ?_
        cases hf
        exact s_le.rf
theorem l_X4_costOfGiven_25  {σ : sS} {z : sZ Int32} (hf : T_X4_costOfGiven_25  σ = some z) : s_lz σ z := by
  unfold T_X4_costOfGiven_25 at hf
  cases hf
  exact s_le.rf
theorem l_X4_costOfGiven_s {x : sL} {z : sZ Int32} (hs : S_X4_costOfGiven x = some z) : s_lz x.2.2 z := by
  obtain ⟨pc, vs, σ⟩ := x
  unfold S_X4_costOfGiven at hs
  dsimp only at hs ⊢
  rcases s_ite hs with ⟨c, hs⟩ | ⟨-, hs⟩
  · subst c
    unfold U_X4_costOfGiven_0 at hs
    obtain ⟨a0, g0, hs⟩ := s_bind hs
    obtain ⟨a1, g1, hs⟩ := s_bind hs
    obtain ⟨a2, g2, hs⟩ := s_bind hs
    obtain ⟨a3, g3, hs⟩ := s_bind hs
    obtain ⟨a4, g4, hs⟩ := s_bind hs
    obtain ⟨u9, ge, hs⟩ := s_bind hs
    exact l_X4_costOfGiven_0 hs
  rcases s_ite hs with ⟨c, hs⟩ | ⟨-, hs⟩
  · subst c
    unfold U_X4_costOfGiven_25 at hs
    obtain ⟨u9, ge, hs⟩ := s_bind hs
    exact l_X4_costOfGiven_25 hs
  cases hs
theorem l_X4_costOfGiven {v0 : Nat} {v1 : Int32} {v2 : Int32} {v3 : Int32} {v4 : Int32} {σ : sS} {q : Int32 × sS} (h : F_X4_costOfGiven v0 v1 v2 v3 v4 σ = some q) : s_le σ q.2 := by
  unfold F_X4_costOfGiven at h
  obtain ⟨-, -, h⟩ := s_bind h
  exact s_run_ind (V := fun x r => s_le x.2.2 r.2) (fun x z r hs hk => by
    have h9 := l_X4_costOfGiven_s hs
    cases z with
    | inl y => exact s_le.tr h9 hk
    | inr q => cases hk; exact h9) h
theorem b_X4_costOfGiven {v0 : Nat} {v1 : Int32} {v2 : Int32} {v3 : Int32} {v4 : Int32} {σ : sS} {q : Int32 × sS} (h : F_X4_costOfGiven v0 v1 v2 v3 v4 σ = some q) : ∃ fs, σ.1 v0 = some (.inr (4, fs)) := by
  unfold F_X4_costOfGiven at h
  obtain ⟨u, hu, -⟩ := s_bind h
  exact s_is_to hu
set_option maxRecDepth 100000 in
set_option maxHeartbeats 4000000 in
theorem v_X4_costOfGiven_0 {G : sG} {d : Nat} {vs0 : List Value} {σ0 : sS} {v0 : Nat} {v1 : Int32} {v2 : Int32} {v3 : Int32} {v4 : Int32} {σ : sS} {z : sZ Int32} {r : Int32 × sS} (hf : T_X4_costOfGiven_0 v0 v1 v2 v3 v4 σ = some z) (k : s_K G (d + 2) M_X4_costOfGiven vs0 σ0 Y_X4_costOfGiven e_I z r) : s_V G (d + 2) M_X4_costOfGiven vs0 σ0 Y_X4_costOfGiven (0, [.ref v0, .int v1, .int v2, .int v3, .int v4], σ) (e_I r) := by
  have le0 : s_le σ (e_I r).2 := s_lek hem_I (l_X4_costOfGiven_0 hf) k
  refine ⟨le0, ?_⟩
  intro p e s m below meth c H locs cells slots ls X I hn1 hn2 hl
  have hn : cells + σ0.2.1 ≤ σ.2.1 ∧ slots + σ0.2.2.1 ≤ σ.2.2.1 := ⟨hn1, hn2⟩
  have hl : lv_has ls 5 [(0, .ref v0), (1, .int v1), (2, .int v2), (3, .int v3), (4, .int v4)] := hl
  have hx := X.1
  have hb : c.code = cX4_costOfGiven := X.2.1
  have hown : s.vm.findClass RX4 = some m.cls := X.2.2.2.2.2.1
  have hts := X.2.2.2.2.2.2.1
  refine W.eq (g2 := F0 m 0 ls []) rfl ?_
  unfold T_X4_costOfGiven_0 at hf
  refine lv_iload hx hb dX4_costOfGiven_0 (lv_at hl 4 rfl) ?_
  rcases s_ite hf with ⟨c1, hf⟩ | ⟨c1, hf⟩
  · refine lv_if_lt (tgt := 25) hx hb dX4_costOfGiven_2 (by decide) (fun _ => ?_) (fun n => absurd c1 n)
    cases hf
    have k : s_V G (d + 2) M_X4_costOfGiven vs0 σ0 Y_X4_costOfGiven (25, [], σ) (e_I r) := k
    exact k.2 p e s m below meth c _ _ _ _ _ X I hn.1 hn.2 (lv_sub hl [] rfl)
  · refine lv_if_lt (tgt := 25) hx hb dX4_costOfGiven_2 (by decide) (fun n => absurd n c1) (fun _ => ?_)
    obtain ⟨x1, h2, hf⟩ := s_bind hf
    refine lv_iload hx hb dX4_costOfGiven_5 (lv_at hl 4 rfl) ?_
    refine lv_aload_n hx hb dX4_costOfGiven_7 rfl (lv_at hl 0 rfl) ?_
    refine r_gi X I fl_X4_51 h2 dX4_costOfGiven_8 ?_
    rcases s_ite hf with ⟨c3, hf⟩ | ⟨c3, hf⟩
    · refine lv_icmp_ge (tgt := 25) hx hb dX4_costOfGiven_11 (by decide) (fun _ => ?_) (fun n => absurd c3 n)
      cases hf
      have k : s_V G (d + 2) M_X4_costOfGiven vs0 σ0 Y_X4_costOfGiven (25, [], σ) (e_I r) := k
      exact k.2 p e s m below meth c _ _ _ _ _ X I hn.1 hn.2 (lv_sub hl [] rfl)
    · refine lv_icmp_ge (tgt := 25) hx hb dX4_costOfGiven_11 (by decide) (fun n => absurd n c3) (fun _ => ?_)
      obtain ⟨x2, h4, hf⟩ := s_bind hf
      obtain ⟨x3, h5, hf⟩ := s_bind hf
      refine lv_aload_n hx hb dX4_costOfGiven_14 rfl (lv_at hl 0 rfl) ?_
      refine r_gr X I fl_X4_18 h4 dX4_costOfGiven_15 ?_
      refine lv_iconst (v := 1) hx hb dX4_costOfGiven_18 (by decide) ?_
      refine r_iald X I h5 dX4_costOfGiven_19 ?_
      refine lv_ldc (own := RX4) hx hb hown (hts _ w_1349) dX4_costOfGiven_20 ?_
      rcases s_ite hf with ⟨c6, hf⟩ | ⟨c6, hf⟩
      · refine lv_icmp_ne (tgt := 28) hx hb dX4_costOfGiven_22 (by decide) (fun n => absurd c6 n) (fun _ => ?_)
        cases hf
        have k : s_V G (d + 2) M_X4_costOfGiven vs0 σ0 Y_X4_costOfGiven (25, [], σ) (e_I r) := k
        exact k.2 p e s m below meth c _ _ _ _ _ X I hn.1 hn.2 (lv_sub hl [] rfl)
      · refine lv_icmp_ne (tgt := 28) hx hb dX4_costOfGiven_22 (by decide) (fun _ => ?_) (fun n => absurd n c6)
        obtain ⟨x4, h7, hf⟩ := s_bind hf
        obtain ⟨x5, h8, hf⟩ := s_bind hf
        obtain ⟨q6, h9, hf⟩ := s_bind hf
        obtain ⟨q7, h10, hf⟩ := s_bind hf
        obtain ⟨q8, h11, hf⟩ := s_bind hf
        cases hf
        have k : _ = r := k
        subst k
        have le12 : s_le q8.2 q8.2 := s_le.rf
        have le13 := s_le.tr (l_X4_limited h11) le12
        have le14 := s_le.tr (l_X4_costAt h10) le13
        refine lv_iload_n hx hb dX4_costOfGiven_28 rfl (lv_at hl 2 rfl) ?_
        refine lv_aload_n hx hb dX4_costOfGiven_29 rfl (lv_at hl 0 rfl) ?_
        refine lv_iconst (v := 1) hx hb dX4_costOfGiven_30 (by decide) ?_
        refine lv_aload_n hx hb dX4_costOfGiven_31 rfl (lv_at hl 0 rfl) ?_
        refine r_gr X I fl_X4_21 h7 dX4_costOfGiven_32 ?_
        refine lv_iload hx hb dX4_costOfGiven_35 (lv_at hl 4 rfl) ?_
        refine r_iald X I h8 dX4_costOfGiven_37 ?_
        refine r_callV (Y := M_X4_lineCost) (v := some (.int q6.1)) X I w_1359 my_X4_lineCost (by omega) (t_X4_lineCost (G := G) (d := d + 0) h9) (b_X4_lineCost h9) rfl rfl hl.1 rfl (Nat.le_of_ble_eq_true rfl) hn le14 dX4_costOfGiven_38 (fun H locs cells slots I hn1 hn2 => ?_)
        have I : s_I G q6.2 s H locs := I
        have hn : cells + σ0.2.1 ≤ q6.2.2.1 ∧ slots + σ0.2.2.1 ≤ q6.2.2.2.1 := ⟨hn1, hn2⟩
        refine lv_iadd hx hb dX4_costOfGiven_41 ?_
        refine lv_aload_n hx hb dX4_costOfGiven_42 rfl (lv_at hl 0 rfl) ?_
        refine lv_iload_n hx hb dX4_costOfGiven_43 rfl (lv_at hl 1 rfl) ?_
        refine lv_iconst (v := 1) hx hb dX4_costOfGiven_44 (by decide) ?_
        refine lv_iload hx hb dX4_costOfGiven_45 (lv_at hl 4 rfl) ?_
        refine lv_ishl hx hb dX4_costOfGiven_47 ?_
        refine lv_ior hx hb dX4_costOfGiven_48 ?_
        refine lv_iload_n hx hb dX4_costOfGiven_49 rfl (lv_at hl 3 rfl) ?_
        refine r_callV (Y := M_X4_costAt) (v := some (.int q7.1)) X I w_1372 my_X4_costAt (by omega) (t_X4_costAt (G := G) (d := d + 0) h10) (b_X4_costAt h10) rfl rfl hl.1 rfl (Nat.le_of_ble_eq_true rfl) hn le13 dX4_costOfGiven_50 (fun H locs cells slots I hn1 hn2 => ?_)
        have I : s_I G q7.2 s H locs := I
        have hn : cells + σ0.2.1 ≤ q7.2.2.1 ∧ slots + σ0.2.2.1 ≤ q7.2.2.2.1 := ⟨hn1, hn2⟩
        refine lv_iadd hx hb dX4_costOfGiven_53 ?_
        refine r_callS (Y := M_X4_limited) (v := some (.int q8.1)) X I w_1376 my_X4_limited (by omega) (t_X4_limited (G := G) (d := d + 0) h11) rfl rfl hl.1 rfl (Nat.le_of_ble_eq_true rfl) hn le12 dX4_costOfGiven_54 (fun H locs cells slots I hn1 hn2 => ?_)
        have I : s_I G q8.2 s H locs := I
        have hn : cells + σ0.2.1 ≤ q8.2.2.1 ∧ slots + σ0.2.2.1 ≤ q8.2.2.2.1 := ⟨hn1, hn2⟩
        exact r_iret X I rfl rfl rfl hn dX4_costOfGiven_57
set_option maxRecDepth 100000 in
set_option maxHeartbeats 4000000 in
theorem v_X4_costOfGiven_25 {G : sG} {d : Nat} {vs0 : List Value} {σ0 : sS}  {σ : sS} {z : sZ Int32} {r : Int32 × sS} (hf : T_X4_costOfGiven_25  σ = some z) (k : s_K G (d + 2) M_X4_costOfGiven vs0 σ0 Y_X4_costOfGiven e_I z r) : s_V G (d + 2) M_X4_costOfGiven vs0 σ0 Y_X4_costOfGiven (25, [], σ) (e_I r) := by
  have le0 : s_le σ (e_I r).2 := s_lek hem_I (l_X4_costOfGiven_25 hf) k
  refine ⟨le0, ?_⟩
  intro p e s m below meth c H locs cells slots ls X I hn1 hn2 hl
  have hn : cells + σ0.2.1 ≤ σ.2.1 ∧ slots + σ0.2.2.1 ≤ σ.2.2.1 := ⟨hn1, hn2⟩
  have hl : lv_has ls 5 [] := hl
  have hx := X.1
  have hb : c.code = cX4_costOfGiven := X.2.1
  have hown : s.vm.findClass RX4 = some m.cls := X.2.2.2.2.2.1
  have hts := X.2.2.2.2.2.2.1
  refine W.eq (g2 := F0 m 25 ls []) rfl ?_
  unfold T_X4_costOfGiven_25 at hf
  cases hf
  have k : _ = r := k
  subst k
  refine lv_ldc (own := RX4) hx hb hown (hts _ w_1349) dX4_costOfGiven_25 ?_
  exact r_iret X I rfl rfl rfl hn dX4_costOfGiven_27
theorem v_X4_costOfGiven {G : sG} {d : Nat} {vs0 : List Value} {σ0 : sS} {x : sL} {z : sZ Int32} {r : Int32 × sS} (hs : S_X4_costOfGiven x = some z) (k : s_K G (d + 2) M_X4_costOfGiven vs0 σ0 Y_X4_costOfGiven e_I z r) : s_V G (d + 2) M_X4_costOfGiven vs0 σ0 Y_X4_costOfGiven x (e_I r) := by
  obtain ⟨pc, vs, σ⟩ := x
  unfold S_X4_costOfGiven at hs
  dsimp only at hs
  rcases s_ite hs with ⟨c, hs⟩ | ⟨-, hs⟩
  · subst c
    unfold U_X4_costOfGiven_0 at hs
    obtain ⟨a0, g0, hs⟩ := s_bind hs
    obtain ⟨a1, g1, hs⟩ := s_bind hs
    obtain ⟨a2, g2, hs⟩ := s_bind hs
    obtain ⟨a3, g3, hs⟩ := s_bind hs
    obtain ⟨a4, g4, hs⟩ := s_bind hs
    obtain ⟨u9, ge, hs⟩ := s_bind hs
    rw [g_r_to g0, g_i_to g1, g_i_to g2, g_i_to g3, g_i_to g4, g_e_to ge]
    exact v_X4_costOfGiven_0 hs k
  rcases s_ite hs with ⟨c, hs⟩ | ⟨-, hs⟩
  · subst c
    unfold U_X4_costOfGiven_25 at hs
    obtain ⟨u9, ge, hs⟩ := s_bind hs
    rw [g_e_to ge]
    exact v_X4_costOfGiven_25 hs k
  cases hs
theorem t_X4_costOfGiven {G : sG} {d : Nat} {v0 : Nat} {v1 : Int32} {v2 : Int32} {v3 : Int32} {v4 : Int32} {σ : sS} {q : Int32 × sS} (h : F_X4_costOfGiven v0 v1 v2 v3 v4 σ = some q) : s_T G (d + 2) M_X4_costOfGiven [.ref v0, .int v1, .int v2, .int v3, .int v4] σ (e_I q) := by
  unfold F_X4_costOfGiven at h
  obtain ⟨-, -, h⟩ := s_bind h
  exact s_ofV rfl (by decide) (Nat.le_of_ble_eq_true rfl) rfl rfl (s_run_ind (V := fun x r => s_V G (d + 2) M_X4_costOfGiven [.ref v0, .int v1, .int v2, .int v3, .int v4] σ Y_X4_costOfGiven x (e_I r)) (fun x z r hs hk => v_X4_costOfGiven hs (by cases z <;> exact hk)) h)
/-! X4_costOfStep -/
noncomputable def T_X4_costOfStep_0 (v0 : Nat) (v1 : Int32) (v2 : Int32) (σ : sS) : Option (sZ Int32) :=
  (s_fr σ v0 4 6).bind fun x1 =>
  (s_ai σ x1 (v2 * 5)).bind fun x2 =>
  (s_fr σ v0 4 6).bind fun x3 =>
  (s_ai σ x3 ((v2 * 5) + 1)).bind fun x4 =>
  (F_X4_lineCost v0 x2 x4 σ).bind fun q5 =>
  if q5.1 = 268435456 then (some (.inr (268435456, q5.2)))
  else (if x2 = 10 then ((s_fr q5.2 v0 4 6).bind fun x6 =>
  (s_ai q5.2 x6 ((v2 * 5) + 2)).bind fun x7 =>
  (s_fr q5.2 v0 4 6).bind fun x8 =>
  (s_ai q5.2 x8 ((v2 * 5) + 3)).bind fun x9 =>
  (F_X4_costOfGiven v0 v1 q5.1 x7 x9 q5.2).bind fun q10 =>
  some (.inr (q10.1, q10.2)))
  else (some (.inl (76, [.ref v0, .int v1, .int (v2 * 5), .int q5.1, .int 2], q5.2))))
noncomputable def U_X4_costOfStep_0 (vs : List Value) (σ : sS) : Option (sZ Int32) := (g_r vs).bind fun a0 => (g_i a0.2).bind fun a1 => (g_i a1.2).bind fun a2 => (g_e a2.2).bind fun _ => T_X4_costOfStep_0 a0.1 a1.1 a2.1 σ
noncomputable def T_X4_costOfStep_76 (v0 : Nat) (v1 : Int32) (v3 : Int32) (v6 : Int32) (v7 : Int32) (σ : sS) : Option (sZ Int32) :=
  if (5 : Int32) ≤ v7 then ((F_X4_limited v6 σ).bind fun q1 =>
  some (.inr (q1.1, q1.2)))
  else ((s_fr σ v0 4 6).bind fun x2 =>
  (s_ai σ x2 (v3 + v7)).bind fun x3 =>
  if x3 = (-1) then (some (.inl (114, [.ref v0, .int v1, .int v3, .int v6, .int v7], σ)))
  else ((s_fr σ v0 4 6).bind fun x4 =>
  (s_ai σ x4 (v3 + v7)).bind fun x5 =>
  (F_X4_costAt v0 v1 x5 σ).bind fun q6 =>
  some (.inl (114, [.ref v0, .int v1, .int v3, .int (v6 + q6.1), .int v7], q6.2))))
noncomputable def U_X4_costOfStep_76 (vs : List Value) (σ : sS) : Option (sZ Int32) := (g_r vs).bind fun a0 => (g_i a0.2).bind fun a1 => (g_i a1.2).bind fun a2 => (g_i a2.2).bind fun a3 => (g_i a3.2).bind fun a4 => (g_e a4.2).bind fun _ => T_X4_costOfStep_76 a0.1 a1.1 a2.1 a3.1 a4.1 σ
noncomputable def T_X4_costOfStep_114 (v0 : Nat) (v1 : Int32) (v3 : Int32) (v6 : Int32) (v7 : Int32) (σ : sS) : Option (sZ Int32) :=
  some (.inl (76, [.ref v0, .int v1, .int v3, .int v6, .int (v7 + 1)], σ))
noncomputable def U_X4_costOfStep_114 (vs : List Value) (σ : sS) : Option (sZ Int32) := (g_r vs).bind fun a0 => (g_i a0.2).bind fun a1 => (g_i a1.2).bind fun a2 => (g_i a2.2).bind fun a3 => (g_i a3.2).bind fun a4 => (g_e a4.2).bind fun _ => T_X4_costOfStep_114 a0.1 a1.1 a2.1 a3.1 a4.1 σ
noncomputable def S_X4_costOfStep (x : sL) : Option (sZ Int32) := if x.1 = 0 then U_X4_costOfStep_0 x.2.1 x.2.2 else if x.1 = 76 then U_X4_costOfStep_76 x.2.1 x.2.2 else if x.1 = 114 then U_X4_costOfStep_114 x.2.1 x.2.2 else none
def Y_X4_costOfStep (pc : Nat) : List Nat := if pc = 0 then [0, 1, 2] else if pc = 76 then [0, 1, 3, 6, 7] else if pc = 114 then [0, 1, 3, 6, 7] else []
noncomputable def F_X4_costOfStep (v0 : Nat) (v1 : Int32) (v2 : Int32) (σ : sS) : Option (Int32 × sS) := (s_is σ v0 4).bind fun _ => s_run S_X4_costOfStep (0, [.ref v0, .int v1, .int v2], σ)
theorem l_X4_costOfStep_0 {v0 : Nat} {v1 : Int32} {v2 : Int32} {σ : sS} {z : sZ Int32} (hf : T_X4_costOfStep_0 v0 v1 v2 σ = some z) : s_lz σ z := by
  unfold T_X4_costOfStep_0 at hf
  obtain ⟨x1, -, hf⟩ := s_bind hf
  obtain ⟨x2, -, hf⟩ := s_bind hf
  obtain ⟨x3, -, hf⟩ := s_bind hf
  obtain ⟨x4, -, hf⟩ := s_bind hf
  obtain ⟨q5, hh, hf⟩ := s_bind hf
  refine s_lz.tr (l_X4_lineCost hh) ?_
  rcases s_ite hf with ⟨-, hf⟩ | ⟨-, hf⟩
  · cases hf
    exact s_le.rf
  · rcases s_ite hf with ⟨-, hf⟩ | ⟨-, hf⟩
    · obtain ⟨x6, -, hf⟩ := s_bind hf
      obtain ⟨x7, -, hf⟩ := s_bind hf
      obtain ⟨x8, -, hf⟩ := s_bind hf
      obtain ⟨x9, -, hf⟩ := s_bind hf
      obtain ⟨q10, hh, hf⟩ := s_bind hf
      refine s_lz.tr (l_X4_costOfGiven hh) ?_
      cases hf
      exact s_le.rf
    · cases hf
      exact s_le.rf
theorem l_X4_costOfStep_76 {v0 : Nat} {v1 : Int32} {v3 : Int32} {v6 : Int32} {v7 : Int32} {σ : sS} {z : sZ Int32} (hf : T_X4_costOfStep_76 v0 v1 v3 v6 v7 σ = some z) : s_lz σ z := by
  unfold T_X4_costOfStep_76 at hf
  rcases s_ite hf with ⟨-, hf⟩ | ⟨-, hf⟩
  · obtain ⟨q1, hh, hf⟩ := s_bind hf
    refine s_lz.tr (l_X4_limited hh) ?_
    cases hf
    exact s_le.rf
  · obtain ⟨x2, -, hf⟩ := s_bind hf
    obtain ⟨x3, -, hf⟩ := s_bind hf
    rcases s_ite hf with ⟨-, hf⟩ | ⟨-, hf⟩
    · cases hf
      exact s_le.rf
    · obtain ⟨x4, -, hf⟩ := s_bind hf
      obtain ⟨x5, -, hf⟩ := s_bind hf
      obtain ⟨q6, hh, hf⟩ := s_bind hf
      refine s_lz.tr (l_X4_costAt hh) ?_
      cases hf
      exact s_le.rf
theorem l_X4_costOfStep_114 {v0 : Nat} {v1 : Int32} {v3 : Int32} {v6 : Int32} {v7 : Int32} {σ : sS} {z : sZ Int32} (hf : T_X4_costOfStep_114 v0 v1 v3 v6 v7 σ = some z) : s_lz σ z := by
  unfold T_X4_costOfStep_114 at hf
  cases hf
  exact s_le.rf
theorem l_X4_costOfStep_s {x : sL} {z : sZ Int32} (hs : S_X4_costOfStep x = some z) : s_lz x.2.2 z := by
  obtain ⟨pc, vs, σ⟩ := x
  unfold S_X4_costOfStep at hs
  dsimp only at hs ⊢
  rcases s_ite hs with ⟨c, hs⟩ | ⟨-, hs⟩
  · subst c
    unfold U_X4_costOfStep_0 at hs
    obtain ⟨a0, g0, hs⟩ := s_bind hs
    obtain ⟨a1, g1, hs⟩ := s_bind hs
    obtain ⟨a2, g2, hs⟩ := s_bind hs
    obtain ⟨u9, ge, hs⟩ := s_bind hs
    exact l_X4_costOfStep_0 hs
  rcases s_ite hs with ⟨c, hs⟩ | ⟨-, hs⟩
  · subst c
    unfold U_X4_costOfStep_76 at hs
    obtain ⟨a0, g0, hs⟩ := s_bind hs
    obtain ⟨a1, g1, hs⟩ := s_bind hs
    obtain ⟨a2, g2, hs⟩ := s_bind hs
    obtain ⟨a3, g3, hs⟩ := s_bind hs
    obtain ⟨a4, g4, hs⟩ := s_bind hs
    obtain ⟨u9, ge, hs⟩ := s_bind hs
    exact l_X4_costOfStep_76 hs
  rcases s_ite hs with ⟨c, hs⟩ | ⟨-, hs⟩
  · subst c
    unfold U_X4_costOfStep_114 at hs
    obtain ⟨a0, g0, hs⟩ := s_bind hs
    obtain ⟨a1, g1, hs⟩ := s_bind hs
    obtain ⟨a2, g2, hs⟩ := s_bind hs
    obtain ⟨a3, g3, hs⟩ := s_bind hs
    obtain ⟨a4, g4, hs⟩ := s_bind hs
    obtain ⟨u9, ge, hs⟩ := s_bind hs
    exact l_X4_costOfStep_114 hs
  cases hs
theorem l_X4_costOfStep {v0 : Nat} {v1 : Int32} {v2 : Int32} {σ : sS} {q : Int32 × sS} (h : F_X4_costOfStep v0 v1 v2 σ = some q) : s_le σ q.2 := by
  unfold F_X4_costOfStep at h
  obtain ⟨-, -, h⟩ := s_bind h
  exact s_run_ind (V := fun x r => s_le x.2.2 r.2) (fun x z r hs hk => by
    have h9 := l_X4_costOfStep_s hs
    cases z with
    | inl y => exact s_le.tr h9 hk
    | inr q => cases hk; exact h9) h
theorem b_X4_costOfStep {v0 : Nat} {v1 : Int32} {v2 : Int32} {σ : sS} {q : Int32 × sS} (h : F_X4_costOfStep v0 v1 v2 σ = some q) : ∃ fs, σ.1 v0 = some (.inr (4, fs)) := by
  unfold F_X4_costOfStep at h
  obtain ⟨u, hu, -⟩ := s_bind h
  exact s_is_to hu
set_option maxRecDepth 100000 in
set_option maxHeartbeats 4000000 in
theorem v_X4_costOfStep_0 {G : sG} {d : Nat} {vs0 : List Value} {σ0 : sS} {v0 : Nat} {v1 : Int32} {v2 : Int32} {σ : sS} {z : sZ Int32} {r : Int32 × sS} (hf : T_X4_costOfStep_0 v0 v1 v2 σ = some z) (k : s_K G (d + 3) M_X4_costOfStep vs0 σ0 Y_X4_costOfStep e_I z r) : s_V G (d + 3) M_X4_costOfStep vs0 σ0 Y_X4_costOfStep (0, [.ref v0, .int v1, .int v2], σ) (e_I r) := by
  have le0 : s_le σ (e_I r).2 := s_lek hem_I (l_X4_costOfStep_0 hf) k
  refine ⟨le0, ?_⟩
  intro p e s m below meth c H locs cells slots ls X I hn1 hn2 hl
  have hn : cells + σ0.2.1 ≤ σ.2.1 ∧ slots + σ0.2.2.1 ≤ σ.2.2.1 := ⟨hn1, hn2⟩
  have hl : lv_has ls 8 [(0, .ref v0), (1, .int v1), (2, .int v2)] := hl
  have hx := X.1
  have hb : c.code = cX4_costOfStep := X.2.1
  have hown : s.vm.findClass RX4 = some m.cls := X.2.2.2.2.2.1
  have hts := X.2.2.2.2.2.2.1
  refine W.eq (g2 := F0 m 0 ls []) rfl ?_
  unfold T_X4_costOfStep_0 at hf
  obtain ⟨x1, h1, hf⟩ := s_bind hf
  obtain ⟨x2, h2, hf⟩ := s_bind hf
  obtain ⟨x3, h3, hf⟩ := s_bind hf
  obtain ⟨x4, h4, hf⟩ := s_bind hf
  obtain ⟨q5, h5, hf⟩ := s_bind hf
  have le6 : s_le q5.2 (e_I r).2 := by
    refine s_lek hem_I ?_ k
    rcases s_ite hf with ⟨-, hf⟩ | ⟨-, hf⟩
    · cases hf
      exact s_le.rf
    · rcases s_ite hf with ⟨-, hf⟩ | ⟨-, hf⟩
      · obtain ⟨x6, -, hf⟩ := s_bind hf
        obtain ⟨x7, -, hf⟩ := s_bind hf
        obtain ⟨x8, -, hf⟩ := s_bind hf
        obtain ⟨x9, -, hf⟩ := s_bind hf
        obtain ⟨q10, hh, hf⟩ := s_bind hf
        refine s_lz.tr (l_X4_costOfGiven hh) ?_
        cases hf
        exact s_le.rf
      · cases hf
        exact s_le.rf
  refine lv_iload_n hx hb dX4_costOfStep_0 rfl (lv_at hl 2 rfl) ?_
  refine lv_iconst (v := 5) hx hb dX4_costOfStep_1 (by decide) ?_
  refine lv_imul hx hb dX4_costOfStep_2 ?_
  refine lv_istore_n (lv' := [(3, .int (v2 * 5)), (0, .ref v0), (1, .int v1), (2, .int v2)]) hx hb dX4_costOfStep_3 rfl hl (by decide) rfl (fun ls hl => ?_)
  refine lv_aload_n hx hb dX4_costOfStep_4 rfl (lv_at hl 1 rfl) ?_
  refine r_gr X I fl_X4_24 h1 dX4_costOfStep_5 ?_
  refine lv_iload_n hx hb dX4_costOfStep_8 rfl (lv_at hl 0 rfl) ?_
  refine r_iald X I h2 dX4_costOfStep_9 ?_
  refine lv_istore (lv' := [(4, .int x2), (3, .int (v2 * 5)), (0, .ref v0), (1, .int v1), (2, .int v2)]) hx hb dX4_costOfStep_10 hl (by decide) rfl (fun ls hl => ?_)
  refine lv_aload_n hx hb dX4_costOfStep_12 rfl (lv_at hl 2 rfl) ?_
  refine lv_iload hx hb dX4_costOfStep_13 (lv_at hl 0 rfl) ?_
  refine lv_aload_n hx hb dX4_costOfStep_15 rfl (lv_at hl 2 rfl) ?_
  refine r_gr X I fl_X4_24 h3 dX4_costOfStep_16 ?_
  refine lv_iload_n hx hb dX4_costOfStep_19 rfl (lv_at hl 1 rfl) ?_
  refine lv_iconst (v := 1) hx hb dX4_costOfStep_20 (by decide) ?_
  refine lv_iadd hx hb dX4_costOfStep_21 ?_
  refine r_iald X I h4 dX4_costOfStep_22 ?_
  refine r_callV (Y := M_X4_lineCost) (v := some (.int q5.1)) X I w_1359 my_X4_lineCost (by omega) (t_X4_lineCost (G := G) (d := d + 1) h5) (b_X4_lineCost h5) rfl rfl hl.1 rfl (Nat.le_of_ble_eq_true rfl) hn le6 dX4_costOfStep_23 (fun H locs cells slots I hn1 hn2 => ?_)
  have I : s_I G q5.2 s H locs := I
  have hn : cells + σ0.2.1 ≤ q5.2.2.1 ∧ slots + σ0.2.2.1 ≤ q5.2.2.2.1 := ⟨hn1, hn2⟩
  refine lv_istore (lv' := [(5, .int q5.1), (4, .int x2), (3, .int (v2 * 5)), (0, .ref v0), (1, .int v1), (2, .int v2)]) hx hb dX4_costOfStep_26 hl (by decide) rfl (fun ls hl => ?_)
  refine lv_iload hx hb dX4_costOfStep_28 (lv_at hl 0 rfl) ?_
  refine lv_ldc (own := RX4) hx hb hown (hts _ w_1349) dX4_costOfStep_30 ?_
  rcases s_ite hf with ⟨c7, hf⟩ | ⟨c7, hf⟩
  · refine lv_icmp_ne (tgt := 38) hx hb dX4_costOfStep_32 (by decide) (fun n => absurd c7 n) (fun _ => ?_)
    cases hf
    have k : _ = r := k
    subst k
    refine lv_ldc (own := RX4) hx hb hown (hts _ w_1349) dX4_costOfStep_35 ?_
    exact r_iret X I rfl rfl rfl hn dX4_costOfStep_37
  · refine lv_icmp_ne (tgt := 38) hx hb dX4_costOfStep_32 (by decide) (fun _ => ?_) (fun n => absurd n c7)
    refine lv_iload hx hb dX4_costOfStep_38 (lv_at hl 1 rfl) ?_
    refine lv_bipush (v := 10) hx hb dX4_costOfStep_40 (by decide) ?_
    rcases s_ite hf with ⟨c8, hf⟩ | ⟨c8, hf⟩
    · refine lv_icmp_ne (tgt := 69) hx hb dX4_costOfStep_42 (by decide) (fun n => absurd c8 n) (fun _ => ?_)
      obtain ⟨x6, h9, hf⟩ := s_bind hf
      obtain ⟨x7, h10, hf⟩ := s_bind hf
      obtain ⟨x8, h11, hf⟩ := s_bind hf
      obtain ⟨x9, h12, hf⟩ := s_bind hf
      obtain ⟨q10, h13, hf⟩ := s_bind hf
      cases hf
      have k : _ = r := k
      subst k
      have le14 : s_le q10.2 q10.2 := s_le.rf
      refine lv_aload_n hx hb dX4_costOfStep_45 rfl (lv_at hl 3 rfl) ?_
      refine lv_iload_n hx hb dX4_costOfStep_46 rfl (lv_at hl 4 rfl) ?_
      refine lv_iload hx hb dX4_costOfStep_47 (lv_at hl 0 rfl) ?_
      refine lv_aload_n hx hb dX4_costOfStep_49 rfl (lv_at hl 3 rfl) ?_
      refine r_gr X I fl_X4_24 h9 dX4_costOfStep_50 ?_
      refine lv_iload_n hx hb dX4_costOfStep_53 rfl (lv_at hl 2 rfl) ?_
      refine lv_iconst (v := 2) hx hb dX4_costOfStep_54 (by decide) ?_
      refine lv_iadd hx hb dX4_costOfStep_55 ?_
      refine r_iald X I h10 dX4_costOfStep_56 ?_
      refine lv_aload_n hx hb dX4_costOfStep_57 rfl (lv_at hl 3 rfl) ?_
      refine r_gr X I fl_X4_24 h11 dX4_costOfStep_58 ?_
      refine lv_iload_n hx hb dX4_costOfStep_61 rfl (lv_at hl 2 rfl) ?_
      refine lv_iconst (v := 3) hx hb dX4_costOfStep_62 (by decide) ?_
      refine lv_iadd hx hb dX4_costOfStep_63 ?_
      refine r_iald X I h12 dX4_costOfStep_64 ?_
      refine r_callV (Y := M_X4_costOfGiven) (v := some (.int q10.1)) X I w_1368 my_X4_costOfGiven (by omega) (t_X4_costOfGiven (G := G) (d := d + 0) h13) (b_X4_costOfGiven h13) rfl rfl hl.1 rfl (Nat.le_of_ble_eq_true rfl) hn le14 dX4_costOfStep_65 (fun H locs cells slots I hn1 hn2 => ?_)
      have I : s_I G q10.2 s H locs := I
      have hn : cells + σ0.2.1 ≤ q10.2.2.1 ∧ slots + σ0.2.2.1 ≤ q10.2.2.2.1 := ⟨hn1, hn2⟩
      exact r_iret X I rfl rfl rfl hn dX4_costOfStep_68
    · refine lv_icmp_ne (tgt := 69) hx hb dX4_costOfStep_42 (by decide) (fun _ => ?_) (fun n => absurd n c8)
      cases hf
      have k : s_V G (d + 3) M_X4_costOfStep vs0 σ0 Y_X4_costOfStep (76, [.ref v0, .int v1, .int (v2 * 5), .int q5.1, .int 2], q5.2) (e_I r) := k
      refine lv_iload hx hb dX4_costOfStep_69 (lv_at hl 0 rfl) ?_
      refine lv_istore (lv' := [(6, .int q5.1), (5, .int q5.1), (4, .int x2), (3, .int (v2 * 5)), (0, .ref v0), (1, .int v1), (2, .int v2)]) hx hb dX4_costOfStep_71 hl (by decide) rfl (fun ls hl => ?_)
      refine lv_iconst (v := 2) hx hb dX4_costOfStep_73 (by decide) ?_
      refine lv_istore (lv' := [(7, .int 2), (6, .int q5.1), (5, .int q5.1), (4, .int x2), (3, .int (v2 * 5)), (0, .ref v0), (1, .int v1), (2, .int v2)]) hx hb dX4_costOfStep_74 hl (by decide) rfl (fun ls hl => ?_)
      exact k.2 p e s m below meth c _ _ _ _ _ X I hn.1 hn.2 (lv_sub hl [5, 6, 4, 1, 0] rfl)
set_option maxRecDepth 100000 in
set_option maxHeartbeats 4000000 in
theorem v_X4_costOfStep_76 {G : sG} {d : Nat} {vs0 : List Value} {σ0 : sS} {v0 : Nat} {v1 : Int32} {v3 : Int32} {v6 : Int32} {v7 : Int32} {σ : sS} {z : sZ Int32} {r : Int32 × sS} (hf : T_X4_costOfStep_76 v0 v1 v3 v6 v7 σ = some z) (k : s_K G (d + 3) M_X4_costOfStep vs0 σ0 Y_X4_costOfStep e_I z r) : s_V G (d + 3) M_X4_costOfStep vs0 σ0 Y_X4_costOfStep (76, [.ref v0, .int v1, .int v3, .int v6, .int v7], σ) (e_I r) := by
  have le0 : s_le σ (e_I r).2 := s_lek hem_I (l_X4_costOfStep_76 hf) k
  refine ⟨le0, ?_⟩
  intro p e s m below meth c H locs cells slots ls X I hn1 hn2 hl
  have hn : cells + σ0.2.1 ≤ σ.2.1 ∧ slots + σ0.2.2.1 ≤ σ.2.2.1 := ⟨hn1, hn2⟩
  have hl : lv_has ls 8 [(0, .ref v0), (1, .int v1), (3, .int v3), (6, .int v6), (7, .int v7)] := hl
  have hx := X.1
  have hb : c.code = cX4_costOfStep := X.2.1
  have hown : s.vm.findClass RX4 = some m.cls := X.2.2.2.2.2.1
  have hts := X.2.2.2.2.2.2.1
  refine W.eq (g2 := F0 m 76 ls []) rfl ?_
  unfold T_X4_costOfStep_76 at hf
  refine lv_iload hx hb dX4_costOfStep_76 (lv_at hl 4 rfl) ?_
  refine lv_iconst (v := 5) hx hb dX4_costOfStep_78 (by decide) ?_
  rcases s_ite hf with ⟨c1, hf⟩ | ⟨c1, hf⟩
  · refine lv_icmp_ge (tgt := 120) hx hb dX4_costOfStep_79 (by decide) (fun _ => ?_) (fun n => absurd c1 n)
    obtain ⟨q1, h2, hf⟩ := s_bind hf
    cases hf
    have k : _ = r := k
    subst k
    have le3 : s_le q1.2 q1.2 := s_le.rf
    refine lv_iload hx hb dX4_costOfStep_120 (lv_at hl 3 rfl) ?_
    refine r_callS (Y := M_X4_limited) (v := some (.int q1.1)) X I w_1376 my_X4_limited (by omega) (t_X4_limited (G := G) (d := d + 1) h2) rfl rfl hl.1 rfl (Nat.le_of_ble_eq_true rfl) hn le3 dX4_costOfStep_122 (fun H locs cells slots I hn1 hn2 => ?_)
    have I : s_I G q1.2 s H locs := I
    have hn : cells + σ0.2.1 ≤ q1.2.2.1 ∧ slots + σ0.2.2.1 ≤ q1.2.2.2.1 := ⟨hn1, hn2⟩
    exact r_iret X I rfl rfl rfl hn dX4_costOfStep_125
  · refine lv_icmp_ge (tgt := 120) hx hb dX4_costOfStep_79 (by decide) (fun n => absurd n c1) (fun _ => ?_)
    obtain ⟨x2, h4, hf⟩ := s_bind hf
    obtain ⟨x3, h5, hf⟩ := s_bind hf
    refine lv_aload_n hx hb dX4_costOfStep_82 rfl (lv_at hl 0 rfl) ?_
    refine r_gr X I fl_X4_24 h4 dX4_costOfStep_83 ?_
    refine lv_iload_n hx hb dX4_costOfStep_86 rfl (lv_at hl 2 rfl) ?_
    refine lv_iload hx hb dX4_costOfStep_87 (lv_at hl 4 rfl) ?_
    refine lv_iadd hx hb dX4_costOfStep_89 ?_
    refine r_iald X I h5 dX4_costOfStep_90 ?_
    refine lv_iconst (v := (-1)) hx hb dX4_costOfStep_91 (by decide) ?_
    rcases s_ite hf with ⟨c6, hf⟩ | ⟨c6, hf⟩
    · refine lv_icmp_eq (tgt := 114) hx hb dX4_costOfStep_92 (by decide) (fun _ => ?_) (fun n => absurd c6 n)
      cases hf
      have k : s_V G (d + 3) M_X4_costOfStep vs0 σ0 Y_X4_costOfStep (114, [.ref v0, .int v1, .int v3, .int v6, .int v7], σ) (e_I r) := k
      exact k.2 p e s m below meth c _ _ _ _ _ X I hn.1 hn.2 (lv_sub hl [0, 1, 2, 3, 4] rfl)
    · refine lv_icmp_eq (tgt := 114) hx hb dX4_costOfStep_92 (by decide) (fun n => absurd n c6) (fun _ => ?_)
      obtain ⟨x4, h7, hf⟩ := s_bind hf
      obtain ⟨x5, h8, hf⟩ := s_bind hf
      obtain ⟨q6, h9, hf⟩ := s_bind hf
      cases hf
      have k : s_V G (d + 3) M_X4_costOfStep vs0 σ0 Y_X4_costOfStep (114, [.ref v0, .int v1, .int v3, .int (v6 + q6.1), .int v7], q6.2) (e_I r) := k
      have le10 : s_le q6.2 (e_I r).2 := k.1
      refine lv_iload hx hb dX4_costOfStep_95 (lv_at hl 3 rfl) ?_
      refine lv_aload_n hx hb dX4_costOfStep_97 rfl (lv_at hl 0 rfl) ?_
      refine lv_iload_n hx hb dX4_costOfStep_98 rfl (lv_at hl 1 rfl) ?_
      refine lv_aload_n hx hb dX4_costOfStep_99 rfl (lv_at hl 0 rfl) ?_
      refine r_gr X I fl_X4_24 h7 dX4_costOfStep_100 ?_
      refine lv_iload_n hx hb dX4_costOfStep_103 rfl (lv_at hl 2 rfl) ?_
      refine lv_iload hx hb dX4_costOfStep_104 (lv_at hl 4 rfl) ?_
      refine lv_iadd hx hb dX4_costOfStep_106 ?_
      refine r_iald X I h8 dX4_costOfStep_107 ?_
      refine r_callV (Y := M_X4_costAt) (v := some (.int q6.1)) X I w_1372 my_X4_costAt (by omega) (t_X4_costAt (G := G) (d := d + 1) h9) (b_X4_costAt h9) rfl rfl hl.1 rfl (Nat.le_of_ble_eq_true rfl) hn le10 dX4_costOfStep_108 (fun H locs cells slots I hn1 hn2 => ?_)
      have I : s_I G q6.2 s H locs := I
      have hn : cells + σ0.2.1 ≤ q6.2.2.1 ∧ slots + σ0.2.2.1 ≤ q6.2.2.2.1 := ⟨hn1, hn2⟩
      refine lv_iadd hx hb dX4_costOfStep_111 ?_
      refine lv_istore (lv' := [(6, .int (v6 + q6.1)), (0, .ref v0), (1, .int v1), (3, .int v3), (7, .int v7)]) hx hb dX4_costOfStep_112 hl (by decide) rfl (fun ls hl => ?_)
      exact k.2 p e s m below meth c _ _ _ _ _ X I hn.1 hn.2 (lv_sub hl [1, 2, 3, 0, 4] rfl)
set_option maxRecDepth 100000 in
set_option maxHeartbeats 4000000 in
theorem v_X4_costOfStep_114 {G : sG} {d : Nat} {vs0 : List Value} {σ0 : sS} {v0 : Nat} {v1 : Int32} {v3 : Int32} {v6 : Int32} {v7 : Int32} {σ : sS} {z : sZ Int32} {r : Int32 × sS} (hf : T_X4_costOfStep_114 v0 v1 v3 v6 v7 σ = some z) (k : s_K G (d + 3) M_X4_costOfStep vs0 σ0 Y_X4_costOfStep e_I z r) : s_V G (d + 3) M_X4_costOfStep vs0 σ0 Y_X4_costOfStep (114, [.ref v0, .int v1, .int v3, .int v6, .int v7], σ) (e_I r) := by
  have le0 : s_le σ (e_I r).2 := s_lek hem_I (l_X4_costOfStep_114 hf) k
  refine ⟨le0, ?_⟩
  intro p e s m below meth c H locs cells slots ls X I hn1 hn2 hl
  have hn : cells + σ0.2.1 ≤ σ.2.1 ∧ slots + σ0.2.2.1 ≤ σ.2.2.1 := ⟨hn1, hn2⟩
  have hl : lv_has ls 8 [(0, .ref v0), (1, .int v1), (3, .int v3), (6, .int v6), (7, .int v7)] := hl
  have hx := X.1
  have hb : c.code = cX4_costOfStep := X.2.1
  have hown : s.vm.findClass RX4 = some m.cls := X.2.2.2.2.2.1
  have hts := X.2.2.2.2.2.2.1
  refine W.eq (g2 := F0 m 114 ls []) rfl ?_
  unfold T_X4_costOfStep_114 at hf
  cases hf
  have k : s_V G (d + 3) M_X4_costOfStep vs0 σ0 Y_X4_costOfStep (76, [.ref v0, .int v1, .int v3, .int v6, .int (v7 + 1)], σ) (e_I r) := k
  refine lv_iinc (v := (v7 + 1)) (lv' := [(7, .int (v7 + 1)), (0, .ref v0), (1, .int v1), (3, .int v3), (6, .int v6)]) hx hb dX4_costOfStep_114 hl (k := 4) rfl rfl (by decide) rfl (fun ls hl => ?_)
  refine lv_goto (tgt := 76) hx hb dX4_costOfStep_117 (by decide) ?_
  exact k.2 p e s m below meth c _ _ _ _ _ X I hn.1 hn.2 (lv_sub hl [1, 2, 3, 4, 0] rfl)
theorem v_X4_costOfStep {G : sG} {d : Nat} {vs0 : List Value} {σ0 : sS} {x : sL} {z : sZ Int32} {r : Int32 × sS} (hs : S_X4_costOfStep x = some z) (k : s_K G (d + 3) M_X4_costOfStep vs0 σ0 Y_X4_costOfStep e_I z r) : s_V G (d + 3) M_X4_costOfStep vs0 σ0 Y_X4_costOfStep x (e_I r) := by
  obtain ⟨pc, vs, σ⟩ := x
  unfold S_X4_costOfStep at hs
  dsimp only at hs
  rcases s_ite hs with ⟨c, hs⟩ | ⟨-, hs⟩
  · subst c
    unfold U_X4_costOfStep_0 at hs
    obtain ⟨a0, g0, hs⟩ := s_bind hs
    obtain ⟨a1, g1, hs⟩ := s_bind hs
    obtain ⟨a2, g2, hs⟩ := s_bind hs
    obtain ⟨u9, ge, hs⟩ := s_bind hs
    rw [g_r_to g0, g_i_to g1, g_i_to g2, g_e_to ge]
    exact v_X4_costOfStep_0 hs k
  rcases s_ite hs with ⟨c, hs⟩ | ⟨-, hs⟩
  · subst c
    unfold U_X4_costOfStep_76 at hs
    obtain ⟨a0, g0, hs⟩ := s_bind hs
    obtain ⟨a1, g1, hs⟩ := s_bind hs
    obtain ⟨a2, g2, hs⟩ := s_bind hs
    obtain ⟨a3, g3, hs⟩ := s_bind hs
    obtain ⟨a4, g4, hs⟩ := s_bind hs
    obtain ⟨u9, ge, hs⟩ := s_bind hs
    rw [g_r_to g0, g_i_to g1, g_i_to g2, g_i_to g3, g_i_to g4, g_e_to ge]
    exact v_X4_costOfStep_76 hs k
  rcases s_ite hs with ⟨c, hs⟩ | ⟨-, hs⟩
  · subst c
    unfold U_X4_costOfStep_114 at hs
    obtain ⟨a0, g0, hs⟩ := s_bind hs
    obtain ⟨a1, g1, hs⟩ := s_bind hs
    obtain ⟨a2, g2, hs⟩ := s_bind hs
    obtain ⟨a3, g3, hs⟩ := s_bind hs
    obtain ⟨a4, g4, hs⟩ := s_bind hs
    obtain ⟨u9, ge, hs⟩ := s_bind hs
    rw [g_r_to g0, g_i_to g1, g_i_to g2, g_i_to g3, g_i_to g4, g_e_to ge]
    exact v_X4_costOfStep_114 hs k
  cases hs
theorem t_X4_costOfStep {G : sG} {d : Nat} {v0 : Nat} {v1 : Int32} {v2 : Int32} {σ : sS} {q : Int32 × sS} (h : F_X4_costOfStep v0 v1 v2 σ = some q) : s_T G (d + 3) M_X4_costOfStep [.ref v0, .int v1, .int v2] σ (e_I q) := by
  unfold F_X4_costOfStep at h
  obtain ⟨-, -, h⟩ := s_bind h
  exact s_ofV rfl (by decide) (Nat.le_of_ble_eq_true rfl) rfl rfl (s_run_ind (V := fun x r => s_V G (d + 3) M_X4_costOfStep [.ref v0, .int v1, .int v2] σ Y_X4_costOfStep x (e_I r)) (fun x z r hs hk => v_X4_costOfStep hs (by cases z <;> exact hk)) h)
/-! X4_improve -/
noncomputable def T_X4_improve_0 (v0 : Nat) (v1 : Int32) (v2 : Int32) (v3 : Int32) (σ : sS) : Option (sZ Int32) :=
  if ((v1 * 40) + v2) < 0 then (some (.inr (0, σ)))
  else ((s_fr σ v0 4 7).bind fun x1 =>
  (s_len σ x1).bind fun x2 =>
  if x2 ≤ ((v1 * 40) + v2) then (some (.inr (0, σ)))
  else ((s_fr σ v0 4 7).bind fun x3 =>
  (s_ai σ x3 ((v1 * 40) + v2)).bind fun x4 =>
  if v3 < x4 then ((s_fr σ v0 4 7).bind fun x5 =>
  (s_si σ x5 ((v1 * 40) + v2) v3).bind fun σ6 =>
  some (.inr (1, σ6)))
  else (some (.inr (0, σ)))))
noncomputable def U_X4_improve_0 (vs : List Value) (σ : sS) : Option (sZ Int32) := (g_r vs).bind fun a0 => (g_i a0.2).bind fun a1 => (g_i a1.2).bind fun a2 => (g_i a2.2).bind fun a3 => (g_e a3.2).bind fun _ => T_X4_improve_0 a0.1 a1.1 a2.1 a3.1 σ
noncomputable def S_X4_improve (x : sL) : Option (sZ Int32) := if x.1 = 0 then U_X4_improve_0 x.2.1 x.2.2 else none
def Y_X4_improve (pc : Nat) : List Nat := if pc = 0 then [0, 1, 2, 3] else []
noncomputable def F_X4_improve (v0 : Nat) (v1 : Int32) (v2 : Int32) (v3 : Int32) (σ : sS) : Option (Int32 × sS) := (s_is σ v0 4).bind fun _ => s_run S_X4_improve (0, [.ref v0, .int v1, .int v2, .int v3], σ)
theorem l_X4_improve_0 {v0 : Nat} {v1 : Int32} {v2 : Int32} {v3 : Int32} {σ : sS} {z : sZ Int32} (hf : T_X4_improve_0 v0 v1 v2 v3 σ = some z) : s_lz σ z := by
  unfold T_X4_improve_0 at hf
  rcases s_ite hf with ⟨-, hf⟩ | ⟨-, hf⟩
  · cases hf
    exact s_le.rf
  · obtain ⟨x1, -, hf⟩ := s_bind hf
    obtain ⟨x2, -, hf⟩ := s_bind hf
    rcases s_ite hf with ⟨-, hf⟩ | ⟨-, hf⟩
    · cases hf
      exact s_le.rf
    · obtain ⟨x3, -, hf⟩ := s_bind hf
      obtain ⟨x4, -, hf⟩ := s_bind hf
      rcases s_ite hf with ⟨-, hf⟩ | ⟨-, hf⟩
      · obtain ⟨x5, -, hf⟩ := s_bind hf
        obtain ⟨σ6, hh, hf⟩ := s_bind hf
        refine s_lz.tr (s_le2 (s_si_2 hh)) ?_
        cases hf
        exact s_le.rf
      · cases hf
        exact s_le.rf
theorem l_X4_improve_s {x : sL} {z : sZ Int32} (hs : S_X4_improve x = some z) : s_lz x.2.2 z := by
  obtain ⟨pc, vs, σ⟩ := x
  unfold S_X4_improve at hs
  dsimp only at hs ⊢
  rcases s_ite hs with ⟨c, hs⟩ | ⟨-, hs⟩
  · subst c
    unfold U_X4_improve_0 at hs
    obtain ⟨a0, g0, hs⟩ := s_bind hs
    obtain ⟨a1, g1, hs⟩ := s_bind hs
    obtain ⟨a2, g2, hs⟩ := s_bind hs
    obtain ⟨a3, g3, hs⟩ := s_bind hs
    obtain ⟨u9, ge, hs⟩ := s_bind hs
    exact l_X4_improve_0 hs
  cases hs
theorem l_X4_improve {v0 : Nat} {v1 : Int32} {v2 : Int32} {v3 : Int32} {σ : sS} {q : Int32 × sS} (h : F_X4_improve v0 v1 v2 v3 σ = some q) : s_le σ q.2 := by
  unfold F_X4_improve at h
  obtain ⟨-, -, h⟩ := s_bind h
  exact s_run_ind (V := fun x r => s_le x.2.2 r.2) (fun x z r hs hk => by
    have h9 := l_X4_improve_s hs
    cases z with
    | inl y => exact s_le.tr h9 hk
    | inr q => cases hk; exact h9) h
theorem b_X4_improve {v0 : Nat} {v1 : Int32} {v2 : Int32} {v3 : Int32} {σ : sS} {q : Int32 × sS} (h : F_X4_improve v0 v1 v2 v3 σ = some q) : ∃ fs, σ.1 v0 = some (.inr (4, fs)) := by
  unfold F_X4_improve at h
  obtain ⟨u, hu, -⟩ := s_bind h
  exact s_is_to hu
set_option maxRecDepth 100000 in
set_option maxHeartbeats 4000000 in
theorem v_X4_improve_0 {G : sG} {d : Nat} {vs0 : List Value} {σ0 : sS} {v0 : Nat} {v1 : Int32} {v2 : Int32} {v3 : Int32} {σ : sS} {z : sZ Int32} {r : Int32 × sS} (hf : T_X4_improve_0 v0 v1 v2 v3 σ = some z) (k : s_K G (d + 1) M_X4_improve vs0 σ0 Y_X4_improve e_I z r) : s_V G (d + 1) M_X4_improve vs0 σ0 Y_X4_improve (0, [.ref v0, .int v1, .int v2, .int v3], σ) (e_I r) := by
  have le0 : s_le σ (e_I r).2 := s_lek hem_I (l_X4_improve_0 hf) k
  refine ⟨le0, ?_⟩
  intro p e s m below meth c H locs cells slots ls X I hn1 hn2 hl
  have hn : cells + σ0.2.1 ≤ σ.2.1 ∧ slots + σ0.2.2.1 ≤ σ.2.2.1 := ⟨hn1, hn2⟩
  have hl : lv_has ls 5 [(0, .ref v0), (1, .int v1), (2, .int v2), (3, .int v3)] := hl
  have hx := X.1
  have hb : c.code = cX4_improve := X.2.1
  have hown : s.vm.findClass RX4 = some m.cls := X.2.2.2.2.2.1
  have hts := X.2.2.2.2.2.2.1
  refine W.eq (g2 := F0 m 0 ls []) rfl ?_
  unfold T_X4_improve_0 at hf
  refine lv_iload_n hx hb dX4_improve_0 rfl (lv_at hl 1 rfl) ?_
  refine lv_bipush (v := 40) hx hb dX4_improve_1 (by decide) ?_
  refine lv_imul hx hb dX4_improve_3 ?_
  refine lv_iload_n hx hb dX4_improve_4 rfl (lv_at hl 2 rfl) ?_
  refine lv_iadd hx hb dX4_improve_5 ?_
  refine lv_istore (lv' := [(4, .int ((v1 * 40) + v2)), (0, .ref v0), (1, .int v1), (2, .int v2), (3, .int v3)]) hx hb dX4_improve_6 hl (by decide) rfl (fun ls hl => ?_)
  refine lv_iload hx hb dX4_improve_8 (lv_at hl 0 rfl) ?_
  rcases s_ite hf with ⟨c1, hf⟩ | ⟨c1, hf⟩
  · refine lv_if_lt (tgt := 34) hx hb dX4_improve_10 (by decide) (fun _ => ?_) (fun n => absurd c1 n)
    cases hf
    have k : _ = r := k
    subst k
    refine lv_iconst (v := 0) hx hb dX4_improve_34 (by decide) ?_
    exact r_iret X I rfl rfl rfl hn dX4_improve_35
  · refine lv_if_lt (tgt := 34) hx hb dX4_improve_10 (by decide) (fun n => absurd n c1) (fun _ => ?_)
    obtain ⟨x1, h2, hf⟩ := s_bind hf
    obtain ⟨x2, h3, hf⟩ := s_bind hf
    refine lv_iload hx hb dX4_improve_13 (lv_at hl 0 rfl) ?_
    refine lv_aload_n hx hb dX4_improve_15 rfl (lv_at hl 1 rfl) ?_
    refine r_gr X I fl_X4_27 h2 dX4_improve_16 ?_
    refine r_alen X I h3 dX4_improve_19 ?_
    rcases s_ite hf with ⟨c4, hf⟩ | ⟨c4, hf⟩
    · refine lv_icmp_ge (tgt := 34) hx hb dX4_improve_20 (by decide) (fun _ => ?_) (fun n => absurd c4 n)
      cases hf
      have k : _ = r := k
      subst k
      refine lv_iconst (v := 0) hx hb dX4_improve_34 (by decide) ?_
      exact r_iret X I rfl rfl rfl hn dX4_improve_35
    · refine lv_icmp_ge (tgt := 34) hx hb dX4_improve_20 (by decide) (fun n => absurd n c4) (fun _ => ?_)
      obtain ⟨x3, h5, hf⟩ := s_bind hf
      obtain ⟨x4, h6, hf⟩ := s_bind hf
      refine lv_iload_n hx hb dX4_improve_23 rfl (lv_at hl 4 rfl) ?_
      refine lv_aload_n hx hb dX4_improve_24 rfl (lv_at hl 1 rfl) ?_
      refine r_gr X I fl_X4_27 h5 dX4_improve_25 ?_
      refine lv_iload hx hb dX4_improve_28 (lv_at hl 0 rfl) ?_
      refine r_iald X I h6 dX4_improve_30 ?_
      rcases s_ite hf with ⟨c7, hf⟩ | ⟨c7, hf⟩
      · refine lv_icmp_lt (tgt := 36) hx hb dX4_improve_31 (by decide) (fun _ => ?_) (fun n => absurd c7 n)
        obtain ⟨x5, h8, hf⟩ := s_bind hf
        obtain ⟨σ6, h9, hf⟩ := s_bind hf
        cases hf
        have k : _ = r := k
        subst k
        have le10 : s_le σ6 σ6 := s_le.rf
        refine lv_aload_n hx hb dX4_improve_36 rfl (lv_at hl 1 rfl) ?_
        refine r_gr X I fl_X4_27 h8 dX4_improve_37 ?_
        refine lv_iload hx hb dX4_improve_40 (lv_at hl 0 rfl) ?_
        refine lv_iload_n hx hb dX4_improve_42 rfl (lv_at hl 4 rfl) ?_
        refine r_iast X I h9 dX4_improve_43 (fun H locs I => ?_)
        have hn := s_k2 (s_si_2 h9) hn
        refine lv_iconst (v := 1) hx hb dX4_improve_44 (by decide) ?_
        exact r_iret X I rfl rfl rfl hn dX4_improve_45
      · refine lv_icmp_lt (tgt := 36) hx hb dX4_improve_31 (by decide) (fun n => absurd n c7) (fun _ => ?_)
        cases hf
        have k : _ = r := k
        subst k
        refine lv_iconst (v := 0) hx hb dX4_improve_34 (by decide) ?_
        exact r_iret X I rfl rfl rfl hn dX4_improve_35
theorem v_X4_improve {G : sG} {d : Nat} {vs0 : List Value} {σ0 : sS} {x : sL} {z : sZ Int32} {r : Int32 × sS} (hs : S_X4_improve x = some z) (k : s_K G (d + 1) M_X4_improve vs0 σ0 Y_X4_improve e_I z r) : s_V G (d + 1) M_X4_improve vs0 σ0 Y_X4_improve x (e_I r) := by
  obtain ⟨pc, vs, σ⟩ := x
  unfold S_X4_improve at hs
  dsimp only at hs
  rcases s_ite hs with ⟨c, hs⟩ | ⟨-, hs⟩
  · subst c
    unfold U_X4_improve_0 at hs
    obtain ⟨a0, g0, hs⟩ := s_bind hs
    obtain ⟨a1, g1, hs⟩ := s_bind hs
    obtain ⟨a2, g2, hs⟩ := s_bind hs
    obtain ⟨a3, g3, hs⟩ := s_bind hs
    obtain ⟨u9, ge, hs⟩ := s_bind hs
    rw [g_r_to g0, g_i_to g1, g_i_to g2, g_i_to g3, g_e_to ge]
    exact v_X4_improve_0 hs k
  cases hs
theorem t_X4_improve {G : sG} {d : Nat} {v0 : Nat} {v1 : Int32} {v2 : Int32} {v3 : Int32} {σ : sS} {q : Int32 × sS} (h : F_X4_improve v0 v1 v2 v3 σ = some q) : s_T G (d + 1) M_X4_improve [.ref v0, .int v1, .int v2, .int v3] σ (e_I q) := by
  unfold F_X4_improve at h
  obtain ⟨-, -, h⟩ := s_bind h
  exact s_ofV rfl (by decide) (Nat.le_of_ble_eq_true rfl) rfl rfl (s_run_ind (V := fun x r => s_V G (d + 1) M_X4_improve [.ref v0, .int v1, .int v2, .int v3] σ Y_X4_improve x (e_I r)) (fun x z r hs hk => v_X4_improve hs (by cases z <;> exact hk)) h)
/-! X4_costOfAbsurd -/
noncomputable def T_X4_costOfAbsurd_0 (v0 : Nat) (v1 : Int32) (σ : sS) : Option (sZ Int32) :=
  some (.inl (5, [.ref v0, .int v1, .int 268435456, .int 0], σ))
noncomputable def U_X4_costOfAbsurd_0 (vs : List Value) (σ : sS) : Option (sZ Int32) := (g_r vs).bind fun a0 => (g_i a0.2).bind fun a1 => (g_e a1.2).bind fun _ => T_X4_costOfAbsurd_0 a0.1 a1.1 σ
noncomputable def T_X4_costOfAbsurd_5 (v0 : Nat) (v1 : Int32) (v2 : Int32) (v3 : Int32) (σ : sS) : Option (sZ Int32) :=
  (s_fi σ v0 4 8).bind fun x1 =>
  if x1 ≤ v3 then (some (.inr (v2, σ)))
  else ((s_fr σ v0 4 0).bind fun x2 =>
  (s_fr σ v0 4 2).bind fun x3 =>
  (s_ai σ x3 v3).bind fun x4 =>
  (F_X2_kindOf x2 x4 σ).bind fun q5 =>
  if q5.1 = 1 then ((s_fr q5.2 v0 4 0).bind fun x6 =>
  (s_fr q5.2 v0 4 2).bind fun x7 =>
  (s_ai q5.2 x7 v3).bind fun x8 =>
  (F_X2_firstOf x6 x8 q5.2).bind fun q9 =>
  (F_X4_placeOf v0 q9.1 q9.2).bind fun q10 =>
  if q10.1 = (-1) then (some (.inl (74, [.ref v0, .int v1, .int v2, .int v3], q10.2)))
  else ((F_X4_costAt v0 v1 v3 q10.2).bind fun q11 =>
  (F_X4_costAt v0 v1 q10.1 q11.2).bind fun q12 =>
  some (.inl (74, [.ref v0, .int v1, .int (if (q11.1 + q12.1) < v2 then (q11.1 + q12.1) else v2), .int v3], q12.2))))
  else (some (.inl (74, [.ref v0, .int v1, .int v2, .int v3], q5.2))))
noncomputable def U_X4_costOfAbsurd_5 (vs : List Value) (σ : sS) : Option (sZ Int32) := (g_r vs).bind fun a0 => (g_i a0.2).bind fun a1 => (g_i a1.2).bind fun a2 => (g_i a2.2).bind fun a3 => (g_e a3.2).bind fun _ => T_X4_costOfAbsurd_5 a0.1 a1.1 a2.1 a3.1 σ
noncomputable def T_X4_costOfAbsurd_74 (v0 : Nat) (v1 : Int32) (v2 : Int32) (v3 : Int32) (σ : sS) : Option (sZ Int32) :=
  some (.inl (5, [.ref v0, .int v1, .int v2, .int (v3 + 1)], σ))
noncomputable def U_X4_costOfAbsurd_74 (vs : List Value) (σ : sS) : Option (sZ Int32) := (g_r vs).bind fun a0 => (g_i a0.2).bind fun a1 => (g_i a1.2).bind fun a2 => (g_i a2.2).bind fun a3 => (g_e a3.2).bind fun _ => T_X4_costOfAbsurd_74 a0.1 a1.1 a2.1 a3.1 σ
noncomputable def S_X4_costOfAbsurd (x : sL) : Option (sZ Int32) := if x.1 = 0 then U_X4_costOfAbsurd_0 x.2.1 x.2.2 else if x.1 = 5 then U_X4_costOfAbsurd_5 x.2.1 x.2.2 else if x.1 = 74 then U_X4_costOfAbsurd_74 x.2.1 x.2.2 else none
def Y_X4_costOfAbsurd (pc : Nat) : List Nat := if pc = 0 then [0, 1] else if pc = 5 then [0, 1, 2, 3] else if pc = 74 then [0, 1, 2, 3] else []
noncomputable def F_X4_costOfAbsurd (v0 : Nat) (v1 : Int32) (σ : sS) : Option (Int32 × sS) := (s_is σ v0 4).bind fun _ => s_run S_X4_costOfAbsurd (0, [.ref v0, .int v1], σ)
theorem l_X4_costOfAbsurd_0 {v0 : Nat} {v1 : Int32} {σ : sS} {z : sZ Int32} (hf : T_X4_costOfAbsurd_0 v0 v1 σ = some z) : s_lz σ z := by
  unfold T_X4_costOfAbsurd_0 at hf
  cases hf
  exact s_le.rf
theorem l_X4_costOfAbsurd_5 {v0 : Nat} {v1 : Int32} {v2 : Int32} {v3 : Int32} {σ : sS} {z : sZ Int32} (hf : T_X4_costOfAbsurd_5 v0 v1 v2 v3 σ = some z) : s_lz σ z := by
  unfold T_X4_costOfAbsurd_5 at hf
  obtain ⟨x1, -, hf⟩ := s_bind hf
  rcases s_ite hf with ⟨-, hf⟩ | ⟨-, hf⟩
  · cases hf
    exact s_le.rf
  · obtain ⟨x2, -, hf⟩ := s_bind hf
    obtain ⟨x3, -, hf⟩ := s_bind hf
    obtain ⟨x4, -, hf⟩ := s_bind hf
    obtain ⟨q5, hh, hf⟩ := s_bind hf
    refine s_lz.tr (l_X2_kindOf hh) ?_
    rcases s_ite hf with ⟨-, hf⟩ | ⟨-, hf⟩
    · obtain ⟨x6, -, hf⟩ := s_bind hf
      obtain ⟨x7, -, hf⟩ := s_bind hf
      obtain ⟨x8, -, hf⟩ := s_bind hf
      obtain ⟨q9, hh, hf⟩ := s_bind hf
      refine s_lz.tr (l_X2_firstOf hh) ?_
      obtain ⟨q10, hh, hf⟩ := s_bind hf
      refine s_lz.tr (l_X4_placeOf hh) ?_
      rcases s_ite hf with ⟨-, hf⟩ | ⟨-, hf⟩
      · cases hf
        exact s_le.rf
      · obtain ⟨q11, hh, hf⟩ := s_bind hf
        refine s_lz.tr (l_X4_costAt hh) ?_
        obtain ⟨q12, hh, hf⟩ := s_bind hf
        refine s_lz.tr (l_X4_costAt hh) ?_
        cases hf
        exact s_le.rf
    · cases hf
      exact s_le.rf
theorem l_X4_costOfAbsurd_74 {v0 : Nat} {v1 : Int32} {v2 : Int32} {v3 : Int32} {σ : sS} {z : sZ Int32} (hf : T_X4_costOfAbsurd_74 v0 v1 v2 v3 σ = some z) : s_lz σ z := by
  unfold T_X4_costOfAbsurd_74 at hf
  cases hf
  exact s_le.rf
theorem l_X4_costOfAbsurd_s {x : sL} {z : sZ Int32} (hs : S_X4_costOfAbsurd x = some z) : s_lz x.2.2 z := by
  obtain ⟨pc, vs, σ⟩ := x
  unfold S_X4_costOfAbsurd at hs
  dsimp only at hs ⊢
  rcases s_ite hs with ⟨c, hs⟩ | ⟨-, hs⟩
  · subst c
    unfold U_X4_costOfAbsurd_0 at hs
    obtain ⟨a0, g0, hs⟩ := s_bind hs
    obtain ⟨a1, g1, hs⟩ := s_bind hs
    obtain ⟨u9, ge, hs⟩ := s_bind hs
    exact l_X4_costOfAbsurd_0 hs
  rcases s_ite hs with ⟨c, hs⟩ | ⟨-, hs⟩
  · subst c
    unfold U_X4_costOfAbsurd_5 at hs
    obtain ⟨a0, g0, hs⟩ := s_bind hs
    obtain ⟨a1, g1, hs⟩ := s_bind hs
    obtain ⟨a2, g2, hs⟩ := s_bind hs
    obtain ⟨a3, g3, hs⟩ := s_bind hs
    obtain ⟨u9, ge, hs⟩ := s_bind hs
    exact l_X4_costOfAbsurd_5 hs
  rcases s_ite hs with ⟨c, hs⟩ | ⟨-, hs⟩
  · subst c
    unfold U_X4_costOfAbsurd_74 at hs
    obtain ⟨a0, g0, hs⟩ := s_bind hs
    obtain ⟨a1, g1, hs⟩ := s_bind hs
    obtain ⟨a2, g2, hs⟩ := s_bind hs
    obtain ⟨a3, g3, hs⟩ := s_bind hs
    obtain ⟨u9, ge, hs⟩ := s_bind hs
    exact l_X4_costOfAbsurd_74 hs
  cases hs
theorem l_X4_costOfAbsurd {v0 : Nat} {v1 : Int32} {σ : sS} {q : Int32 × sS} (h : F_X4_costOfAbsurd v0 v1 σ = some q) : s_le σ q.2 := by
  unfold F_X4_costOfAbsurd at h
  obtain ⟨-, -, h⟩ := s_bind h
  exact s_run_ind (V := fun x r => s_le x.2.2 r.2) (fun x z r hs hk => by
    have h9 := l_X4_costOfAbsurd_s hs
    cases z with
    | inl y => exact s_le.tr h9 hk
    | inr q => cases hk; exact h9) h
theorem b_X4_costOfAbsurd {v0 : Nat} {v1 : Int32} {σ : sS} {q : Int32 × sS} (h : F_X4_costOfAbsurd v0 v1 σ = some q) : ∃ fs, σ.1 v0 = some (.inr (4, fs)) := by
  unfold F_X4_costOfAbsurd at h
  obtain ⟨u, hu, -⟩ := s_bind h
  exact s_is_to hu
set_option maxRecDepth 100000 in
set_option maxHeartbeats 4000000 in
theorem v_X4_costOfAbsurd_0 {G : sG} {d : Nat} {vs0 : List Value} {σ0 : sS} {v0 : Nat} {v1 : Int32} {σ : sS} {z : sZ Int32} {r : Int32 × sS} (hf : T_X4_costOfAbsurd_0 v0 v1 σ = some z) (k : s_K G (d + 2) M_X4_costOfAbsurd vs0 σ0 Y_X4_costOfAbsurd e_I z r) : s_V G (d + 2) M_X4_costOfAbsurd vs0 σ0 Y_X4_costOfAbsurd (0, [.ref v0, .int v1], σ) (e_I r) := by
  have le0 : s_le σ (e_I r).2 := s_lek hem_I (l_X4_costOfAbsurd_0 hf) k
  refine ⟨le0, ?_⟩
  intro p e s m below meth c H locs cells slots ls X I hn1 hn2 hl
  have hn : cells + σ0.2.1 ≤ σ.2.1 ∧ slots + σ0.2.2.1 ≤ σ.2.2.1 := ⟨hn1, hn2⟩
  have hl : lv_has ls 5 [(0, .ref v0), (1, .int v1)] := hl
  have hx := X.1
  have hb : c.code = cX4_costOfAbsurd := X.2.1
  have hown : s.vm.findClass RX4 = some m.cls := X.2.2.2.2.2.1
  have hts := X.2.2.2.2.2.2.1
  refine W.eq (g2 := F0 m 0 ls []) rfl ?_
  unfold T_X4_costOfAbsurd_0 at hf
  cases hf
  have k : s_V G (d + 2) M_X4_costOfAbsurd vs0 σ0 Y_X4_costOfAbsurd (5, [.ref v0, .int v1, .int 268435456, .int 0], σ) (e_I r) := k
  refine lv_ldc (own := RX4) hx hb hown (hts _ w_1349) dX4_costOfAbsurd_0 ?_
  refine lv_istore_n (lv' := [(2, .int 268435456), (0, .ref v0), (1, .int v1)]) hx hb dX4_costOfAbsurd_2 rfl hl (by decide) rfl (fun ls hl => ?_)
  refine lv_iconst (v := 0) hx hb dX4_costOfAbsurd_3 (by decide) ?_
  refine lv_istore_n (lv' := [(3, .int 0), (2, .int 268435456), (0, .ref v0), (1, .int v1)]) hx hb dX4_costOfAbsurd_4 rfl hl (by decide) rfl (fun ls hl => ?_)
  exact k.2 p e s m below meth c _ _ _ _ _ X I hn.1 hn.2 (lv_sub hl [2, 3, 1, 0] rfl)
set_option maxRecDepth 100000 in
set_option maxHeartbeats 4000000 in
theorem v_X4_costOfAbsurd_5 {G : sG} {d : Nat} {vs0 : List Value} {σ0 : sS} {v0 : Nat} {v1 : Int32} {v2 : Int32} {v3 : Int32} {σ : sS} {z : sZ Int32} {r : Int32 × sS} (hf : T_X4_costOfAbsurd_5 v0 v1 v2 v3 σ = some z) (k : s_K G (d + 2) M_X4_costOfAbsurd vs0 σ0 Y_X4_costOfAbsurd e_I z r) : s_V G (d + 2) M_X4_costOfAbsurd vs0 σ0 Y_X4_costOfAbsurd (5, [.ref v0, .int v1, .int v2, .int v3], σ) (e_I r) := by
  have le0 : s_le σ (e_I r).2 := s_lek hem_I (l_X4_costOfAbsurd_5 hf) k
  refine ⟨le0, ?_⟩
  intro p e s m below meth c H locs cells slots ls X I hn1 hn2 hl
  have hn : cells + σ0.2.1 ≤ σ.2.1 ∧ slots + σ0.2.2.1 ≤ σ.2.2.1 := ⟨hn1, hn2⟩
  have hl : lv_has ls 5 [(0, .ref v0), (1, .int v1), (2, .int v2), (3, .int v3)] := hl
  have hx := X.1
  have hb : c.code = cX4_costOfAbsurd := X.2.1
  have hown : s.vm.findClass RX4 = some m.cls := X.2.2.2.2.2.1
  have hts := X.2.2.2.2.2.2.1
  refine W.eq (g2 := F0 m 5 ls []) rfl ?_
  unfold T_X4_costOfAbsurd_5 at hf
  obtain ⟨x1, h1, hf⟩ := s_bind hf
  refine lv_iload_n hx hb dX4_costOfAbsurd_5 rfl (lv_at hl 3 rfl) ?_
  refine lv_aload_n hx hb dX4_costOfAbsurd_6 rfl (lv_at hl 0 rfl) ?_
  refine r_gi X I fl_X4_48 h1 dX4_costOfAbsurd_7 ?_
  rcases s_ite hf with ⟨c2, hf⟩ | ⟨c2, hf⟩
  · refine lv_icmp_ge (tgt := 80) hx hb dX4_costOfAbsurd_10 (by decide) (fun _ => ?_) (fun n => absurd c2 n)
    cases hf
    have k : _ = r := k
    subst k
    refine lv_iload_n hx hb dX4_costOfAbsurd_80 rfl (lv_at hl 2 rfl) ?_
    exact r_iret X I rfl rfl rfl hn dX4_costOfAbsurd_81
  · refine lv_icmp_ge (tgt := 80) hx hb dX4_costOfAbsurd_10 (by decide) (fun n => absurd n c2) (fun _ => ?_)
    obtain ⟨x2, h3, hf⟩ := s_bind hf
    obtain ⟨x3, h4, hf⟩ := s_bind hf
    obtain ⟨x4, h5, hf⟩ := s_bind hf
    obtain ⟨q5, h6, hf⟩ := s_bind hf
    have le7 : s_le q5.2 (e_I r).2 := by
      refine s_lek hem_I ?_ k
      rcases s_ite hf with ⟨-, hf⟩ | ⟨-, hf⟩
      · obtain ⟨x6, -, hf⟩ := s_bind hf
        obtain ⟨x7, -, hf⟩ := s_bind hf
        obtain ⟨x8, -, hf⟩ := s_bind hf
        obtain ⟨q9, hh, hf⟩ := s_bind hf
        refine s_lz.tr (l_X2_firstOf hh) ?_
        obtain ⟨q10, hh, hf⟩ := s_bind hf
        refine s_lz.tr (l_X4_placeOf hh) ?_
        rcases s_ite hf with ⟨-, hf⟩ | ⟨-, hf⟩
        · cases hf
          exact s_le.rf
        · obtain ⟨q11, hh, hf⟩ := s_bind hf
          refine s_lz.tr (l_X4_costAt hh) ?_
          obtain ⟨q12, hh, hf⟩ := s_bind hf
          refine s_lz.tr (l_X4_costAt hh) ?_
          cases hf
          exact s_le.rf
      · cases hf
        exact s_le.rf
    refine lv_aload_n hx hb dX4_costOfAbsurd_13 rfl (lv_at hl 0 rfl) ?_
    refine r_gr X I fl_X4_30 h3 dX4_costOfAbsurd_14 ?_
    refine lv_aload_n hx hb dX4_costOfAbsurd_17 rfl (lv_at hl 0 rfl) ?_
    refine r_gr X I fl_X4_11 h4 dX4_costOfAbsurd_18 ?_
    refine lv_iload_n hx hb dX4_costOfAbsurd_21 rfl (lv_at hl 3 rfl) ?_
    refine r_iald X I h5 dX4_costOfAbsurd_22 ?_
    refine r_callV (Y := M_X2_kindOf) (v := some (.int q5.1)) X I w_1297 my_X2_kindOf (by omega) (t_X2_kindOf (G := G) (d := d + 0) h6) (b_X2_kindOf h6) rfl rfl hl.1 rfl (Nat.le_of_ble_eq_true rfl) hn le7 dX4_costOfAbsurd_23 (fun H locs cells slots I hn1 hn2 => ?_)
    have I : s_I G q5.2 s H locs := I
    have hn : cells + σ0.2.1 ≤ q5.2.2.1 ∧ slots + σ0.2.2.1 ≤ q5.2.2.2.1 := ⟨hn1, hn2⟩
    refine lv_iconst (v := 1) hx hb dX4_costOfAbsurd_26 (by decide) ?_
    rcases s_ite hf with ⟨c8, hf⟩ | ⟨c8, hf⟩
    · refine lv_icmp_ne (tgt := 74) hx hb dX4_costOfAbsurd_27 (by decide) (fun n => absurd c8 n) (fun _ => ?_)
      obtain ⟨x6, h9, hf⟩ := s_bind hf
      obtain ⟨x7, h10, hf⟩ := s_bind hf
      obtain ⟨x8, h11, hf⟩ := s_bind hf
      obtain ⟨q9, h12, hf⟩ := s_bind hf
      obtain ⟨q10, h13, hf⟩ := s_bind hf
      have le14 : s_le q10.2 (e_I r).2 := by
        refine s_lek hem_I ?_ k
        rcases s_ite hf with ⟨-, hf⟩ | ⟨-, hf⟩
        · cases hf
          exact s_le.rf
        · obtain ⟨q11, hh, hf⟩ := s_bind hf
          refine s_lz.tr (l_X4_costAt hh) ?_
          obtain ⟨q12, hh, hf⟩ := s_bind hf
          refine s_lz.tr (l_X4_costAt hh) ?_
          cases hf
          exact s_le.rf
      have le15 := s_le.tr (l_X4_placeOf h13) le14
      refine lv_aload_n hx hb dX4_costOfAbsurd_30 rfl (lv_at hl 0 rfl) ?_
      refine lv_aload_n hx hb dX4_costOfAbsurd_31 rfl (lv_at hl 0 rfl) ?_
      refine r_gr X I fl_X4_30 h9 dX4_costOfAbsurd_32 ?_
      refine lv_aload_n hx hb dX4_costOfAbsurd_35 rfl (lv_at hl 0 rfl) ?_
      refine r_gr X I fl_X4_11 h10 dX4_costOfAbsurd_36 ?_
      refine lv_iload_n hx hb dX4_costOfAbsurd_39 rfl (lv_at hl 3 rfl) ?_
      refine r_iald X I h11 dX4_costOfAbsurd_40 ?_
      refine r_callV (Y := M_X2_firstOf) (v := some (.int q9.1)) X I w_1299 my_X2_firstOf (by omega) (t_X2_firstOf (G := G) (d := d + 0) h12) (b_X2_firstOf h12) rfl rfl hl.1 rfl (Nat.le_of_ble_eq_true rfl) hn le15 dX4_costOfAbsurd_41 (fun H locs cells slots I hn1 hn2 => ?_)
      have I : s_I G q9.2 s H locs := I
      have hn : cells + σ0.2.1 ≤ q9.2.2.1 ∧ slots + σ0.2.2.1 ≤ q9.2.2.2.1 := ⟨hn1, hn2⟩
      refine r_callV (Y := M_X4_placeOf) (v := some (.int q10.1)) X I w_1292 my_X4_placeOf (by omega) (t_X4_placeOf (G := G) (d := d + 0) h13) (b_X4_placeOf h13) rfl rfl hl.1 rfl (Nat.le_of_ble_eq_true rfl) hn le14 dX4_costOfAbsurd_44 (fun H locs cells slots I hn1 hn2 => ?_)
      have I : s_I G q10.2 s H locs := I
      have hn : cells + σ0.2.1 ≤ q10.2.2.1 ∧ slots + σ0.2.2.1 ≤ q10.2.2.2.1 := ⟨hn1, hn2⟩
      refine lv_istore (lv' := [(4, .int q10.1), (0, .ref v0), (1, .int v1), (2, .int v2), (3, .int v3)]) hx hb dX4_costOfAbsurd_47 hl (by decide) rfl (fun ls hl => ?_)
      refine lv_iload hx hb dX4_costOfAbsurd_49 (lv_at hl 0 rfl) ?_
      refine lv_iconst (v := (-1)) hx hb dX4_costOfAbsurd_51 (by decide) ?_
      rcases s_ite hf with ⟨c16, hf⟩ | ⟨c16, hf⟩
      · refine lv_icmp_eq (tgt := 74) hx hb dX4_costOfAbsurd_52 (by decide) (fun _ => ?_) (fun n => absurd c16 n)
        cases hf
        have k : s_V G (d + 2) M_X4_costOfAbsurd vs0 σ0 Y_X4_costOfAbsurd (74, [.ref v0, .int v1, .int v2, .int v3], q10.2) (e_I r) := k
        exact k.2 p e s m below meth c _ _ _ _ _ X I hn.1 hn.2 (lv_sub hl [1, 2, 3, 4] rfl)
      · refine lv_icmp_eq (tgt := 74) hx hb dX4_costOfAbsurd_52 (by decide) (fun n => absurd n c16) (fun _ => ?_)
        obtain ⟨q11, h17, hf⟩ := s_bind hf
        obtain ⟨q12, h18, hf⟩ := s_bind hf
        cases hf
        have k : s_V G (d + 2) M_X4_costOfAbsurd vs0 σ0 Y_X4_costOfAbsurd (74, [.ref v0, .int v1, .int (if (q11.1 + q12.1) < v2 then (q11.1 + q12.1) else v2), .int v3], q12.2) (e_I r) := k
        have le19 : s_le q12.2 (e_I r).2 := k.1
        have le20 := s_le.tr (l_X4_costAt h18) le19
        refine lv_iload_n hx hb dX4_costOfAbsurd_55 rfl (lv_at hl 3 rfl) ?_
        refine lv_aload_n hx hb dX4_costOfAbsurd_56 rfl (lv_at hl 1 rfl) ?_
        refine lv_iload_n hx hb dX4_costOfAbsurd_57 rfl (lv_at hl 2 rfl) ?_
        refine lv_iload_n hx hb dX4_costOfAbsurd_58 rfl (lv_at hl 4 rfl) ?_
        refine r_callV (Y := M_X4_costAt) (v := some (.int q11.1)) X I w_1372 my_X4_costAt (by omega) (t_X4_costAt (G := G) (d := d + 0) h17) (b_X4_costAt h17) rfl rfl hl.1 rfl (Nat.le_of_ble_eq_true rfl) hn le20 dX4_costOfAbsurd_59 (fun H locs cells slots I hn1 hn2 => ?_)
        have I : s_I G q11.2 s H locs := I
        have hn : cells + σ0.2.1 ≤ q11.2.2.1 ∧ slots + σ0.2.2.1 ≤ q11.2.2.2.1 := ⟨hn1, hn2⟩
        refine lv_aload_n hx hb dX4_costOfAbsurd_62 rfl (lv_at hl 1 rfl) ?_
        refine lv_iload_n hx hb dX4_costOfAbsurd_63 rfl (lv_at hl 2 rfl) ?_
        refine lv_iload hx hb dX4_costOfAbsurd_64 (lv_at hl 0 rfl) ?_
        refine r_callV (Y := M_X4_costAt) (v := some (.int q12.1)) X I w_1372 my_X4_costAt (by omega) (t_X4_costAt (G := G) (d := d + 0) h18) (b_X4_costAt h18) rfl rfl hl.1 rfl (Nat.le_of_ble_eq_true rfl) hn le19 dX4_costOfAbsurd_66 (fun H locs cells slots I hn1 hn2 => ?_)
        have I : s_I G q12.2 s H locs := I
        have hn : cells + σ0.2.1 ≤ q12.2.2.1 ∧ slots + σ0.2.2.1 ≤ q12.2.2.2.1 := ⟨hn1, hn2⟩
        refine lv_iadd hx hb dX4_costOfAbsurd_69 ?_
        refine r_mmin X w_1363 w_765 w_179 w_766 hl.1 (Nat.le_of_ble_eq_true rfl) hn le19 dX4_costOfAbsurd_70 ?_
        refine lv_istore_n (lv' := [(2, .int (if (q11.1 + q12.1) < v2 then (q11.1 + q12.1) else v2)), (4, .int q10.1), (0, .ref v0), (1, .int v1), (3, .int v3)]) hx hb dX4_costOfAbsurd_73 rfl hl (by decide) rfl (fun ls hl => ?_)
        exact k.2 p e s m below meth c _ _ _ _ _ X I hn.1 hn.2 (lv_sub hl [2, 3, 0, 4] rfl)
    · refine lv_icmp_ne (tgt := 74) hx hb dX4_costOfAbsurd_27 (by decide) (fun _ => ?_) (fun n => absurd n c8)
      cases hf
      have k : s_V G (d + 2) M_X4_costOfAbsurd vs0 σ0 Y_X4_costOfAbsurd (74, [.ref v0, .int v1, .int v2, .int v3], q5.2) (e_I r) := k
      exact k.2 p e s m below meth c _ _ _ _ _ X I hn.1 hn.2 (lv_sub hl [0, 1, 2, 3] rfl)
set_option maxRecDepth 100000 in
set_option maxHeartbeats 4000000 in
theorem v_X4_costOfAbsurd_74 {G : sG} {d : Nat} {vs0 : List Value} {σ0 : sS} {v0 : Nat} {v1 : Int32} {v2 : Int32} {v3 : Int32} {σ : sS} {z : sZ Int32} {r : Int32 × sS} (hf : T_X4_costOfAbsurd_74 v0 v1 v2 v3 σ = some z) (k : s_K G (d + 2) M_X4_costOfAbsurd vs0 σ0 Y_X4_costOfAbsurd e_I z r) : s_V G (d + 2) M_X4_costOfAbsurd vs0 σ0 Y_X4_costOfAbsurd (74, [.ref v0, .int v1, .int v2, .int v3], σ) (e_I r) := by
  have le0 : s_le σ (e_I r).2 := s_lek hem_I (l_X4_costOfAbsurd_74 hf) k
  refine ⟨le0, ?_⟩
  intro p e s m below meth c H locs cells slots ls X I hn1 hn2 hl
  have hn : cells + σ0.2.1 ≤ σ.2.1 ∧ slots + σ0.2.2.1 ≤ σ.2.2.1 := ⟨hn1, hn2⟩
  have hl : lv_has ls 5 [(0, .ref v0), (1, .int v1), (2, .int v2), (3, .int v3)] := hl
  have hx := X.1
  have hb : c.code = cX4_costOfAbsurd := X.2.1
  have hown : s.vm.findClass RX4 = some m.cls := X.2.2.2.2.2.1
  have hts := X.2.2.2.2.2.2.1
  refine W.eq (g2 := F0 m 74 ls []) rfl ?_
  unfold T_X4_costOfAbsurd_74 at hf
  cases hf
  have k : s_V G (d + 2) M_X4_costOfAbsurd vs0 σ0 Y_X4_costOfAbsurd (5, [.ref v0, .int v1, .int v2, .int (v3 + 1)], σ) (e_I r) := k
  refine lv_iinc (v := (v3 + 1)) (lv' := [(3, .int (v3 + 1)), (0, .ref v0), (1, .int v1), (2, .int v2)]) hx hb dX4_costOfAbsurd_74 hl (k := 3) rfl rfl (by decide) rfl (fun ls hl => ?_)
  refine lv_goto (tgt := 5) hx hb dX4_costOfAbsurd_77 (by decide) ?_
  exact k.2 p e s m below meth c _ _ _ _ _ X I hn.1 hn.2 (lv_sub hl [1, 2, 3, 0] rfl)
theorem v_X4_costOfAbsurd {G : sG} {d : Nat} {vs0 : List Value} {σ0 : sS} {x : sL} {z : sZ Int32} {r : Int32 × sS} (hs : S_X4_costOfAbsurd x = some z) (k : s_K G (d + 2) M_X4_costOfAbsurd vs0 σ0 Y_X4_costOfAbsurd e_I z r) : s_V G (d + 2) M_X4_costOfAbsurd vs0 σ0 Y_X4_costOfAbsurd x (e_I r) := by
  obtain ⟨pc, vs, σ⟩ := x
  unfold S_X4_costOfAbsurd at hs
  dsimp only at hs
  rcases s_ite hs with ⟨c, hs⟩ | ⟨-, hs⟩
  · subst c
    unfold U_X4_costOfAbsurd_0 at hs
    obtain ⟨a0, g0, hs⟩ := s_bind hs
    obtain ⟨a1, g1, hs⟩ := s_bind hs
    obtain ⟨u9, ge, hs⟩ := s_bind hs
    rw [g_r_to g0, g_i_to g1, g_e_to ge]
    exact v_X4_costOfAbsurd_0 hs k
  rcases s_ite hs with ⟨c, hs⟩ | ⟨-, hs⟩
  · subst c
    unfold U_X4_costOfAbsurd_5 at hs
    obtain ⟨a0, g0, hs⟩ := s_bind hs
    obtain ⟨a1, g1, hs⟩ := s_bind hs
    obtain ⟨a2, g2, hs⟩ := s_bind hs
    obtain ⟨a3, g3, hs⟩ := s_bind hs
    obtain ⟨u9, ge, hs⟩ := s_bind hs
    rw [g_r_to g0, g_i_to g1, g_i_to g2, g_i_to g3, g_e_to ge]
    exact v_X4_costOfAbsurd_5 hs k
  rcases s_ite hs with ⟨c, hs⟩ | ⟨-, hs⟩
  · subst c
    unfold U_X4_costOfAbsurd_74 at hs
    obtain ⟨a0, g0, hs⟩ := s_bind hs
    obtain ⟨a1, g1, hs⟩ := s_bind hs
    obtain ⟨a2, g2, hs⟩ := s_bind hs
    obtain ⟨a3, g3, hs⟩ := s_bind hs
    obtain ⟨u9, ge, hs⟩ := s_bind hs
    rw [g_r_to g0, g_i_to g1, g_i_to g2, g_i_to g3, g_e_to ge]
    exact v_X4_costOfAbsurd_74 hs k
  cases hs
theorem t_X4_costOfAbsurd {G : sG} {d : Nat} {v0 : Nat} {v1 : Int32} {σ : sS} {q : Int32 × sS} (h : F_X4_costOfAbsurd v0 v1 σ = some q) : s_T G (d + 2) M_X4_costOfAbsurd [.ref v0, .int v1] σ (e_I q) := by
  unfold F_X4_costOfAbsurd at h
  obtain ⟨-, -, h⟩ := s_bind h
  exact s_ofV rfl (by decide) (Nat.le_of_ble_eq_true rfl) rfl rfl (s_run_ind (V := fun x r => s_V G (d + 2) M_X4_costOfAbsurd [.ref v0, .int v1] σ Y_X4_costOfAbsurd x (e_I r)) (fun x z r hs hk => v_X4_costOfAbsurd hs (by cases z <;> exact hk)) h)
/-! X4_settle -/
noncomputable def T_X4_settle_0 (v0 : Nat) (v1 : Int32) (σ : sS) : Option (sZ Unit) :=
  some (.inl (2, [.ref v0, .int v1, .int 0], σ))
noncomputable def U_X4_settle_0 (vs : List Value) (σ : sS) : Option (sZ Unit) := (g_r vs).bind fun a0 => (g_i a0.2).bind fun a1 => (g_e a1.2).bind fun _ => T_X4_settle_0 a0.1 a1.1 σ
noncomputable def T_X4_settle_2 (v0 : Nat) (v1 : Int32) (v2 : Int32) (σ : sS) : Option (sZ Unit) :=
  (s_fi σ v0 4 8).bind fun x1 =>
  if x1 ≤ v2 then (some (.inl (37, [.ref v0, .int v1, .int 1, .int 0], σ)))
  else ((s_fr σ v0 4 7).bind fun x2 =>
  (F_X4_costAlone v0 v1 v2 σ).bind fun q3 =>
  (s_si q3.2 x2 ((v1 * 40) + v2) q3.1).bind fun σ4 =>
  some (.inl (2, [.ref v0, .int v1, .int (v2 + 1)], σ4)))
noncomputable def U_X4_settle_2 (vs : List Value) (σ : sS) : Option (sZ Unit) := (g_r vs).bind fun a0 => (g_i a0.2).bind fun a1 => (g_i a1.2).bind fun a2 => (g_e a2.2).bind fun _ => T_X4_settle_2 a0.1 a1.1 a2.1 σ
noncomputable def T_X4_settle_37 (v0 : Nat) (v1 : Int32) (v2 : Int32) (v3 : Int32) (σ : sS) : Option (sZ Unit) :=
  if (40 : Int32) < v3 then (some (.inr ((), σ)))
  else (if v2 = 0 then (some (.inr ((), σ)))
  else (some (.inl (52, [.ref v0, .int v1, .int 0, .int v3, .int 0], σ))))
noncomputable def U_X4_settle_37 (vs : List Value) (σ : sS) : Option (sZ Unit) := (g_r vs).bind fun a0 => (g_i a0.2).bind fun a1 => (g_i a1.2).bind fun a2 => (g_i a2.2).bind fun a3 => (g_e a3.2).bind fun _ => T_X4_settle_37 a0.1 a1.1 a2.1 a3.1 σ
noncomputable def T_X4_settle_52 (v0 : Nat) (v1 : Int32) (v2 : Int32) (v3 : Int32) (v4 : Int32) (σ : sS) : Option (sZ Unit) :=
  (s_fi σ v0 4 10).bind fun x1 =>
  if x1 ≤ v4 then ((F_X4_costOfAbsurd v0 v1 σ).bind fun q2 =>
  some (.inl (105, [.ref v0, .int v1, .int v2, .int v3, .int q2.1, .int 0], q2.2)))
  else ((s_fr σ v0 4 6).bind fun x3 =>
  (s_ai σ x3 ((v4 * 5) + 1)).bind fun x4 =>
  (F_X4_costOfStep v0 v1 v4 σ).bind fun q5 =>
  (F_X4_improve v0 v1 x4 q5.1 q5.2).bind fun q6 =>
  if q6.1 = 0 then (some (.inl (89, [.ref v0, .int v1, .int v2, .int v3, .int v4], q6.2)))
  else (some (.inl (89, [.ref v0, .int v1, .int 1, .int v3, .int v4], q6.2))))
noncomputable def U_X4_settle_52 (vs : List Value) (σ : sS) : Option (sZ Unit) := (g_r vs).bind fun a0 => (g_i a0.2).bind fun a1 => (g_i a1.2).bind fun a2 => (g_i a2.2).bind fun a3 => (g_i a3.2).bind fun a4 => (g_e a4.2).bind fun _ => T_X4_settle_52 a0.1 a1.1 a2.1 a3.1 a4.1 σ
noncomputable def T_X4_settle_89 (v0 : Nat) (v1 : Int32) (v2 : Int32) (v3 : Int32) (v4 : Int32) (σ : sS) : Option (sZ Unit) :=
  some (.inl (52, [.ref v0, .int v1, .int v2, .int v3, .int (v4 + 1)], σ))
noncomputable def U_X4_settle_89 (vs : List Value) (σ : sS) : Option (sZ Unit) := (g_r vs).bind fun a0 => (g_i a0.2).bind fun a1 => (g_i a1.2).bind fun a2 => (g_i a2.2).bind fun a3 => (g_i a3.2).bind fun a4 => (g_e a4.2).bind fun _ => T_X4_settle_89 a0.1 a1.1 a2.1 a3.1 a4.1 σ
noncomputable def T_X4_settle_105 (v0 : Nat) (v1 : Int32) (v2 : Int32) (v3 : Int32) (v4 : Int32) (v5 : Int32) (σ : sS) : Option (sZ Unit) :=
  (s_fi σ v0 4 8).bind fun x1 =>
  if x1 ≤ v5 then (some (.inl (37, [.ref v0, .int v1, .int v2, .int (v3 + 1)], σ)))
  else ((F_X4_lineCost v0 14 v5 σ).bind fun q2 =>
  (F_X4_limited (q2.1 + v4) q2.2).bind fun q3 =>
  (F_X4_improve v0 v1 v5 q3.1 q3.2).bind fun q4 =>
  if q4.1 = 0 then (some (.inl (140, [.ref v0, .int v1, .int v2, .int v3, .int v4, .int v5], q4.2)))
  else (some (.inl (140, [.ref v0, .int v1, .int 1, .int v3, .int v4, .int v5], q4.2))))
noncomputable def U_X4_settle_105 (vs : List Value) (σ : sS) : Option (sZ Unit) := (g_r vs).bind fun a0 => (g_i a0.2).bind fun a1 => (g_i a1.2).bind fun a2 => (g_i a2.2).bind fun a3 => (g_i a3.2).bind fun a4 => (g_i a4.2).bind fun a5 => (g_e a5.2).bind fun _ => T_X4_settle_105 a0.1 a1.1 a2.1 a3.1 a4.1 a5.1 σ
noncomputable def T_X4_settle_140 (v0 : Nat) (v1 : Int32) (v2 : Int32) (v3 : Int32) (v4 : Int32) (v5 : Int32) (σ : sS) : Option (sZ Unit) :=
  some (.inl (105, [.ref v0, .int v1, .int v2, .int v3, .int v4, .int (v5 + 1)], σ))
noncomputable def U_X4_settle_140 (vs : List Value) (σ : sS) : Option (sZ Unit) := (g_r vs).bind fun a0 => (g_i a0.2).bind fun a1 => (g_i a1.2).bind fun a2 => (g_i a2.2).bind fun a3 => (g_i a3.2).bind fun a4 => (g_i a4.2).bind fun a5 => (g_e a5.2).bind fun _ => T_X4_settle_140 a0.1 a1.1 a2.1 a3.1 a4.1 a5.1 σ
noncomputable def S_X4_settle (x : sL) : Option (sZ Unit) := if x.1 = 0 then U_X4_settle_0 x.2.1 x.2.2 else if x.1 = 2 then U_X4_settle_2 x.2.1 x.2.2 else if x.1 = 37 then U_X4_settle_37 x.2.1 x.2.2 else if x.1 = 52 then U_X4_settle_52 x.2.1 x.2.2 else if x.1 = 89 then U_X4_settle_89 x.2.1 x.2.2 else if x.1 = 105 then U_X4_settle_105 x.2.1 x.2.2 else if x.1 = 140 then U_X4_settle_140 x.2.1 x.2.2 else none
def Y_X4_settle (pc : Nat) : List Nat := if pc = 0 then [0, 1] else if pc = 2 then [0, 1, 2] else if pc = 37 then [0, 1, 2, 3] else if pc = 52 then [0, 1, 2, 3, 4] else if pc = 89 then [0, 1, 2, 3, 4] else if pc = 105 then [0, 1, 2, 3, 4, 5] else if pc = 140 then [0, 1, 2, 3, 4, 5] else []
noncomputable def F_X4_settle (v0 : Nat) (v1 : Int32) (σ : sS) : Option (Unit × sS) := (s_is σ v0 4).bind fun _ => s_run S_X4_settle (0, [.ref v0, .int v1], σ)
theorem l_X4_settle_0 {v0 : Nat} {v1 : Int32} {σ : sS} {z : sZ Unit} (hf : T_X4_settle_0 v0 v1 σ = some z) : s_lz σ z := by
  unfold T_X4_settle_0 at hf
  cases hf
  exact s_le.rf
theorem l_X4_settle_2 {v0 : Nat} {v1 : Int32} {v2 : Int32} {σ : sS} {z : sZ Unit} (hf : T_X4_settle_2 v0 v1 v2 σ = some z) : s_lz σ z := by
  unfold T_X4_settle_2 at hf
  obtain ⟨x1, -, hf⟩ := s_bind hf
  rcases s_ite hf with ⟨-, hf⟩ | ⟨-, hf⟩
  · cases hf
    exact s_le.rf
  · obtain ⟨x2, -, hf⟩ := s_bind hf
    obtain ⟨q3, hh, hf⟩ := s_bind hf
    refine s_lz.tr (l_X4_costAlone hh) ?_
    obtain ⟨σ4, hh, hf⟩ := s_bind hf
    refine s_lz.tr (s_le2 (s_si_2 hh)) ?_
    cases hf
    exact s_le.rf
theorem l_X4_settle_37 {v0 : Nat} {v1 : Int32} {v2 : Int32} {v3 : Int32} {σ : sS} {z : sZ Unit} (hf : T_X4_settle_37 v0 v1 v2 v3 σ = some z) : s_lz σ z := by
  unfold T_X4_settle_37 at hf
  rcases s_ite hf with ⟨-, hf⟩ | ⟨-, hf⟩
  · cases hf
    exact s_le.rf
  · rcases s_ite hf with ⟨-, hf⟩ | ⟨-, hf⟩
    · cases hf
      exact s_le.rf
    · cases hf
      exact s_le.rf
theorem l_X4_settle_52 {v0 : Nat} {v1 : Int32} {v2 : Int32} {v3 : Int32} {v4 : Int32} {σ : sS} {z : sZ Unit} (hf : T_X4_settle_52 v0 v1 v2 v3 v4 σ = some z) : s_lz σ z := by
  unfold T_X4_settle_52 at hf
  obtain ⟨x1, -, hf⟩ := s_bind hf
  rcases s_ite hf with ⟨-, hf⟩ | ⟨-, hf⟩
  · obtain ⟨q2, hh, hf⟩ := s_bind hf
    refine s_lz.tr (l_X4_costOfAbsurd hh) ?_
    cases hf
    exact s_le.rf
  · obtain ⟨x3, -, hf⟩ := s_bind hf
    obtain ⟨x4, -, hf⟩ := s_bind hf
    obtain ⟨q5, hh, hf⟩ := s_bind hf
    refine s_lz.tr (l_X4_costOfStep hh) ?_
    obtain ⟨q6, hh, hf⟩ := s_bind hf
    refine s_lz.tr (l_X4_improve hh) ?_
    rcases s_ite hf with ⟨-, hf⟩ | ⟨-, hf⟩
    · cases hf
      exact s_le.rf
    · cases hf
      exact s_le.rf
theorem l_X4_settle_89 {v0 : Nat} {v1 : Int32} {v2 : Int32} {v3 : Int32} {v4 : Int32} {σ : sS} {z : sZ Unit} (hf : T_X4_settle_89 v0 v1 v2 v3 v4 σ = some z) : s_lz σ z := by
  unfold T_X4_settle_89 at hf
  cases hf
  exact s_le.rf
theorem l_X4_settle_105 {v0 : Nat} {v1 : Int32} {v2 : Int32} {v3 : Int32} {v4 : Int32} {v5 : Int32} {σ : sS} {z : sZ Unit} (hf : T_X4_settle_105 v0 v1 v2 v3 v4 v5 σ = some z) : s_lz σ z := by
  unfold T_X4_settle_105 at hf
  obtain ⟨x1, -, hf⟩ := s_bind hf
  rcases s_ite hf with ⟨-, hf⟩ | ⟨-, hf⟩
  · cases hf
    exact s_le.rf
  · obtain ⟨q2, hh, hf⟩ := s_bind hf
    refine s_lz.tr (l_X4_lineCost hh) ?_
    obtain ⟨q3, hh, hf⟩ := s_bind hf
    refine s_lz.tr (l_X4_limited hh) ?_
    obtain ⟨q4, hh, hf⟩ := s_bind hf
    refine s_lz.tr (l_X4_improve hh) ?_
    rcases s_ite hf with ⟨-, hf⟩ | ⟨-, hf⟩
    · cases hf
      exact s_le.rf
    · cases hf
      exact s_le.rf
theorem l_X4_settle_140 {v0 : Nat} {v1 : Int32} {v2 : Int32} {v3 : Int32} {v4 : Int32} {v5 : Int32} {σ : sS} {z : sZ Unit} (hf : T_X4_settle_140 v0 v1 v2 v3 v4 v5 σ = some z) : s_lz σ z := by
  unfold T_X4_settle_140 at hf
  cases hf
  exact s_le.rf
theorem l_X4_settle_s {x : sL} {z : sZ Unit} (hs : S_X4_settle x = some z) : s_lz x.2.2 z := by
  obtain ⟨pc, vs, σ⟩ := x
  unfold S_X4_settle at hs
  dsimp only at hs ⊢
  rcases s_ite hs with ⟨c, hs⟩ | ⟨-, hs⟩
  · subst c
    unfold U_X4_settle_0 at hs
    obtain ⟨a0, g0, hs⟩ := s_bind hs
    obtain ⟨a1, g1, hs⟩ := s_bind hs
    obtain ⟨u9, ge, hs⟩ := s_bind hs
    exact l_X4_settle_0 hs
  rcases s_ite hs with ⟨c, hs⟩ | ⟨-, hs⟩
  · subst c
    unfold U_X4_settle_2 at hs
    obtain ⟨a0, g0, hs⟩ := s_bind hs
    obtain ⟨a1, g1, hs⟩ := s_bind hs
    obtain ⟨a2, g2, hs⟩ := s_bind hs
    obtain ⟨u9, ge, hs⟩ := s_bind hs
    exact l_X4_settle_2 hs
  rcases s_ite hs with ⟨c, hs⟩ | ⟨-, hs⟩
  · subst c
    unfold U_X4_settle_37 at hs
    obtain ⟨a0, g0, hs⟩ := s_bind hs
    obtain ⟨a1, g1, hs⟩ := s_bind hs
    obtain ⟨a2, g2, hs⟩ := s_bind hs
    obtain ⟨a3, g3, hs⟩ := s_bind hs
    obtain ⟨u9, ge, hs⟩ := s_bind hs
    exact l_X4_settle_37 hs
  rcases s_ite hs with ⟨c, hs⟩ | ⟨-, hs⟩
  · subst c
    unfold U_X4_settle_52 at hs
    obtain ⟨a0, g0, hs⟩ := s_bind hs
    obtain ⟨a1, g1, hs⟩ := s_bind hs
    obtain ⟨a2, g2, hs⟩ := s_bind hs
    obtain ⟨a3, g3, hs⟩ := s_bind hs
    obtain ⟨a4, g4, hs⟩ := s_bind hs
    obtain ⟨u9, ge, hs⟩ := s_bind hs
    exact l_X4_settle_52 hs
  rcases s_ite hs with ⟨c, hs⟩ | ⟨-, hs⟩
  · subst c
    unfold U_X4_settle_89 at hs
    obtain ⟨a0, g0, hs⟩ := s_bind hs
    obtain ⟨a1, g1, hs⟩ := s_bind hs
    obtain ⟨a2, g2, hs⟩ := s_bind hs
    obtain ⟨a3, g3, hs⟩ := s_bind hs
    obtain ⟨a4, g4, hs⟩ := s_bind hs
    obtain ⟨u9, ge, hs⟩ := s_bind hs
    exact l_X4_settle_89 hs
  rcases s_ite hs with ⟨c, hs⟩ | ⟨-, hs⟩
  · subst c
    unfold U_X4_settle_105 at hs
    obtain ⟨a0, g0, hs⟩ := s_bind hs
    obtain ⟨a1, g1, hs⟩ := s_bind hs
    obtain ⟨a2, g2, hs⟩ := s_bind hs
    obtain ⟨a3, g3, hs⟩ := s_bind hs
    obtain ⟨a4, g4, hs⟩ := s_bind hs
    obtain ⟨a5, g5, hs⟩ := s_bind hs
    obtain ⟨u9, ge, hs⟩ := s_bind hs
    exact l_X4_settle_105 hs
  rcases s_ite hs with ⟨c, hs⟩ | ⟨-, hs⟩
  · subst c
    unfold U_X4_settle_140 at hs
    obtain ⟨a0, g0, hs⟩ := s_bind hs
    obtain ⟨a1, g1, hs⟩ := s_bind hs
    obtain ⟨a2, g2, hs⟩ := s_bind hs
    obtain ⟨a3, g3, hs⟩ := s_bind hs
    obtain ⟨a4, g4, hs⟩ := s_bind hs
    obtain ⟨a5, g5, hs⟩ := s_bind hs
    obtain ⟨u9, ge, hs⟩ := s_bind hs
    exact l_X4_settle_140 hs
  cases hs
theorem l_X4_settle {v0 : Nat} {v1 : Int32} {σ : sS} {q : Unit × sS} (h : F_X4_settle v0 v1 σ = some q) : s_le σ q.2 := by
  unfold F_X4_settle at h
  obtain ⟨-, -, h⟩ := s_bind h
  exact s_run_ind (V := fun x r => s_le x.2.2 r.2) (fun x z r hs hk => by
    have h9 := l_X4_settle_s hs
    cases z with
    | inl y => exact s_le.tr h9 hk
    | inr q => cases hk; exact h9) h
theorem b_X4_settle {v0 : Nat} {v1 : Int32} {σ : sS} {q : Unit × sS} (h : F_X4_settle v0 v1 σ = some q) : ∃ fs, σ.1 v0 = some (.inr (4, fs)) := by
  unfold F_X4_settle at h
  obtain ⟨u, hu, -⟩ := s_bind h
  exact s_is_to hu
set_option maxRecDepth 100000 in
set_option maxHeartbeats 4000000 in
theorem v_X4_settle_0 {G : sG} {d : Nat} {vs0 : List Value} {σ0 : sS} {v0 : Nat} {v1 : Int32} {σ : sS} {z : sZ Unit} {r : Unit × sS} (hf : T_X4_settle_0 v0 v1 σ = some z) (k : s_K G (d + 4) M_X4_settle vs0 σ0 Y_X4_settle e_V z r) : s_V G (d + 4) M_X4_settle vs0 σ0 Y_X4_settle (0, [.ref v0, .int v1], σ) (e_V r) := by
  have le0 : s_le σ (e_V r).2 := s_lek hem_V (l_X4_settle_0 hf) k
  refine ⟨le0, ?_⟩
  intro p e s m below meth c H locs cells slots ls X I hn1 hn2 hl
  have hn : cells + σ0.2.1 ≤ σ.2.1 ∧ slots + σ0.2.2.1 ≤ σ.2.2.1 := ⟨hn1, hn2⟩
  have hl : lv_has ls 6 [(0, .ref v0), (1, .int v1)] := hl
  have hx := X.1
  have hb : c.code = cX4_settle := X.2.1
  have hown : s.vm.findClass RX4 = some m.cls := X.2.2.2.2.2.1
  have hts := X.2.2.2.2.2.2.1
  refine W.eq (g2 := F0 m 0 ls []) rfl ?_
  unfold T_X4_settle_0 at hf
  cases hf
  have k : s_V G (d + 4) M_X4_settle vs0 σ0 Y_X4_settle (2, [.ref v0, .int v1, .int 0], σ) (e_V r) := k
  refine lv_iconst (v := 0) hx hb dX4_settle_0 (by decide) ?_
  refine lv_istore_n (lv' := [(2, .int 0), (0, .ref v0), (1, .int v1)]) hx hb dX4_settle_1 rfl hl (by decide) rfl (fun ls hl => ?_)
  exact k.2 p e s m below meth c _ _ _ _ _ X I hn.1 hn.2 (lv_sub hl [1, 2, 0] rfl)
set_option maxRecDepth 100000 in
set_option maxHeartbeats 4000000 in
theorem v_X4_settle_2 {G : sG} {d : Nat} {vs0 : List Value} {σ0 : sS} {v0 : Nat} {v1 : Int32} {v2 : Int32} {σ : sS} {z : sZ Unit} {r : Unit × sS} (hf : T_X4_settle_2 v0 v1 v2 σ = some z) (k : s_K G (d + 4) M_X4_settle vs0 σ0 Y_X4_settle e_V z r) : s_V G (d + 4) M_X4_settle vs0 σ0 Y_X4_settle (2, [.ref v0, .int v1, .int v2], σ) (e_V r) := by
  have le0 : s_le σ (e_V r).2 := s_lek hem_V (l_X4_settle_2 hf) k
  refine ⟨le0, ?_⟩
  intro p e s m below meth c H locs cells slots ls X I hn1 hn2 hl
  have hn : cells + σ0.2.1 ≤ σ.2.1 ∧ slots + σ0.2.2.1 ≤ σ.2.2.1 := ⟨hn1, hn2⟩
  have hl : lv_has ls 6 [(0, .ref v0), (1, .int v1), (2, .int v2)] := hl
  have hx := X.1
  have hb : c.code = cX4_settle := X.2.1
  have hown : s.vm.findClass RX4 = some m.cls := X.2.2.2.2.2.1
  have hts := X.2.2.2.2.2.2.1
  refine W.eq (g2 := F0 m 2 ls []) rfl ?_
  unfold T_X4_settle_2 at hf
  obtain ⟨x1, h1, hf⟩ := s_bind hf
  refine lv_iload_n hx hb dX4_settle_2 rfl (lv_at hl 2 rfl) ?_
  refine lv_aload_n hx hb dX4_settle_3 rfl (lv_at hl 0 rfl) ?_
  refine r_gi X I fl_X4_48 h1 dX4_settle_4 ?_
  rcases s_ite hf with ⟨c2, hf⟩ | ⟨c2, hf⟩
  · refine lv_icmp_ge (tgt := 33) hx hb dX4_settle_7 (by decide) (fun _ => ?_) (fun n => absurd c2 n)
    cases hf
    have k : s_V G (d + 4) M_X4_settle vs0 σ0 Y_X4_settle (37, [.ref v0, .int v1, .int 1, .int 0], σ) (e_V r) := k
    refine lv_iconst (v := 1) hx hb dX4_settle_33 (by decide) ?_
    refine lv_istore_n (lv' := [(2, .int 1), (0, .ref v0), (1, .int v1)]) hx hb dX4_settle_34 rfl hl (by decide) rfl (fun ls hl => ?_)
    refine lv_iconst (v := 0) hx hb dX4_settle_35 (by decide) ?_
    refine lv_istore_n (lv' := [(3, .int 0), (2, .int 1), (0, .ref v0), (1, .int v1)]) hx hb dX4_settle_36 rfl hl (by decide) rfl (fun ls hl => ?_)
    exact k.2 p e s m below meth c _ _ _ _ _ X I hn.1 hn.2 (lv_sub hl [2, 3, 1, 0] rfl)
  · refine lv_icmp_ge (tgt := 33) hx hb dX4_settle_7 (by decide) (fun n => absurd n c2) (fun _ => ?_)
    obtain ⟨x2, h3, hf⟩ := s_bind hf
    obtain ⟨q3, h4, hf⟩ := s_bind hf
    obtain ⟨σ4, h5, hf⟩ := s_bind hf
    cases hf
    have k : s_V G (d + 4) M_X4_settle vs0 σ0 Y_X4_settle (2, [.ref v0, .int v1, .int (v2 + 1)], σ4) (e_V r) := k
    have le6 : s_le σ4 (e_V r).2 := k.1
    have le7 := s_le.tr (s_le2 (s_si_2 h5)) le6
    refine lv_aload_n hx hb dX4_settle_10 rfl (lv_at hl 0 rfl) ?_
    refine r_gr X I fl_X4_27 h3 dX4_settle_11 ?_
    refine lv_iload_n hx hb dX4_settle_14 rfl (lv_at hl 1 rfl) ?_
    refine lv_bipush (v := 40) hx hb dX4_settle_15 (by decide) ?_
    refine lv_imul hx hb dX4_settle_17 ?_
    refine lv_iload_n hx hb dX4_settle_18 rfl (lv_at hl 2 rfl) ?_
    refine lv_iadd hx hb dX4_settle_19 ?_
    refine lv_aload_n hx hb dX4_settle_20 rfl (lv_at hl 0 rfl) ?_
    refine lv_iload_n hx hb dX4_settle_21 rfl (lv_at hl 1 rfl) ?_
    refine lv_iload_n hx hb dX4_settle_22 rfl (lv_at hl 2 rfl) ?_
    refine r_callV (Y := M_X4_costAlone) (v := some (.int q3.1)) X I w_1354 my_X4_costAlone (by omega) (t_X4_costAlone (G := G) (d := d + 1) h4) (b_X4_costAlone h4) rfl rfl hl.1 rfl (Nat.le_of_ble_eq_true rfl) hn le7 dX4_settle_23 (fun H locs cells slots I hn1 hn2 => ?_)
    have I : s_I G q3.2 s H locs := I
    have hn : cells + σ0.2.1 ≤ q3.2.2.1 ∧ slots + σ0.2.2.1 ≤ q3.2.2.2.1 := ⟨hn1, hn2⟩
    refine r_iast X I h5 dX4_settle_26 (fun H locs I => ?_)
    have hn := s_k2 (s_si_2 h5) hn
    refine lv_iinc (v := (v2 + 1)) (lv' := [(2, .int (v2 + 1)), (0, .ref v0), (1, .int v1)]) hx hb dX4_settle_27 hl (k := 2) rfl rfl (by decide) rfl (fun ls hl => ?_)
    refine lv_goto (tgt := 2) hx hb dX4_settle_30 (by decide) ?_
    exact k.2 p e s m below meth c _ _ _ _ _ X I hn.1 hn.2 (lv_sub hl [1, 2, 0] rfl)
set_option maxRecDepth 100000 in
set_option maxHeartbeats 4000000 in
theorem v_X4_settle_37 {G : sG} {d : Nat} {vs0 : List Value} {σ0 : sS} {v0 : Nat} {v1 : Int32} {v2 : Int32} {v3 : Int32} {σ : sS} {z : sZ Unit} {r : Unit × sS} (hf : T_X4_settle_37 v0 v1 v2 v3 σ = some z) (k : s_K G (d + 4) M_X4_settle vs0 σ0 Y_X4_settle e_V z r) : s_V G (d + 4) M_X4_settle vs0 σ0 Y_X4_settle (37, [.ref v0, .int v1, .int v2, .int v3], σ) (e_V r) := by
  have le0 : s_le σ (e_V r).2 := s_lek hem_V (l_X4_settle_37 hf) k
  refine ⟨le0, ?_⟩
  intro p e s m below meth c H locs cells slots ls X I hn1 hn2 hl
  have hn : cells + σ0.2.1 ≤ σ.2.1 ∧ slots + σ0.2.2.1 ≤ σ.2.2.1 := ⟨hn1, hn2⟩
  have hl : lv_has ls 6 [(0, .ref v0), (1, .int v1), (2, .int v2), (3, .int v3)] := hl
  have hx := X.1
  have hb : c.code = cX4_settle := X.2.1
  have hown : s.vm.findClass RX4 = some m.cls := X.2.2.2.2.2.1
  have hts := X.2.2.2.2.2.2.1
  refine W.eq (g2 := F0 m 37 ls []) rfl ?_
  unfold T_X4_settle_37 at hf
  refine lv_iload_n hx hb dX4_settle_37 rfl (lv_at hl 3 rfl) ?_
  refine lv_bipush (v := 40) hx hb dX4_settle_38 (by decide) ?_
  rcases s_ite hf with ⟨c1, hf⟩ | ⟨c1, hf⟩
  · refine lv_icmp_gt (tgt := 152) hx hb dX4_settle_40 (by decide) (fun _ => ?_) (fun n => absurd c1 n)
    cases hf
    have k : _ = r := k
    subst k
    exact r_vret X I rfl rfl hn dX4_settle_152
  · refine lv_icmp_gt (tgt := 152) hx hb dX4_settle_40 (by decide) (fun n => absurd n c1) (fun _ => ?_)
    refine lv_iload_n hx hb dX4_settle_43 rfl (lv_at hl 2 rfl) ?_
    rcases s_ite hf with ⟨c2, hf⟩ | ⟨c2, hf⟩
    · refine lv_if_eq (tgt := 152) hx hb dX4_settle_44 (by decide) (fun _ => ?_) (fun n => absurd c2 n)
      cases hf
      have k : _ = r := k
      subst k
      exact r_vret X I rfl rfl hn dX4_settle_152
    · refine lv_if_eq (tgt := 152) hx hb dX4_settle_44 (by decide) (fun n => absurd n c2) (fun _ => ?_)
      cases hf
      have k : s_V G (d + 4) M_X4_settle vs0 σ0 Y_X4_settle (52, [.ref v0, .int v1, .int 0, .int v3, .int 0], σ) (e_V r) := k
      refine lv_iconst (v := 0) hx hb dX4_settle_47 (by decide) ?_
      refine lv_istore_n (lv' := [(2, .int 0), (0, .ref v0), (1, .int v1), (3, .int v3)]) hx hb dX4_settle_48 rfl hl (by decide) rfl (fun ls hl => ?_)
      refine lv_iconst (v := 0) hx hb dX4_settle_49 (by decide) ?_
      refine lv_istore (lv' := [(4, .int 0), (2, .int 0), (0, .ref v0), (1, .int v1), (3, .int v3)]) hx hb dX4_settle_50 hl (by decide) rfl (fun ls hl => ?_)
      exact k.2 p e s m below meth c _ _ _ _ _ X I hn.1 hn.2 (lv_sub hl [2, 3, 1, 4, 0] rfl)
set_option maxRecDepth 100000 in
set_option maxHeartbeats 4000000 in
theorem v_X4_settle_52 {G : sG} {d : Nat} {vs0 : List Value} {σ0 : sS} {v0 : Nat} {v1 : Int32} {v2 : Int32} {v3 : Int32} {v4 : Int32} {σ : sS} {z : sZ Unit} {r : Unit × sS} (hf : T_X4_settle_52 v0 v1 v2 v3 v4 σ = some z) (k : s_K G (d + 4) M_X4_settle vs0 σ0 Y_X4_settle e_V z r) : s_V G (d + 4) M_X4_settle vs0 σ0 Y_X4_settle (52, [.ref v0, .int v1, .int v2, .int v3, .int v4], σ) (e_V r) := by
  have le0 : s_le σ (e_V r).2 := s_lek hem_V (l_X4_settle_52 hf) k
  refine ⟨le0, ?_⟩
  intro p e s m below meth c H locs cells slots ls X I hn1 hn2 hl
  have hn : cells + σ0.2.1 ≤ σ.2.1 ∧ slots + σ0.2.2.1 ≤ σ.2.2.1 := ⟨hn1, hn2⟩
  have hl : lv_has ls 6 [(0, .ref v0), (1, .int v1), (2, .int v2), (3, .int v3), (4, .int v4)] := hl
  have hx := X.1
  have hb : c.code = cX4_settle := X.2.1
  have hown : s.vm.findClass RX4 = some m.cls := X.2.2.2.2.2.1
  have hts := X.2.2.2.2.2.2.1
  refine W.eq (g2 := F0 m 52 ls []) rfl ?_
  unfold T_X4_settle_52 at hf
  obtain ⟨x1, h1, hf⟩ := s_bind hf
  refine lv_iload hx hb dX4_settle_52 (lv_at hl 4 rfl) ?_
  refine lv_aload_n hx hb dX4_settle_54 rfl (lv_at hl 0 rfl) ?_
  refine r_gi X I fl_X4_54 h1 dX4_settle_55 ?_
  rcases s_ite hf with ⟨c2, hf⟩ | ⟨c2, hf⟩
  · refine lv_icmp_ge (tgt := 95) hx hb dX4_settle_58 (by decide) (fun _ => ?_) (fun n => absurd c2 n)
    obtain ⟨q2, h3, hf⟩ := s_bind hf
    cases hf
    have k : s_V G (d + 4) M_X4_settle vs0 σ0 Y_X4_settle (105, [.ref v0, .int v1, .int v2, .int v3, .int q2.1, .int 0], q2.2) (e_V r) := k
    have le4 : s_le q2.2 (e_V r).2 := k.1
    refine lv_aload_n hx hb dX4_settle_95 rfl (lv_at hl 0 rfl) ?_
    refine lv_iload_n hx hb dX4_settle_96 rfl (lv_at hl 1 rfl) ?_
    refine r_callV (Y := M_X4_costOfAbsurd) (v := some (.int q2.1)) X I w_1384 my_X4_costOfAbsurd (by omega) (t_X4_costOfAbsurd (G := G) (d := d + 1) h3) (b_X4_costOfAbsurd h3) rfl rfl hl.1 rfl (Nat.le_of_ble_eq_true rfl) hn le4 dX4_settle_97 (fun H locs cells slots I hn1 hn2 => ?_)
    have I : s_I G q2.2 s H locs := I
    have hn : cells + σ0.2.1 ≤ q2.2.2.1 ∧ slots + σ0.2.2.1 ≤ q2.2.2.2.1 := ⟨hn1, hn2⟩
    refine lv_istore (lv' := [(4, .int q2.1), (0, .ref v0), (1, .int v1), (2, .int v2), (3, .int v3)]) hx hb dX4_settle_100 hl (by decide) rfl (fun ls hl => ?_)
    refine lv_iconst (v := 0) hx hb dX4_settle_102 (by decide) ?_
    refine lv_istore (lv' := [(5, .int 0), (4, .int q2.1), (0, .ref v0), (1, .int v1), (2, .int v2), (3, .int v3)]) hx hb dX4_settle_103 hl (by decide) rfl (fun ls hl => ?_)
    exact k.2 p e s m below meth c _ _ _ _ _ X I hn.1 hn.2 (lv_sub hl [2, 3, 4, 5, 1, 0] rfl)
  · refine lv_icmp_ge (tgt := 95) hx hb dX4_settle_58 (by decide) (fun n => absurd n c2) (fun _ => ?_)
    obtain ⟨x3, h5, hf⟩ := s_bind hf
    obtain ⟨x4, h6, hf⟩ := s_bind hf
    obtain ⟨q5, h7, hf⟩ := s_bind hf
    obtain ⟨q6, h8, hf⟩ := s_bind hf
    have le9 : s_le q6.2 (e_V r).2 := by
      refine s_lek hem_V ?_ k
      rcases s_ite hf with ⟨-, hf⟩ | ⟨-, hf⟩
      · cases hf
        exact s_le.rf
      · cases hf
        exact s_le.rf
    have le10 := s_le.tr (l_X4_improve h8) le9
    refine lv_aload_n hx hb dX4_settle_61 rfl (lv_at hl 0 rfl) ?_
    refine lv_iload_n hx hb dX4_settle_62 rfl (lv_at hl 1 rfl) ?_
    refine lv_aload_n hx hb dX4_settle_63 rfl (lv_at hl 0 rfl) ?_
    refine r_gr X I fl_X4_24 h5 dX4_settle_64 ?_
    refine lv_iload hx hb dX4_settle_67 (lv_at hl 4 rfl) ?_
    refine lv_iconst (v := 5) hx hb dX4_settle_69 (by decide) ?_
    refine lv_imul hx hb dX4_settle_70 ?_
    refine lv_iconst (v := 1) hx hb dX4_settle_71 (by decide) ?_
    refine lv_iadd hx hb dX4_settle_72 ?_
    refine r_iald X I h6 dX4_settle_73 ?_
    refine lv_aload_n hx hb dX4_settle_74 rfl (lv_at hl 0 rfl) ?_
    refine lv_iload_n hx hb dX4_settle_75 rfl (lv_at hl 1 rfl) ?_
    refine lv_iload hx hb dX4_settle_76 (lv_at hl 4 rfl) ?_
    refine r_callV (Y := M_X4_costOfStep) (v := some (.int q5.1)) X I w_1364 my_X4_costOfStep (by omega) (t_X4_costOfStep (G := G) (d := d + 0) h7) (b_X4_costOfStep h7) rfl rfl hl.1 rfl (Nat.le_of_ble_eq_true rfl) hn le10 dX4_settle_78 (fun H locs cells slots I hn1 hn2 => ?_)
    have I : s_I G q5.2 s H locs := I
    have hn : cells + σ0.2.1 ≤ q5.2.2.1 ∧ slots + σ0.2.2.1 ≤ q5.2.2.2.1 := ⟨hn1, hn2⟩
    refine r_callV (Y := M_X4_improve) (v := some (.int q6.1)) X I w_1380 my_X4_improve (by omega) (t_X4_improve (G := G) (d := d + 2) h8) (b_X4_improve h8) rfl rfl hl.1 rfl (Nat.le_of_ble_eq_true rfl) hn le9 dX4_settle_81 (fun H locs cells slots I hn1 hn2 => ?_)
    have I : s_I G q6.2 s H locs := I
    have hn : cells + σ0.2.1 ≤ q6.2.2.1 ∧ slots + σ0.2.2.1 ≤ q6.2.2.2.1 := ⟨hn1, hn2⟩
    rcases s_ite hf with ⟨c11, hf⟩ | ⟨c11, hf⟩
    · refine lv_if_eq (tgt := 89) hx hb dX4_settle_84 (by decide) (fun _ => ?_) (fun n => absurd c11 n)
      cases hf
      have k : s_V G (d + 4) M_X4_settle vs0 σ0 Y_X4_settle (89, [.ref v0, .int v1, .int v2, .int v3, .int v4], q6.2) (e_V r) := k
      exact k.2 p e s m below meth c _ _ _ _ _ X I hn.1 hn.2 (lv_sub hl [0, 1, 2, 3, 4] rfl)
    · refine lv_if_eq (tgt := 89) hx hb dX4_settle_84 (by decide) (fun n => absurd n c11) (fun _ => ?_)
      cases hf
      have k : s_V G (d + 4) M_X4_settle vs0 σ0 Y_X4_settle (89, [.ref v0, .int v1, .int 1, .int v3, .int v4], q6.2) (e_V r) := k
      refine lv_iconst (v := 1) hx hb dX4_settle_87 (by decide) ?_
      refine lv_istore_n (lv' := [(2, .int 1), (0, .ref v0), (1, .int v1), (3, .int v3), (4, .int v4)]) hx hb dX4_settle_88 rfl hl (by decide) rfl (fun ls hl => ?_)
      exact k.2 p e s m below meth c _ _ _ _ _ X I hn.1 hn.2 (lv_sub hl [1, 2, 0, 3, 4] rfl)
set_option maxRecDepth 100000 in
set_option maxHeartbeats 4000000 in
theorem v_X4_settle_89 {G : sG} {d : Nat} {vs0 : List Value} {σ0 : sS} {v0 : Nat} {v1 : Int32} {v2 : Int32} {v3 : Int32} {v4 : Int32} {σ : sS} {z : sZ Unit} {r : Unit × sS} (hf : T_X4_settle_89 v0 v1 v2 v3 v4 σ = some z) (k : s_K G (d + 4) M_X4_settle vs0 σ0 Y_X4_settle e_V z r) : s_V G (d + 4) M_X4_settle vs0 σ0 Y_X4_settle (89, [.ref v0, .int v1, .int v2, .int v3, .int v4], σ) (e_V r) := by
  have le0 : s_le σ (e_V r).2 := s_lek hem_V (l_X4_settle_89 hf) k
  refine ⟨le0, ?_⟩
  intro p e s m below meth c H locs cells slots ls X I hn1 hn2 hl
  have hn : cells + σ0.2.1 ≤ σ.2.1 ∧ slots + σ0.2.2.1 ≤ σ.2.2.1 := ⟨hn1, hn2⟩
  have hl : lv_has ls 6 [(0, .ref v0), (1, .int v1), (2, .int v2), (3, .int v3), (4, .int v4)] := hl
  have hx := X.1
  have hb : c.code = cX4_settle := X.2.1
  have hown : s.vm.findClass RX4 = some m.cls := X.2.2.2.2.2.1
  have hts := X.2.2.2.2.2.2.1
  refine W.eq (g2 := F0 m 89 ls []) rfl ?_
  unfold T_X4_settle_89 at hf
  cases hf
  have k : s_V G (d + 4) M_X4_settle vs0 σ0 Y_X4_settle (52, [.ref v0, .int v1, .int v2, .int v3, .int (v4 + 1)], σ) (e_V r) := k
  refine lv_iinc (v := (v4 + 1)) (lv' := [(4, .int (v4 + 1)), (0, .ref v0), (1, .int v1), (2, .int v2), (3, .int v3)]) hx hb dX4_settle_89 hl (k := 4) rfl rfl (by decide) rfl (fun ls hl => ?_)
  refine lv_goto (tgt := 52) hx hb dX4_settle_92 (by decide) ?_
  exact k.2 p e s m below meth c _ _ _ _ _ X I hn.1 hn.2 (lv_sub hl [1, 2, 3, 4, 0] rfl)
set_option maxRecDepth 100000 in
set_option maxHeartbeats 4000000 in
theorem v_X4_settle_105 {G : sG} {d : Nat} {vs0 : List Value} {σ0 : sS} {v0 : Nat} {v1 : Int32} {v2 : Int32} {v3 : Int32} {v4 : Int32} {v5 : Int32} {σ : sS} {z : sZ Unit} {r : Unit × sS} (hf : T_X4_settle_105 v0 v1 v2 v3 v4 v5 σ = some z) (k : s_K G (d + 4) M_X4_settle vs0 σ0 Y_X4_settle e_V z r) : s_V G (d + 4) M_X4_settle vs0 σ0 Y_X4_settle (105, [.ref v0, .int v1, .int v2, .int v3, .int v4, .int v5], σ) (e_V r) := by
  have le0 : s_le σ (e_V r).2 := s_lek hem_V (l_X4_settle_105 hf) k
  refine ⟨le0, ?_⟩
  intro p e s m below meth c H locs cells slots ls X I hn1 hn2 hl
  have hn : cells + σ0.2.1 ≤ σ.2.1 ∧ slots + σ0.2.2.1 ≤ σ.2.2.1 := ⟨hn1, hn2⟩
  have hl : lv_has ls 6 [(0, .ref v0), (1, .int v1), (2, .int v2), (3, .int v3), (4, .int v4), (5, .int v5)] := hl
  have hx := X.1
  have hb : c.code = cX4_settle := X.2.1
  have hown : s.vm.findClass RX4 = some m.cls := X.2.2.2.2.2.1
  have hts := X.2.2.2.2.2.2.1
  refine W.eq (g2 := F0 m 105 ls []) rfl ?_
  unfold T_X4_settle_105 at hf
  obtain ⟨x1, h1, hf⟩ := s_bind hf
  refine lv_iload hx hb dX4_settle_105 (lv_at hl 5 rfl) ?_
  refine lv_aload_n hx hb dX4_settle_107 rfl (lv_at hl 0 rfl) ?_
  refine r_gi X I fl_X4_48 h1 dX4_settle_108 ?_
  rcases s_ite hf with ⟨c2, hf⟩ | ⟨c2, hf⟩
  · refine lv_icmp_ge (tgt := 146) hx hb dX4_settle_111 (by decide) (fun _ => ?_) (fun n => absurd c2 n)
    cases hf
    have k : s_V G (d + 4) M_X4_settle vs0 σ0 Y_X4_settle (37, [.ref v0, .int v1, .int v2, .int (v3 + 1)], σ) (e_V r) := k
    refine lv_iinc (v := (v3 + 1)) (lv' := [(3, .int (v3 + 1)), (0, .ref v0), (1, .int v1), (2, .int v2), (4, .int v4), (5, .int v5)]) hx hb dX4_settle_146 hl (k := 3) rfl rfl (by decide) rfl (fun ls hl => ?_)
    refine lv_goto (tgt := 37) hx hb dX4_settle_149 (by decide) ?_
    exact k.2 p e s m below meth c _ _ _ _ _ X I hn.1 hn.2 (lv_sub hl [1, 2, 3, 0] rfl)
  · refine lv_icmp_ge (tgt := 146) hx hb dX4_settle_111 (by decide) (fun n => absurd n c2) (fun _ => ?_)
    obtain ⟨q2, h3, hf⟩ := s_bind hf
    obtain ⟨q3, h4, hf⟩ := s_bind hf
    obtain ⟨q4, h5, hf⟩ := s_bind hf
    have le6 : s_le q4.2 (e_V r).2 := by
      refine s_lek hem_V ?_ k
      rcases s_ite hf with ⟨-, hf⟩ | ⟨-, hf⟩
      · cases hf
        exact s_le.rf
      · cases hf
        exact s_le.rf
    have le7 := s_le.tr (l_X4_improve h5) le6
    have le8 := s_le.tr (l_X4_limited h4) le7
    refine lv_aload_n hx hb dX4_settle_114 rfl (lv_at hl 0 rfl) ?_
    refine lv_iload_n hx hb dX4_settle_115 rfl (lv_at hl 1 rfl) ?_
    refine lv_iload hx hb dX4_settle_116 (lv_at hl 5 rfl) ?_
    refine lv_aload_n hx hb dX4_settle_118 rfl (lv_at hl 0 rfl) ?_
    refine lv_bipush (v := 14) hx hb dX4_settle_119 (by decide) ?_
    refine lv_iload hx hb dX4_settle_121 (lv_at hl 5 rfl) ?_
    refine r_callV (Y := M_X4_lineCost) (v := some (.int q2.1)) X I w_1359 my_X4_lineCost (by omega) (t_X4_lineCost (G := G) (d := d + 2) h3) (b_X4_lineCost h3) rfl rfl hl.1 rfl (Nat.le_of_ble_eq_true rfl) hn le8 dX4_settle_123 (fun H locs cells slots I hn1 hn2 => ?_)
    have I : s_I G q2.2 s H locs := I
    have hn : cells + σ0.2.1 ≤ q2.2.2.1 ∧ slots + σ0.2.2.1 ≤ q2.2.2.2.1 := ⟨hn1, hn2⟩
    refine lv_iload hx hb dX4_settle_126 (lv_at hl 4 rfl) ?_
    refine lv_iadd hx hb dX4_settle_128 ?_
    refine r_callS (Y := M_X4_limited) (v := some (.int q3.1)) X I w_1376 my_X4_limited (by omega) (t_X4_limited (G := G) (d := d + 2) h4) rfl rfl hl.1 rfl (Nat.le_of_ble_eq_true rfl) hn le7 dX4_settle_129 (fun H locs cells slots I hn1 hn2 => ?_)
    have I : s_I G q3.2 s H locs := I
    have hn : cells + σ0.2.1 ≤ q3.2.2.1 ∧ slots + σ0.2.2.1 ≤ q3.2.2.2.1 := ⟨hn1, hn2⟩
    refine r_callV (Y := M_X4_improve) (v := some (.int q4.1)) X I w_1380 my_X4_improve (by omega) (t_X4_improve (G := G) (d := d + 2) h5) (b_X4_improve h5) rfl rfl hl.1 rfl (Nat.le_of_ble_eq_true rfl) hn le6 dX4_settle_132 (fun H locs cells slots I hn1 hn2 => ?_)
    have I : s_I G q4.2 s H locs := I
    have hn : cells + σ0.2.1 ≤ q4.2.2.1 ∧ slots + σ0.2.2.1 ≤ q4.2.2.2.1 := ⟨hn1, hn2⟩
    rcases s_ite hf with ⟨c9, hf⟩ | ⟨c9, hf⟩
    · refine lv_if_eq (tgt := 140) hx hb dX4_settle_135 (by decide) (fun _ => ?_) (fun n => absurd c9 n)
      cases hf
      have k : s_V G (d + 4) M_X4_settle vs0 σ0 Y_X4_settle (140, [.ref v0, .int v1, .int v2, .int v3, .int v4, .int v5], q4.2) (e_V r) := k
      exact k.2 p e s m below meth c _ _ _ _ _ X I hn.1 hn.2 (lv_sub hl [0, 1, 2, 3, 4, 5] rfl)
    · refine lv_if_eq (tgt := 140) hx hb dX4_settle_135 (by decide) (fun n => absurd n c9) (fun _ => ?_)
      cases hf
      have k : s_V G (d + 4) M_X4_settle vs0 σ0 Y_X4_settle (140, [.ref v0, .int v1, .int 1, .int v3, .int v4, .int v5], q4.2) (e_V r) := k
      refine lv_iconst (v := 1) hx hb dX4_settle_138 (by decide) ?_
      refine lv_istore_n (lv' := [(2, .int 1), (0, .ref v0), (1, .int v1), (3, .int v3), (4, .int v4), (5, .int v5)]) hx hb dX4_settle_139 rfl hl (by decide) rfl (fun ls hl => ?_)
      exact k.2 p e s m below meth c _ _ _ _ _ X I hn.1 hn.2 (lv_sub hl [1, 2, 0, 3, 4, 5] rfl)
set_option maxRecDepth 100000 in
set_option maxHeartbeats 4000000 in
theorem v_X4_settle_140 {G : sG} {d : Nat} {vs0 : List Value} {σ0 : sS} {v0 : Nat} {v1 : Int32} {v2 : Int32} {v3 : Int32} {v4 : Int32} {v5 : Int32} {σ : sS} {z : sZ Unit} {r : Unit × sS} (hf : T_X4_settle_140 v0 v1 v2 v3 v4 v5 σ = some z) (k : s_K G (d + 4) M_X4_settle vs0 σ0 Y_X4_settle e_V z r) : s_V G (d + 4) M_X4_settle vs0 σ0 Y_X4_settle (140, [.ref v0, .int v1, .int v2, .int v3, .int v4, .int v5], σ) (e_V r) := by
  have le0 : s_le σ (e_V r).2 := s_lek hem_V (l_X4_settle_140 hf) k
  refine ⟨le0, ?_⟩
  intro p e s m below meth c H locs cells slots ls X I hn1 hn2 hl
  have hn : cells + σ0.2.1 ≤ σ.2.1 ∧ slots + σ0.2.2.1 ≤ σ.2.2.1 := ⟨hn1, hn2⟩
  have hl : lv_has ls 6 [(0, .ref v0), (1, .int v1), (2, .int v2), (3, .int v3), (4, .int v4), (5, .int v5)] := hl
  have hx := X.1
  have hb : c.code = cX4_settle := X.2.1
  have hown : s.vm.findClass RX4 = some m.cls := X.2.2.2.2.2.1
  have hts := X.2.2.2.2.2.2.1
  refine W.eq (g2 := F0 m 140 ls []) rfl ?_
  unfold T_X4_settle_140 at hf
  cases hf
  have k : s_V G (d + 4) M_X4_settle vs0 σ0 Y_X4_settle (105, [.ref v0, .int v1, .int v2, .int v3, .int v4, .int (v5 + 1)], σ) (e_V r) := k
  refine lv_iinc (v := (v5 + 1)) (lv' := [(5, .int (v5 + 1)), (0, .ref v0), (1, .int v1), (2, .int v2), (3, .int v3), (4, .int v4)]) hx hb dX4_settle_140 hl (k := 5) rfl rfl (by decide) rfl (fun ls hl => ?_)
  refine lv_goto (tgt := 105) hx hb dX4_settle_143 (by decide) ?_
  exact k.2 p e s m below meth c _ _ _ _ _ X I hn.1 hn.2 (lv_sub hl [1, 2, 3, 4, 5, 0] rfl)
theorem v_X4_settle {G : sG} {d : Nat} {vs0 : List Value} {σ0 : sS} {x : sL} {z : sZ Unit} {r : Unit × sS} (hs : S_X4_settle x = some z) (k : s_K G (d + 4) M_X4_settle vs0 σ0 Y_X4_settle e_V z r) : s_V G (d + 4) M_X4_settle vs0 σ0 Y_X4_settle x (e_V r) := by
  obtain ⟨pc, vs, σ⟩ := x
  unfold S_X4_settle at hs
  dsimp only at hs
  rcases s_ite hs with ⟨c, hs⟩ | ⟨-, hs⟩
  · subst c
    unfold U_X4_settle_0 at hs
    obtain ⟨a0, g0, hs⟩ := s_bind hs
    obtain ⟨a1, g1, hs⟩ := s_bind hs
    obtain ⟨u9, ge, hs⟩ := s_bind hs
    rw [g_r_to g0, g_i_to g1, g_e_to ge]
    exact v_X4_settle_0 hs k
  rcases s_ite hs with ⟨c, hs⟩ | ⟨-, hs⟩
  · subst c
    unfold U_X4_settle_2 at hs
    obtain ⟨a0, g0, hs⟩ := s_bind hs
    obtain ⟨a1, g1, hs⟩ := s_bind hs
    obtain ⟨a2, g2, hs⟩ := s_bind hs
    obtain ⟨u9, ge, hs⟩ := s_bind hs
    rw [g_r_to g0, g_i_to g1, g_i_to g2, g_e_to ge]
    exact v_X4_settle_2 hs k
  rcases s_ite hs with ⟨c, hs⟩ | ⟨-, hs⟩
  · subst c
    unfold U_X4_settle_37 at hs
    obtain ⟨a0, g0, hs⟩ := s_bind hs
    obtain ⟨a1, g1, hs⟩ := s_bind hs
    obtain ⟨a2, g2, hs⟩ := s_bind hs
    obtain ⟨a3, g3, hs⟩ := s_bind hs
    obtain ⟨u9, ge, hs⟩ := s_bind hs
    rw [g_r_to g0, g_i_to g1, g_i_to g2, g_i_to g3, g_e_to ge]
    exact v_X4_settle_37 hs k
  rcases s_ite hs with ⟨c, hs⟩ | ⟨-, hs⟩
  · subst c
    unfold U_X4_settle_52 at hs
    obtain ⟨a0, g0, hs⟩ := s_bind hs
    obtain ⟨a1, g1, hs⟩ := s_bind hs
    obtain ⟨a2, g2, hs⟩ := s_bind hs
    obtain ⟨a3, g3, hs⟩ := s_bind hs
    obtain ⟨a4, g4, hs⟩ := s_bind hs
    obtain ⟨u9, ge, hs⟩ := s_bind hs
    rw [g_r_to g0, g_i_to g1, g_i_to g2, g_i_to g3, g_i_to g4, g_e_to ge]
    exact v_X4_settle_52 hs k
  rcases s_ite hs with ⟨c, hs⟩ | ⟨-, hs⟩
  · subst c
    unfold U_X4_settle_89 at hs
    obtain ⟨a0, g0, hs⟩ := s_bind hs
    obtain ⟨a1, g1, hs⟩ := s_bind hs
    obtain ⟨a2, g2, hs⟩ := s_bind hs
    obtain ⟨a3, g3, hs⟩ := s_bind hs
    obtain ⟨a4, g4, hs⟩ := s_bind hs
    obtain ⟨u9, ge, hs⟩ := s_bind hs
    rw [g_r_to g0, g_i_to g1, g_i_to g2, g_i_to g3, g_i_to g4, g_e_to ge]
    exact v_X4_settle_89 hs k
  rcases s_ite hs with ⟨c, hs⟩ | ⟨-, hs⟩
  · subst c
    unfold U_X4_settle_105 at hs
    obtain ⟨a0, g0, hs⟩ := s_bind hs
    obtain ⟨a1, g1, hs⟩ := s_bind hs
    obtain ⟨a2, g2, hs⟩ := s_bind hs
    obtain ⟨a3, g3, hs⟩ := s_bind hs
    obtain ⟨a4, g4, hs⟩ := s_bind hs
    obtain ⟨a5, g5, hs⟩ := s_bind hs
    obtain ⟨u9, ge, hs⟩ := s_bind hs
    rw [g_r_to g0, g_i_to g1, g_i_to g2, g_i_to g3, g_i_to g4, g_i_to g5, g_e_to ge]
    exact v_X4_settle_105 hs k
  rcases s_ite hs with ⟨c, hs⟩ | ⟨-, hs⟩
  · subst c
    unfold U_X4_settle_140 at hs
    obtain ⟨a0, g0, hs⟩ := s_bind hs
    obtain ⟨a1, g1, hs⟩ := s_bind hs
    obtain ⟨a2, g2, hs⟩ := s_bind hs
    obtain ⟨a3, g3, hs⟩ := s_bind hs
    obtain ⟨a4, g4, hs⟩ := s_bind hs
    obtain ⟨a5, g5, hs⟩ := s_bind hs
    obtain ⟨u9, ge, hs⟩ := s_bind hs
    rw [g_r_to g0, g_i_to g1, g_i_to g2, g_i_to g3, g_i_to g4, g_i_to g5, g_e_to ge]
    exact v_X4_settle_140 hs k
  cases hs
theorem t_X4_settle {G : sG} {d : Nat} {v0 : Nat} {v1 : Int32} {σ : sS} {q : Unit × sS} (h : F_X4_settle v0 v1 σ = some q) : s_T G (d + 4) M_X4_settle [.ref v0, .int v1] σ (e_V q) := by
  unfold F_X4_settle at h
  obtain ⟨-, -, h⟩ := s_bind h
  exact s_ofV rfl (by decide) (Nat.le_of_ble_eq_true rfl) rfl rfl (s_run_ind (V := fun x r => s_V G (d + 4) M_X4_settle [.ref v0, .int v1] σ Y_X4_settle x (e_V r)) (fun x z r hs hk => v_X4_settle hs (by cases z <;> exact hk)) h)
/-! X4_costIn -/
noncomputable def T_X4_costIn_0 (v0 : Nat) (v1 : Int32) (σ : sS) : Option (sZ Int32) :=
  some (.inl (2, [.ref v0, .int v1, .int 0], σ))
noncomputable def U_X4_costIn_0 (vs : List Value) (σ : sS) : Option (sZ Int32) := (g_r vs).bind fun a0 => (g_i a0.2).bind fun a1 => (g_e a1.2).bind fun _ => T_X4_costIn_0 a0.1 a1.1 σ
noncomputable def T_X4_costIn_2 (v0 : Nat) (v1 : Int32) (v2 : Int32) (σ : sS) : Option (sZ Int32) :=
  if (16 : Int32) ≤ v2 then ((s_fr σ v0 4 1).bind fun x1 =>
  (F_X1_priceOf x1 v1 16 σ).bind fun q2 =>
  (s_pf q2.2 v0 4 12 (.int q2.1)).bind fun σ3 =>
  (s_fr σ3 v0 4 4).bind fun x4 =>
  (s_ai σ3 x4 10).bind fun x5 =>
  if x5 = 268435456 then (some (.inl (87, [.ref v0], σ3)))
  else ((s_fr σ3 v0 4 4).bind fun x6 =>
  (s_ai σ3 x6 1).bind fun x7 =>
  if x7 = 268435456 then (some (.inl (87, [.ref v0], σ3)))
  else (some (.inl (88, [.ref v0, .int 1], σ3)))))
  else ((s_fr σ v0 4 4).bind fun x8 =>
  (s_fr σ v0 4 1).bind fun x9 =>
  (F_X1_hasRule x9 v1 v2 σ).bind fun q10 =>
  if q10.1 = 0 then (some (.inl (39, [.ref v0, .int v1, .int v2, .int 268435456, .int v2, .ref x8], q10.2)))
  else ((s_fr q10.2 v0 4 1).bind fun x11 =>
  (F_X1_priceOf x11 v1 v2 q10.2).bind fun q12 =>
  some (.inl (39, [.ref v0, .int v1, .int v2, .int q12.1, .int v2, .ref x8], q12.2))))
noncomputable def U_X4_costIn_2 (vs : List Value) (σ : sS) : Option (sZ Int32) := (g_r vs).bind fun a0 => (g_i a0.2).bind fun a1 => (g_i a1.2).bind fun a2 => (g_e a2.2).bind fun _ => T_X4_costIn_2 a0.1 a1.1 a2.1 σ
noncomputable def T_X4_costIn_39 (v0 : Nat) (v1 : Int32) (v2 : Int32) (w0 : Int32) (w1 : Int32) (w2 : Nat) (σ : sS) : Option (sZ Int32) :=
  (s_si σ w2 w1 w0).bind fun σ1 =>
  some (.inl (2, [.ref v0, .int v1, .int (v2 + 1)], σ1))
noncomputable def U_X4_costIn_39 (vs : List Value) (σ : sS) : Option (sZ Int32) := (g_r vs).bind fun a0 => (g_i a0.2).bind fun a1 => (g_i a1.2).bind fun a2 => (g_i a2.2).bind fun a3 => (g_i a3.2).bind fun a4 => (g_r a4.2).bind fun a5 => (g_e a5.2).bind fun _ => T_X4_costIn_39 a0.1 a1.1 a2.1 a3.1 a4.1 a5.1 σ
noncomputable def T_X4_costIn_87 (v0 : Nat) (σ : sS) : Option (sZ Int32) :=
  some (.inl (88, [.ref v0, .int 0], σ))
noncomputable def U_X4_costIn_87 (vs : List Value) (σ : sS) : Option (sZ Int32) := (g_r vs).bind fun a0 => (g_e a0.2).bind fun _ => T_X4_costIn_87 a0.1 σ
noncomputable def T_X4_costIn_88 (v0 : Nat) (w0 : Int32) (σ : sS) : Option (sZ Int32) :=
  if w0 = 0 then (some (.inl (103, [.ref v0, .int 1], σ)))
  else ((s_fi σ v0 4 9).bind fun x1 =>
  some (.inl (103, [.ref v0, .int (1 <<< (x1 &&& 31))], σ)))
noncomputable def U_X4_costIn_88 (vs : List Value) (σ : sS) : Option (sZ Int32) := (g_r vs).bind fun a0 => (g_i a0.2).bind fun a1 => (g_e a1.2).bind fun _ => T_X4_costIn_88 a0.1 a1.1 σ
noncomputable def T_X4_costIn_103 (v0 : Nat) (w0 : Int32) (σ : sS) : Option (sZ Int32) :=
  some (.inl (109, [.ref v0, .int (w0 - 1)], σ))
noncomputable def U_X4_costIn_103 (vs : List Value) (σ : sS) : Option (sZ Int32) := (g_r vs).bind fun a0 => (g_i a0.2).bind fun a1 => (g_e a1.2).bind fun _ => T_X4_costIn_103 a0.1 a1.1 σ
noncomputable def T_X4_costIn_109 (v0 : Nat) (v4 : Int32) (σ : sS) : Option (sZ Int32) :=
  if v4 < 0 then ((s_fr σ v0 4 7).bind fun x1 =>
  (s_ai σ x1 0).bind fun x2 =>
  if x2 = 268435456 then (some (.inr ((-1), σ)))
  else ((s_fr σ v0 4 7).bind fun x3 =>
  (s_ai σ x3 0).bind fun x4 =>
  some (.inr (x4, σ))))
  else ((F_X4_settle v0 v4 σ).bind fun q5 =>
  some (.inl (109, [.ref v0, .int (v4 + (-1))], q5.2)))
noncomputable def U_X4_costIn_109 (vs : List Value) (σ : sS) : Option (sZ Int32) := (g_r vs).bind fun a0 => (g_i a0.2).bind fun a1 => (g_e a1.2).bind fun _ => T_X4_costIn_109 a0.1 a1.1 σ
noncomputable def S_X4_costIn (x : sL) : Option (sZ Int32) := if x.1 = 0 then U_X4_costIn_0 x.2.1 x.2.2 else if x.1 = 2 then U_X4_costIn_2 x.2.1 x.2.2 else if x.1 = 39 then U_X4_costIn_39 x.2.1 x.2.2 else if x.1 = 87 then U_X4_costIn_87 x.2.1 x.2.2 else if x.1 = 88 then U_X4_costIn_88 x.2.1 x.2.2 else if x.1 = 103 then U_X4_costIn_103 x.2.1 x.2.2 else if x.1 = 109 then U_X4_costIn_109 x.2.1 x.2.2 else none
def Y_X4_costIn (pc : Nat) : List Nat := if pc = 0 then [0, 1] else if pc = 2 then [0, 1, 2] else if pc = 39 then [0, 1, 2] else if pc = 87 then [0] else if pc = 88 then [0] else if pc = 103 then [0] else if pc = 109 then [0, 4] else []
noncomputable def F_X4_costIn (v0 : Nat) (v1 : Int32) (σ : sS) : Option (Int32 × sS) := (s_is σ v0 4).bind fun _ => s_run S_X4_costIn (0, [.ref v0, .int v1], σ)
theorem l_X4_costIn_0 {v0 : Nat} {v1 : Int32} {σ : sS} {z : sZ Int32} (hf : T_X4_costIn_0 v0 v1 σ = some z) : s_lz σ z := by
  unfold T_X4_costIn_0 at hf
  cases hf
  exact s_le.rf
theorem l_X4_costIn_2 {v0 : Nat} {v1 : Int32} {v2 : Int32} {σ : sS} {z : sZ Int32} (hf : T_X4_costIn_2 v0 v1 v2 σ = some z) : s_lz σ z := by
  unfold T_X4_costIn_2 at hf
  rcases s_ite hf with ⟨-, hf⟩ | ⟨-, hf⟩
  · obtain ⟨x1, -, hf⟩ := s_bind hf
    obtain ⟨q2, hh, hf⟩ := s_bind hf
    refine s_lz.tr (l_X1_priceOf hh) ?_
    obtain ⟨σ3, hh, hf⟩ := s_bind hf
    refine s_lz.tr (s_le2 (s_pf_2 hh)) ?_
    obtain ⟨x4, -, hf⟩ := s_bind hf
    obtain ⟨x5, -, hf⟩ := s_bind hf
    rcases s_ite hf with ⟨-, hf⟩ | ⟨-, hf⟩
    · cases hf
      exact s_le.rf
    · obtain ⟨x6, -, hf⟩ := s_bind hf
      obtain ⟨x7, -, hf⟩ := s_bind hf
      rcases s_ite hf with ⟨-, hf⟩ | ⟨-, hf⟩
      · cases hf
        exact s_le.rf
      · cases hf
        exact s_le.rf
  · obtain ⟨x8, -, hf⟩ := s_bind hf
    obtain ⟨x9, -, hf⟩ := s_bind hf
    obtain ⟨q10, hh, hf⟩ := s_bind hf
    refine s_lz.tr (l_X1_hasRule hh) ?_
    rcases s_ite hf with ⟨-, hf⟩ | ⟨-, hf⟩
    · cases hf
      exact s_le.rf
    · obtain ⟨x11, -, hf⟩ := s_bind hf
      obtain ⟨q12, hh, hf⟩ := s_bind hf
      refine s_lz.tr (l_X1_priceOf hh) ?_
      cases hf
      exact s_le.rf
theorem l_X4_costIn_39 {v0 : Nat} {v1 : Int32} {v2 : Int32} {w0 : Int32} {w1 : Int32} {w2 : Nat} {σ : sS} {z : sZ Int32} (hf : T_X4_costIn_39 v0 v1 v2 w0 w1 w2 σ = some z) : s_lz σ z := by
  unfold T_X4_costIn_39 at hf
  obtain ⟨σ1, hh, hf⟩ := s_bind hf
  refine s_lz.tr (s_le2 (s_si_2 hh)) ?_
  cases hf
  exact s_le.rf
theorem l_X4_costIn_87 {v0 : Nat} {σ : sS} {z : sZ Int32} (hf : T_X4_costIn_87 v0 σ = some z) : s_lz σ z := by
  unfold T_X4_costIn_87 at hf
  cases hf
  exact s_le.rf
theorem l_X4_costIn_88 {v0 : Nat} {w0 : Int32} {σ : sS} {z : sZ Int32} (hf : T_X4_costIn_88 v0 w0 σ = some z) : s_lz σ z := by
  unfold T_X4_costIn_88 at hf
  rcases s_ite hf with ⟨-, hf⟩ | ⟨-, hf⟩
  · cases hf
    exact s_le.rf
  · obtain ⟨x1, -, hf⟩ := s_bind hf
    cases hf
    exact s_le.rf
theorem l_X4_costIn_103 {v0 : Nat} {w0 : Int32} {σ : sS} {z : sZ Int32} (hf : T_X4_costIn_103 v0 w0 σ = some z) : s_lz σ z := by
  unfold T_X4_costIn_103 at hf
  cases hf
  exact s_le.rf
theorem l_X4_costIn_109 {v0 : Nat} {v4 : Int32} {σ : sS} {z : sZ Int32} (hf : T_X4_costIn_109 v0 v4 σ = some z) : s_lz σ z := by
  unfold T_X4_costIn_109 at hf
  rcases s_ite hf with ⟨-, hf⟩ | ⟨-, hf⟩
  · obtain ⟨x1, -, hf⟩ := s_bind hf
    obtain ⟨x2, -, hf⟩ := s_bind hf
    rcases s_ite hf with ⟨-, hf⟩ | ⟨-, hf⟩
    · cases hf
      exact s_le.rf
    · obtain ⟨x3, -, hf⟩ := s_bind hf
      obtain ⟨x4, -, hf⟩ := s_bind hf
      cases hf
      exact s_le.rf
  · obtain ⟨q5, hh, hf⟩ := s_bind hf
    refine s_lz.tr (l_X4_settle hh) ?_
    cases hf
    exact s_le.rf
theorem l_X4_costIn_s {x : sL} {z : sZ Int32} (hs : S_X4_costIn x = some z) : s_lz x.2.2 z := by
  obtain ⟨pc, vs, σ⟩ := x
  unfold S_X4_costIn at hs
  dsimp only at hs ⊢
  rcases s_ite hs with ⟨c, hs⟩ | ⟨-, hs⟩
  · subst c
    unfold U_X4_costIn_0 at hs
    obtain ⟨a0, g0, hs⟩ := s_bind hs
    obtain ⟨a1, g1, hs⟩ := s_bind hs
    obtain ⟨u9, ge, hs⟩ := s_bind hs
    exact l_X4_costIn_0 hs
  rcases s_ite hs with ⟨c, hs⟩ | ⟨-, hs⟩
  · subst c
    unfold U_X4_costIn_2 at hs
    obtain ⟨a0, g0, hs⟩ := s_bind hs
    obtain ⟨a1, g1, hs⟩ := s_bind hs
    obtain ⟨a2, g2, hs⟩ := s_bind hs
    obtain ⟨u9, ge, hs⟩ := s_bind hs
    exact l_X4_costIn_2 hs
  rcases s_ite hs with ⟨c, hs⟩ | ⟨-, hs⟩
  · subst c
    unfold U_X4_costIn_39 at hs
    obtain ⟨a0, g0, hs⟩ := s_bind hs
    obtain ⟨a1, g1, hs⟩ := s_bind hs
    obtain ⟨a2, g2, hs⟩ := s_bind hs
    obtain ⟨a3, g3, hs⟩ := s_bind hs
    obtain ⟨a4, g4, hs⟩ := s_bind hs
    obtain ⟨a5, g5, hs⟩ := s_bind hs
    obtain ⟨u9, ge, hs⟩ := s_bind hs
    exact l_X4_costIn_39 hs
  rcases s_ite hs with ⟨c, hs⟩ | ⟨-, hs⟩
  · subst c
    unfold U_X4_costIn_87 at hs
    obtain ⟨a0, g0, hs⟩ := s_bind hs
    obtain ⟨u9, ge, hs⟩ := s_bind hs
    exact l_X4_costIn_87 hs
  rcases s_ite hs with ⟨c, hs⟩ | ⟨-, hs⟩
  · subst c
    unfold U_X4_costIn_88 at hs
    obtain ⟨a0, g0, hs⟩ := s_bind hs
    obtain ⟨a1, g1, hs⟩ := s_bind hs
    obtain ⟨u9, ge, hs⟩ := s_bind hs
    exact l_X4_costIn_88 hs
  rcases s_ite hs with ⟨c, hs⟩ | ⟨-, hs⟩
  · subst c
    unfold U_X4_costIn_103 at hs
    obtain ⟨a0, g0, hs⟩ := s_bind hs
    obtain ⟨a1, g1, hs⟩ := s_bind hs
    obtain ⟨u9, ge, hs⟩ := s_bind hs
    exact l_X4_costIn_103 hs
  rcases s_ite hs with ⟨c, hs⟩ | ⟨-, hs⟩
  · subst c
    unfold U_X4_costIn_109 at hs
    obtain ⟨a0, g0, hs⟩ := s_bind hs
    obtain ⟨a1, g1, hs⟩ := s_bind hs
    obtain ⟨u9, ge, hs⟩ := s_bind hs
    exact l_X4_costIn_109 hs
  cases hs
theorem l_X4_costIn {v0 : Nat} {v1 : Int32} {σ : sS} {q : Int32 × sS} (h : F_X4_costIn v0 v1 σ = some q) : s_le σ q.2 := by
  unfold F_X4_costIn at h
  obtain ⟨-, -, h⟩ := s_bind h
  exact s_run_ind (V := fun x r => s_le x.2.2 r.2) (fun x z r hs hk => by
    have h9 := l_X4_costIn_s hs
    cases z with
    | inl y => exact s_le.tr h9 hk
    | inr q => cases hk; exact h9) h
theorem b_X4_costIn {v0 : Nat} {v1 : Int32} {σ : sS} {q : Int32 × sS} (h : F_X4_costIn v0 v1 σ = some q) : ∃ fs, σ.1 v0 = some (.inr (4, fs)) := by
  unfold F_X4_costIn at h
  obtain ⟨u, hu, -⟩ := s_bind h
  exact s_is_to hu
set_option maxRecDepth 100000 in
set_option maxHeartbeats 4000000 in
theorem v_X4_costIn_0 {G : sG} {d : Nat} {vs0 : List Value} {σ0 : sS} {v0 : Nat} {v1 : Int32} {σ : sS} {z : sZ Int32} {r : Int32 × sS} (hf : T_X4_costIn_0 v0 v1 σ = some z) (k : s_K G (d + 5) M_X4_costIn vs0 σ0 Y_X4_costIn e_I z r) : s_V G (d + 5) M_X4_costIn vs0 σ0 Y_X4_costIn (0, [.ref v0, .int v1], σ) (e_I r) := by
  have le0 : s_le σ (e_I r).2 := s_lek hem_I (l_X4_costIn_0 hf) k
  refine ⟨le0, ?_⟩
  intro p e s m below meth c H locs cells slots ls X I hn1 hn2 hl
  have hn : cells + σ0.2.1 ≤ σ.2.1 ∧ slots + σ0.2.2.1 ≤ σ.2.2.1 := ⟨hn1, hn2⟩
  have hl : lv_has ls 5 [(0, .ref v0), (1, .int v1)] := hl
  have hx := X.1
  have hb : c.code = cX4_costIn := X.2.1
  have hown : s.vm.findClass RX4 = some m.cls := X.2.2.2.2.2.1
  have hts := X.2.2.2.2.2.2.1
  refine W.eq (g2 := F0 m 0 ls []) rfl ?_
  unfold T_X4_costIn_0 at hf
  cases hf
  have k : s_V G (d + 5) M_X4_costIn vs0 σ0 Y_X4_costIn (2, [.ref v0, .int v1, .int 0], σ) (e_I r) := k
  refine lv_iconst (v := 0) hx hb dX4_costIn_0 (by decide) ?_
  refine lv_istore_n (lv' := [(2, .int 0), (0, .ref v0), (1, .int v1)]) hx hb dX4_costIn_1 rfl hl (by decide) rfl (fun ls hl => ?_)
  exact k.2 p e s m below meth c _ _ _ _ _ X I hn.1 hn.2 (lv_sub hl [1, 2, 0] rfl)
set_option maxRecDepth 100000 in
set_option maxHeartbeats 4000000 in
theorem v_X4_costIn_2 {G : sG} {d : Nat} {vs0 : List Value} {σ0 : sS} {v0 : Nat} {v1 : Int32} {v2 : Int32} {σ : sS} {z : sZ Int32} {r : Int32 × sS} (hf : T_X4_costIn_2 v0 v1 v2 σ = some z) (k : s_K G (d + 5) M_X4_costIn vs0 σ0 Y_X4_costIn e_I z r) : s_V G (d + 5) M_X4_costIn vs0 σ0 Y_X4_costIn (2, [.ref v0, .int v1, .int v2], σ) (e_I r) := by
  have le0 : s_le σ (e_I r).2 := s_lek hem_I (l_X4_costIn_2 hf) k
  refine ⟨le0, ?_⟩
  intro p e s m below meth c H locs cells slots ls X I hn1 hn2 hl
  have hn : cells + σ0.2.1 ≤ σ.2.1 ∧ slots + σ0.2.2.1 ≤ σ.2.2.1 := ⟨hn1, hn2⟩
  have hl : lv_has ls 5 [(0, .ref v0), (1, .int v1), (2, .int v2)] := hl
  have hx := X.1
  have hb : c.code = cX4_costIn := X.2.1
  have hown : s.vm.findClass RX4 = some m.cls := X.2.2.2.2.2.1
  have hts := X.2.2.2.2.2.2.1
  refine W.eq (g2 := F0 m 2 ls []) rfl ?_
  unfold T_X4_costIn_2 at hf
  refine lv_iload_n hx hb dX4_costIn_2 rfl (lv_at hl 2 rfl) ?_
  refine lv_bipush (v := 16) hx hb dX4_costIn_3 (by decide) ?_
  rcases s_ite hf with ⟨c1, hf⟩ | ⟨c1, hf⟩
  · refine lv_icmp_ge (tgt := 46) hx hb dX4_costIn_5 (by decide) (fun _ => ?_) (fun n => absurd c1 n)
    obtain ⟨x1, h2, hf⟩ := s_bind hf
    obtain ⟨q2, h3, hf⟩ := s_bind hf
    obtain ⟨σ3, h4, hf⟩ := s_bind hf
    obtain ⟨x4, h5, hf⟩ := s_bind hf
    obtain ⟨x5, h6, hf⟩ := s_bind hf
    have le7 : s_le σ3 (e_I r).2 := by
      refine s_lek hem_I ?_ k
      rcases s_ite hf with ⟨-, hf⟩ | ⟨-, hf⟩
      · cases hf
        exact s_le.rf
      · obtain ⟨x6, -, hf⟩ := s_bind hf
        obtain ⟨x7, -, hf⟩ := s_bind hf
        rcases s_ite hf with ⟨-, hf⟩ | ⟨-, hf⟩
        · cases hf
          exact s_le.rf
        · cases hf
          exact s_le.rf
    have le8 := s_le.tr (s_le2 (s_pf_2 h4)) le7
    refine lv_aload_n hx hb dX4_costIn_46 rfl (lv_at hl 0 rfl) ?_
    refine lv_aload_n hx hb dX4_costIn_47 rfl (lv_at hl 0 rfl) ?_
    refine r_gr X I fl_X4_34 h2 dX4_costIn_48 ?_
    refine lv_iload_n hx hb dX4_costIn_51 rfl (lv_at hl 1 rfl) ?_
    refine lv_bipush (v := 16) hx hb dX4_costIn_52 (by decide) ?_
    refine r_callV (Y := M_X1_priceOf) (v := some (.int q2.1)) X I w_1348 my_X1_priceOf (by omega) (t_X1_priceOf (G := G) (d := d + 3) h3) (b_X1_priceOf h3) rfl rfl hl.1 rfl (Nat.le_of_ble_eq_true rfl) hn le8 dX4_costIn_54 (fun H locs cells slots I hn1 hn2 => ?_)
    have I : s_I G q2.2 s H locs := I
    have hn : cells + σ0.2.1 ≤ q2.2.2.1 ∧ slots + σ0.2.2.1 ≤ q2.2.2.2.1 := ⟨hn1, hn2⟩
    refine r_put X I fp_X4_136 (fun h => by cases h) h4 rfl rfl dX4_costIn_57 (fun H locs I => ?_)
    have hn := s_k2 (s_pf_2 h4) hn
    refine lv_aload_n hx hb dX4_costIn_60 rfl (lv_at hl 0 rfl) ?_
    refine r_gr X I fl_X4_18 h5 dX4_costIn_61 ?_
    refine lv_bipush (v := 10) hx hb dX4_costIn_64 (by decide) ?_
    refine r_iald X I h6 dX4_costIn_66 ?_
    refine lv_ldc (own := RX4) hx hb hown (hts _ w_1349) dX4_costIn_67 ?_
    rcases s_ite hf with ⟨c9, hf⟩ | ⟨c9, hf⟩
    · refine lv_icmp_eq (tgt := 87) hx hb dX4_costIn_69 (by decide) (fun _ => ?_) (fun n => absurd c9 n)
      cases hf
      have k : s_V G (d + 5) M_X4_costIn vs0 σ0 Y_X4_costIn (87, [.ref v0], σ3) (e_I r) := k
      exact k.2 p e s m below meth c _ _ _ _ _ X I hn.1 hn.2 (lv_sub hl [0] rfl)
    · refine lv_icmp_eq (tgt := 87) hx hb dX4_costIn_69 (by decide) (fun n => absurd n c9) (fun _ => ?_)
      obtain ⟨x6, h10, hf⟩ := s_bind hf
      obtain ⟨x7, h11, hf⟩ := s_bind hf
      refine lv_aload_n hx hb dX4_costIn_72 rfl (lv_at hl 0 rfl) ?_
      refine r_gr X I fl_X4_18 h10 dX4_costIn_73 ?_
      refine lv_iconst (v := 1) hx hb dX4_costIn_76 (by decide) ?_
      refine r_iald X I h11 dX4_costIn_77 ?_
      refine lv_ldc (own := RX4) hx hb hown (hts _ w_1349) dX4_costIn_78 ?_
      rcases s_ite hf with ⟨c12, hf⟩ | ⟨c12, hf⟩
      · refine lv_icmp_eq (tgt := 87) hx hb dX4_costIn_80 (by decide) (fun _ => ?_) (fun n => absurd c12 n)
        cases hf
        have k : s_V G (d + 5) M_X4_costIn vs0 σ0 Y_X4_costIn (87, [.ref v0], σ3) (e_I r) := k
        exact k.2 p e s m below meth c _ _ _ _ _ X I hn.1 hn.2 (lv_sub hl [0] rfl)
      · refine lv_icmp_eq (tgt := 87) hx hb dX4_costIn_80 (by decide) (fun n => absurd n c12) (fun _ => ?_)
        cases hf
        have k : s_V G (d + 5) M_X4_costIn vs0 σ0 Y_X4_costIn (88, [.ref v0, .int 1], σ3) (e_I r) := k
        refine lv_iconst (v := 1) hx hb dX4_costIn_83 (by decide) ?_
        refine lv_goto (tgt := 88) hx hb dX4_costIn_84 (by decide) ?_
        exact k.2 p e s m below meth c _ _ _ _ _ X I hn.1 hn.2 (lv_sub hl [0] rfl)
  · refine lv_icmp_ge (tgt := 46) hx hb dX4_costIn_5 (by decide) (fun n => absurd n c1) (fun _ => ?_)
    obtain ⟨x8, h13, hf⟩ := s_bind hf
    obtain ⟨x9, h14, hf⟩ := s_bind hf
    obtain ⟨q10, h15, hf⟩ := s_bind hf
    have le16 : s_le q10.2 (e_I r).2 := by
      refine s_lek hem_I ?_ k
      rcases s_ite hf with ⟨-, hf⟩ | ⟨-, hf⟩
      · cases hf
        exact s_le.rf
      · obtain ⟨x11, -, hf⟩ := s_bind hf
        obtain ⟨q12, hh, hf⟩ := s_bind hf
        refine s_lz.tr (l_X1_priceOf hh) ?_
        cases hf
        exact s_le.rf
    refine lv_aload_n hx hb dX4_costIn_8 rfl (lv_at hl 0 rfl) ?_
    refine r_gr X I fl_X4_18 h13 dX4_costIn_9 ?_
    refine lv_iload_n hx hb dX4_costIn_12 rfl (lv_at hl 2 rfl) ?_
    refine lv_aload_n hx hb dX4_costIn_13 rfl (lv_at hl 0 rfl) ?_
    refine r_gr X I fl_X4_34 h14 dX4_costIn_14 ?_
    refine lv_iload_n hx hb dX4_costIn_17 rfl (lv_at hl 1 rfl) ?_
    refine lv_iload_n hx hb dX4_costIn_18 rfl (lv_at hl 2 rfl) ?_
    refine r_callV (Y := M_X1_hasRule) (v := some (.int q10.1)) X I w_1347 my_X1_hasRule (by omega) (t_X1_hasRule (G := G) (d := d + 3) h15) (b_X1_hasRule h15) rfl rfl hl.1 rfl (Nat.le_of_ble_eq_true rfl) hn le16 dX4_costIn_19 (fun H locs cells slots I hn1 hn2 => ?_)
    have I : s_I G q10.2 s H locs := I
    have hn : cells + σ0.2.1 ≤ q10.2.2.1 ∧ slots + σ0.2.2.1 ≤ q10.2.2.2.1 := ⟨hn1, hn2⟩
    rcases s_ite hf with ⟨c17, hf⟩ | ⟨c17, hf⟩
    · refine lv_if_eq (tgt := 37) hx hb dX4_costIn_22 (by decide) (fun _ => ?_) (fun n => absurd c17 n)
      cases hf
      have k : s_V G (d + 5) M_X4_costIn vs0 σ0 Y_X4_costIn (39, [.ref v0, .int v1, .int v2, .int 268435456, .int v2, .ref x8], q10.2) (e_I r) := k
      refine lv_ldc (own := RX4) hx hb hown (hts _ w_1349) dX4_costIn_37 ?_
      exact k.2 p e s m below meth c _ _ _ _ _ X I hn.1 hn.2 (lv_sub hl [0, 1, 2] rfl)
    · refine lv_if_eq (tgt := 37) hx hb dX4_costIn_22 (by decide) (fun n => absurd n c17) (fun _ => ?_)
      obtain ⟨x11, h18, hf⟩ := s_bind hf
      obtain ⟨q12, h19, hf⟩ := s_bind hf
      cases hf
      have k : s_V G (d + 5) M_X4_costIn vs0 σ0 Y_X4_costIn (39, [.ref v0, .int v1, .int v2, .int q12.1, .int v2, .ref x8], q12.2) (e_I r) := k
      have le20 : s_le q12.2 (e_I r).2 := k.1
      refine lv_aload_n hx hb dX4_costIn_25 rfl (lv_at hl 0 rfl) ?_
      refine r_gr X I fl_X4_34 h18 dX4_costIn_26 ?_
      refine lv_iload_n hx hb dX4_costIn_29 rfl (lv_at hl 1 rfl) ?_
      refine lv_iload_n hx hb dX4_costIn_30 rfl (lv_at hl 2 rfl) ?_
      refine r_callV (Y := M_X1_priceOf) (v := some (.int q12.1)) X I w_1348 my_X1_priceOf (by omega) (t_X1_priceOf (G := G) (d := d + 3) h19) (b_X1_priceOf h19) rfl rfl hl.1 rfl (Nat.le_of_ble_eq_true rfl) hn le20 dX4_costIn_31 (fun H locs cells slots I hn1 hn2 => ?_)
      have I : s_I G q12.2 s H locs := I
      have hn : cells + σ0.2.1 ≤ q12.2.2.1 ∧ slots + σ0.2.2.1 ≤ q12.2.2.2.1 := ⟨hn1, hn2⟩
      refine lv_goto (tgt := 39) hx hb dX4_costIn_34 (by decide) ?_
      exact k.2 p e s m below meth c _ _ _ _ _ X I hn.1 hn.2 (lv_sub hl [0, 1, 2] rfl)
set_option maxRecDepth 100000 in
set_option maxHeartbeats 4000000 in
theorem v_X4_costIn_39 {G : sG} {d : Nat} {vs0 : List Value} {σ0 : sS} {v0 : Nat} {v1 : Int32} {v2 : Int32} {w0 : Int32} {w1 : Int32} {w2 : Nat} {σ : sS} {z : sZ Int32} {r : Int32 × sS} (hf : T_X4_costIn_39 v0 v1 v2 w0 w1 w2 σ = some z) (k : s_K G (d + 5) M_X4_costIn vs0 σ0 Y_X4_costIn e_I z r) : s_V G (d + 5) M_X4_costIn vs0 σ0 Y_X4_costIn (39, [.ref v0, .int v1, .int v2, .int w0, .int w1, .ref w2], σ) (e_I r) := by
  have le0 : s_le σ (e_I r).2 := s_lek hem_I (l_X4_costIn_39 hf) k
  refine ⟨le0, ?_⟩
  intro p e s m below meth c H locs cells slots ls X I hn1 hn2 hl
  have hn : cells + σ0.2.1 ≤ σ.2.1 ∧ slots + σ0.2.2.1 ≤ σ.2.2.1 := ⟨hn1, hn2⟩
  have hl : lv_has ls 5 [(0, .ref v0), (1, .int v1), (2, .int v2)] := hl
  have hx := X.1
  have hb : c.code = cX4_costIn := X.2.1
  have hown : s.vm.findClass RX4 = some m.cls := X.2.2.2.2.2.1
  have hts := X.2.2.2.2.2.2.1
  refine W.eq (g2 := F0 m 39 ls [.int w0, .int w1, .ref w2]) rfl ?_
  unfold T_X4_costIn_39 at hf
  obtain ⟨σ1, h1, hf⟩ := s_bind hf
  cases hf
  have k : s_V G (d + 5) M_X4_costIn vs0 σ0 Y_X4_costIn (2, [.ref v0, .int v1, .int (v2 + 1)], σ1) (e_I r) := k
  have le2 : s_le σ1 (e_I r).2 := k.1
  refine r_iast X I h1 dX4_costIn_39 (fun H locs I => ?_)
  have hn := s_k2 (s_si_2 h1) hn
  refine lv_iinc (v := (v2 + 1)) (lv' := [(2, .int (v2 + 1)), (0, .ref v0), (1, .int v1)]) hx hb dX4_costIn_40 hl (k := 2) rfl rfl (by decide) rfl (fun ls hl => ?_)
  refine lv_goto (tgt := 2) hx hb dX4_costIn_43 (by decide) ?_
  exact k.2 p e s m below meth c _ _ _ _ _ X I hn.1 hn.2 (lv_sub hl [1, 2, 0] rfl)
set_option maxRecDepth 100000 in
set_option maxHeartbeats 4000000 in
theorem v_X4_costIn_87 {G : sG} {d : Nat} {vs0 : List Value} {σ0 : sS} {v0 : Nat} {σ : sS} {z : sZ Int32} {r : Int32 × sS} (hf : T_X4_costIn_87 v0 σ = some z) (k : s_K G (d + 5) M_X4_costIn vs0 σ0 Y_X4_costIn e_I z r) : s_V G (d + 5) M_X4_costIn vs0 σ0 Y_X4_costIn (87, [.ref v0], σ) (e_I r) := by
  have le0 : s_le σ (e_I r).2 := s_lek hem_I (l_X4_costIn_87 hf) k
  refine ⟨le0, ?_⟩
  intro p e s m below meth c H locs cells slots ls X I hn1 hn2 hl
  have hn : cells + σ0.2.1 ≤ σ.2.1 ∧ slots + σ0.2.2.1 ≤ σ.2.2.1 := ⟨hn1, hn2⟩
  have hl : lv_has ls 5 [(0, .ref v0)] := hl
  have hx := X.1
  have hb : c.code = cX4_costIn := X.2.1
  have hown : s.vm.findClass RX4 = some m.cls := X.2.2.2.2.2.1
  have hts := X.2.2.2.2.2.2.1
  refine W.eq (g2 := F0 m 87 ls []) rfl ?_
  unfold T_X4_costIn_87 at hf
  cases hf
  have k : s_V G (d + 5) M_X4_costIn vs0 σ0 Y_X4_costIn (88, [.ref v0, .int 0], σ) (e_I r) := k
  refine lv_iconst (v := 0) hx hb dX4_costIn_87 (by decide) ?_
  exact k.2 p e s m below meth c _ _ _ _ _ X I hn.1 hn.2 (lv_sub hl [0] rfl)
set_option maxRecDepth 100000 in
set_option maxHeartbeats 4000000 in
theorem v_X4_costIn_88 {G : sG} {d : Nat} {vs0 : List Value} {σ0 : sS} {v0 : Nat} {w0 : Int32} {σ : sS} {z : sZ Int32} {r : Int32 × sS} (hf : T_X4_costIn_88 v0 w0 σ = some z) (k : s_K G (d + 5) M_X4_costIn vs0 σ0 Y_X4_costIn e_I z r) : s_V G (d + 5) M_X4_costIn vs0 σ0 Y_X4_costIn (88, [.ref v0, .int w0], σ) (e_I r) := by
  have le0 : s_le σ (e_I r).2 := s_lek hem_I (l_X4_costIn_88 hf) k
  refine ⟨le0, ?_⟩
  intro p e s m below meth c H locs cells slots ls X I hn1 hn2 hl
  have hn : cells + σ0.2.1 ≤ σ.2.1 ∧ slots + σ0.2.2.1 ≤ σ.2.2.1 := ⟨hn1, hn2⟩
  have hl : lv_has ls 5 [(0, .ref v0)] := hl
  have hx := X.1
  have hb : c.code = cX4_costIn := X.2.1
  have hown : s.vm.findClass RX4 = some m.cls := X.2.2.2.2.2.1
  have hts := X.2.2.2.2.2.2.1
  refine W.eq (g2 := F0 m 88 ls [.int w0]) rfl ?_
  unfold T_X4_costIn_88 at hf
  refine lv_istore_n (lv' := [(2, .int w0), (0, .ref v0)]) hx hb dX4_costIn_88 rfl hl (by decide) rfl (fun ls hl => ?_)
  refine lv_iload_n hx hb dX4_costIn_89 rfl (lv_at hl 0 rfl) ?_
  rcases s_ite hf with ⟨c1, hf⟩ | ⟨c1, hf⟩
  · refine lv_if_eq (tgt := 102) hx hb dX4_costIn_90 (by decide) (fun _ => ?_) (fun n => absurd c1 n)
    cases hf
    have k : s_V G (d + 5) M_X4_costIn vs0 σ0 Y_X4_costIn (103, [.ref v0, .int 1], σ) (e_I r) := k
    refine lv_iconst (v := 1) hx hb dX4_costIn_102 (by decide) ?_
    exact k.2 p e s m below meth c _ _ _ _ _ X I hn.1 hn.2 (lv_sub hl [1] rfl)
  · refine lv_if_eq (tgt := 102) hx hb dX4_costIn_90 (by decide) (fun n => absurd n c1) (fun _ => ?_)
    obtain ⟨x1, h2, hf⟩ := s_bind hf
    cases hf
    have k : s_V G (d + 5) M_X4_costIn vs0 σ0 Y_X4_costIn (103, [.ref v0, .int (1 <<< (x1 &&& 31))], σ) (e_I r) := k
    refine lv_iconst (v := 1) hx hb dX4_costIn_93 (by decide) ?_
    refine lv_aload_n hx hb dX4_costIn_94 rfl (lv_at hl 1 rfl) ?_
    refine r_gi X I fl_X4_51 h2 dX4_costIn_95 ?_
    refine lv_ishl hx hb dX4_costIn_98 ?_
    refine lv_goto (tgt := 103) hx hb dX4_costIn_99 (by decide) ?_
    exact k.2 p e s m below meth c _ _ _ _ _ X I hn.1 hn.2 (lv_sub hl [1] rfl)
set_option maxRecDepth 100000 in
set_option maxHeartbeats 4000000 in
theorem v_X4_costIn_103 {G : sG} {d : Nat} {vs0 : List Value} {σ0 : sS} {v0 : Nat} {w0 : Int32} {σ : sS} {z : sZ Int32} {r : Int32 × sS} (hf : T_X4_costIn_103 v0 w0 σ = some z) (k : s_K G (d + 5) M_X4_costIn vs0 σ0 Y_X4_costIn e_I z r) : s_V G (d + 5) M_X4_costIn vs0 σ0 Y_X4_costIn (103, [.ref v0, .int w0], σ) (e_I r) := by
  have le0 : s_le σ (e_I r).2 := s_lek hem_I (l_X4_costIn_103 hf) k
  refine ⟨le0, ?_⟩
  intro p e s m below meth c H locs cells slots ls X I hn1 hn2 hl
  have hn : cells + σ0.2.1 ≤ σ.2.1 ∧ slots + σ0.2.2.1 ≤ σ.2.2.1 := ⟨hn1, hn2⟩
  have hl : lv_has ls 5 [(0, .ref v0)] := hl
  have hx := X.1
  have hb : c.code = cX4_costIn := X.2.1
  have hown : s.vm.findClass RX4 = some m.cls := X.2.2.2.2.2.1
  have hts := X.2.2.2.2.2.2.1
  refine W.eq (g2 := F0 m 103 ls [.int w0]) rfl ?_
  unfold T_X4_costIn_103 at hf
  cases hf
  have k : s_V G (d + 5) M_X4_costIn vs0 σ0 Y_X4_costIn (109, [.ref v0, .int (w0 - 1)], σ) (e_I r) := k
  refine lv_istore_n (lv' := [(3, .int w0), (0, .ref v0)]) hx hb dX4_costIn_103 rfl hl (by decide) rfl (fun ls hl => ?_)
  refine lv_iload_n hx hb dX4_costIn_104 rfl (lv_at hl 0 rfl) ?_
  refine lv_iconst (v := 1) hx hb dX4_costIn_105 (by decide) ?_
  refine lv_isub hx hb dX4_costIn_106 ?_
  refine lv_istore (lv' := [(4, .int (w0 - 1)), (3, .int w0), (0, .ref v0)]) hx hb dX4_costIn_107 hl (by decide) rfl (fun ls hl => ?_)
  exact k.2 p e s m below meth c _ _ _ _ _ X I hn.1 hn.2 (lv_sub hl [2, 0] rfl)
set_option maxRecDepth 100000 in
set_option maxHeartbeats 4000000 in
theorem v_X4_costIn_109 {G : sG} {d : Nat} {vs0 : List Value} {σ0 : sS} {v0 : Nat} {v4 : Int32} {σ : sS} {z : sZ Int32} {r : Int32 × sS} (hf : T_X4_costIn_109 v0 v4 σ = some z) (k : s_K G (d + 5) M_X4_costIn vs0 σ0 Y_X4_costIn e_I z r) : s_V G (d + 5) M_X4_costIn vs0 σ0 Y_X4_costIn (109, [.ref v0, .int v4], σ) (e_I r) := by
  have le0 : s_le σ (e_I r).2 := s_lek hem_I (l_X4_costIn_109 hf) k
  refine ⟨le0, ?_⟩
  intro p e s m below meth c H locs cells slots ls X I hn1 hn2 hl
  have hn : cells + σ0.2.1 ≤ σ.2.1 ∧ slots + σ0.2.2.1 ≤ σ.2.2.1 := ⟨hn1, hn2⟩
  have hl : lv_has ls 5 [(0, .ref v0), (4, .int v4)] := hl
  have hx := X.1
  have hb : c.code = cX4_costIn := X.2.1
  have hown : s.vm.findClass RX4 = some m.cls := X.2.2.2.2.2.1
  have hts := X.2.2.2.2.2.2.1
  refine W.eq (g2 := F0 m 109 ls []) rfl ?_
  unfold T_X4_costIn_109 at hf
  refine lv_iload hx hb dX4_costIn_109 (lv_at hl 1 rfl) ?_
  rcases s_ite hf with ⟨c1, hf⟩ | ⟨c1, hf⟩
  · refine lv_if_lt (tgt := 126) hx hb dX4_costIn_111 (by decide) (fun _ => ?_) (fun n => absurd c1 n)
    obtain ⟨x1, h2, hf⟩ := s_bind hf
    obtain ⟨x2, h3, hf⟩ := s_bind hf
    refine lv_aload_n hx hb dX4_costIn_126 rfl (lv_at hl 0 rfl) ?_
    refine r_gr X I fl_X4_27 h2 dX4_costIn_127 ?_
    refine lv_iconst (v := 0) hx hb dX4_costIn_130 (by decide) ?_
    refine r_iald X I h3 dX4_costIn_131 ?_
    refine lv_ldc (own := RX4) hx hb hown (hts _ w_1349) dX4_costIn_132 ?_
    rcases s_ite hf with ⟨c4, hf⟩ | ⟨c4, hf⟩
    · refine lv_icmp_ne (tgt := 141) hx hb dX4_costIn_134 (by decide) (fun n => absurd c4 n) (fun _ => ?_)
      cases hf
      have k : _ = r := k
      subst k
      refine lv_iconst (v := (-1)) hx hb dX4_costIn_137 (by decide) ?_
      refine lv_goto (tgt := 147) hx hb dX4_costIn_138 (by decide) ?_
      exact r_iret X I rfl rfl rfl hn dX4_costIn_147
    · refine lv_icmp_ne (tgt := 141) hx hb dX4_costIn_134 (by decide) (fun _ => ?_) (fun n => absurd n c4)
      obtain ⟨x3, h5, hf⟩ := s_bind hf
      obtain ⟨x4, h6, hf⟩ := s_bind hf
      cases hf
      have k : _ = r := k
      subst k
      refine lv_aload_n hx hb dX4_costIn_141 rfl (lv_at hl 0 rfl) ?_
      refine r_gr X I fl_X4_27 h5 dX4_costIn_142 ?_
      refine lv_iconst (v := 0) hx hb dX4_costIn_145 (by decide) ?_
      refine r_iald X I h6 dX4_costIn_146 ?_
      exact r_iret X I rfl rfl rfl hn dX4_costIn_147
  · refine lv_if_lt (tgt := 126) hx hb dX4_costIn_111 (by decide) (fun n => absurd n c1) (fun _ => ?_)
    obtain ⟨q5, h7, hf⟩ := s_bind hf
    cases hf
    have k : s_V G (d + 5) M_X4_costIn vs0 σ0 Y_X4_costIn (109, [.ref v0, .int (v4 + (-1))], q5.2) (e_I r) := k
    have le8 : s_le q5.2 (e_I r).2 := k.1
    refine lv_aload_n hx hb dX4_costIn_114 rfl (lv_at hl 0 rfl) ?_
    refine lv_iload hx hb dX4_costIn_115 (lv_at hl 1 rfl) ?_
    refine r_callV (Y := M_X4_settle) (v := none) X I w_1350 my_X4_settle (by omega) (t_X4_settle (G := G) (d := d + 0) h7) (b_X4_settle h7) rfl rfl hl.1 rfl (Nat.le_of_ble_eq_true rfl) hn le8 dX4_costIn_117 (fun H locs cells slots I hn1 hn2 => ?_)
    have I : s_I G q5.2 s H locs := I
    have hn : cells + σ0.2.1 ≤ q5.2.2.1 ∧ slots + σ0.2.2.1 ≤ q5.2.2.2.1 := ⟨hn1, hn2⟩
    refine lv_iinc (v := (v4 + (-1))) (lv' := [(4, .int (v4 + (-1))), (0, .ref v0)]) hx hb dX4_costIn_120 hl (k := 1) rfl rfl (by decide) rfl (fun ls hl => ?_)
    refine lv_goto (tgt := 109) hx hb dX4_costIn_123 (by decide) ?_
    exact k.2 p e s m below meth c _ _ _ _ _ X I hn.1 hn.2 (lv_sub hl [1, 0] rfl)
theorem v_X4_costIn {G : sG} {d : Nat} {vs0 : List Value} {σ0 : sS} {x : sL} {z : sZ Int32} {r : Int32 × sS} (hs : S_X4_costIn x = some z) (k : s_K G (d + 5) M_X4_costIn vs0 σ0 Y_X4_costIn e_I z r) : s_V G (d + 5) M_X4_costIn vs0 σ0 Y_X4_costIn x (e_I r) := by
  obtain ⟨pc, vs, σ⟩ := x
  unfold S_X4_costIn at hs
  dsimp only at hs
  rcases s_ite hs with ⟨c, hs⟩ | ⟨-, hs⟩
  · subst c
    unfold U_X4_costIn_0 at hs
    obtain ⟨a0, g0, hs⟩ := s_bind hs
    obtain ⟨a1, g1, hs⟩ := s_bind hs
    obtain ⟨u9, ge, hs⟩ := s_bind hs
    rw [g_r_to g0, g_i_to g1, g_e_to ge]
    exact v_X4_costIn_0 hs k
  rcases s_ite hs with ⟨c, hs⟩ | ⟨-, hs⟩
  · subst c
    unfold U_X4_costIn_2 at hs
    obtain ⟨a0, g0, hs⟩ := s_bind hs
    obtain ⟨a1, g1, hs⟩ := s_bind hs
    obtain ⟨a2, g2, hs⟩ := s_bind hs
    obtain ⟨u9, ge, hs⟩ := s_bind hs
    rw [g_r_to g0, g_i_to g1, g_i_to g2, g_e_to ge]
    exact v_X4_costIn_2 hs k
  rcases s_ite hs with ⟨c, hs⟩ | ⟨-, hs⟩
  · subst c
    unfold U_X4_costIn_39 at hs
    obtain ⟨a0, g0, hs⟩ := s_bind hs
    obtain ⟨a1, g1, hs⟩ := s_bind hs
    obtain ⟨a2, g2, hs⟩ := s_bind hs
    obtain ⟨a3, g3, hs⟩ := s_bind hs
    obtain ⟨a4, g4, hs⟩ := s_bind hs
    obtain ⟨a5, g5, hs⟩ := s_bind hs
    obtain ⟨u9, ge, hs⟩ := s_bind hs
    rw [g_r_to g0, g_i_to g1, g_i_to g2, g_i_to g3, g_i_to g4, g_r_to g5, g_e_to ge]
    exact v_X4_costIn_39 hs k
  rcases s_ite hs with ⟨c, hs⟩ | ⟨-, hs⟩
  · subst c
    unfold U_X4_costIn_87 at hs
    obtain ⟨a0, g0, hs⟩ := s_bind hs
    obtain ⟨u9, ge, hs⟩ := s_bind hs
    rw [g_r_to g0, g_e_to ge]
    exact v_X4_costIn_87 hs k
  rcases s_ite hs with ⟨c, hs⟩ | ⟨-, hs⟩
  · subst c
    unfold U_X4_costIn_88 at hs
    obtain ⟨a0, g0, hs⟩ := s_bind hs
    obtain ⟨a1, g1, hs⟩ := s_bind hs
    obtain ⟨u9, ge, hs⟩ := s_bind hs
    rw [g_r_to g0, g_i_to g1, g_e_to ge]
    exact v_X4_costIn_88 hs k
  rcases s_ite hs with ⟨c, hs⟩ | ⟨-, hs⟩
  · subst c
    unfold U_X4_costIn_103 at hs
    obtain ⟨a0, g0, hs⟩ := s_bind hs
    obtain ⟨a1, g1, hs⟩ := s_bind hs
    obtain ⟨u9, ge, hs⟩ := s_bind hs
    rw [g_r_to g0, g_i_to g1, g_e_to ge]
    exact v_X4_costIn_103 hs k
  rcases s_ite hs with ⟨c, hs⟩ | ⟨-, hs⟩
  · subst c
    unfold U_X4_costIn_109 at hs
    obtain ⟨a0, g0, hs⟩ := s_bind hs
    obtain ⟨a1, g1, hs⟩ := s_bind hs
    obtain ⟨u9, ge, hs⟩ := s_bind hs
    rw [g_r_to g0, g_i_to g1, g_e_to ge]
    exact v_X4_costIn_109 hs k
  cases hs
theorem t_X4_costIn {G : sG} {d : Nat} {v0 : Nat} {v1 : Int32} {σ : sS} {q : Int32 × sS} (h : F_X4_costIn v0 v1 σ = some q) : s_T G (d + 5) M_X4_costIn [.ref v0, .int v1] σ (e_I q) := by
  unfold F_X4_costIn at h
  obtain ⟨-, -, h⟩ := s_bind h
  exact s_ofV rfl (by decide) (Nat.le_of_ble_eq_true rfl) rfl rfl (s_run_ind (V := fun x r => s_V G (d + 5) M_X4_costIn [.ref v0, .int v1] σ Y_X4_costIn x (e_I r)) (fun x z r hs hk => v_X4_costIn hs (by cases z <;> exact hk)) h)
