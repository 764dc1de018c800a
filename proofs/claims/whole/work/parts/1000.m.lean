noncomputable def T_J3_checkIndex_8e157_0 (v0 : Int32) (v1 : Int32) (v2 : Value) (σ : sS) : Option (sZ Int32) :=
  if v0 < 0 then (some (.inl (9, [.int v0, .int v1, v2], σ)))
  else (if v0 < v1 then (some (.inr (v0, σ)))
  else (some (.inl (9, [.int v0, .int v1, v2], σ))))
noncomputable def U_J3_checkIndex_8e157_0 (vs : List Value) (σ : sS) : Option (sZ Int32) := (g_i vs).bind fun a0 => (g_i a0.2).bind fun a1 => (g_w a1.2).bind fun a2 => (g_e a2.2).bind fun _ => T_J3_checkIndex_8e157_0 a0.1 a1.1 a2.1 σ
noncomputable def T_J3_checkIndex_8e157_9 (v0 : Int32) (v1 : Int32) (v2 : Value) (σ : sS) : Option (sZ Int32) :=
  none
noncomputable def U_J3_checkIndex_8e157_9 (vs : List Value) (σ : sS) : Option (sZ Int32) := (g_i vs).bind fun a0 => (g_i a0.2).bind fun a1 => (g_w a1.2).bind fun a2 => (g_e a2.2).bind fun _ => T_J3_checkIndex_8e157_9 a0.1 a1.1 a2.1 σ
noncomputable def S_J3_checkIndex_8e157 (x : sL) : Option (sZ Int32) := if x.1 = 0 then U_J3_checkIndex_8e157_0 x.2.1 x.2.2 else if x.1 = 9 then U_J3_checkIndex_8e157_9 x.2.1 x.2.2 else none
def Y_J3_checkIndex_8e157 (pc : Nat) : List Nat := if pc = 0 then [0, 1, 2] else if pc = 9 then [0, 1, 2] else []
noncomputable def F_J3_checkIndex_8e157 (v0 : Int32) (v1 : Int32) (v2 : Value) (σ : sS) : Option (Int32 × sS) := s_run S_J3_checkIndex_8e157 (0, [.int v0, .int v1, v2], σ)
theorem l_J3_checkIndex_8e157_0 {v0 : Int32} {v1 : Int32} {v2 : Value} {σ : sS} {z : sZ Int32} (hf : T_J3_checkIndex_8e157_0 v0 v1 v2 σ = some z) : s_lz σ z := by
  unfold T_J3_checkIndex_8e157_0 at hf
  rcases s_ite hf with ⟨-, hf⟩ | ⟨-, hf⟩
  · cases hf
    exact s_le.rf
  · rcases s_ite hf with ⟨-, hf⟩ | ⟨-, hf⟩
    · cases hf
      exact s_le.rf
    · cases hf
      exact s_le.rf
theorem l_J3_checkIndex_8e157_9 {v0 : Int32} {v1 : Int32} {v2 : Value} {σ : sS} {z : sZ Int32} (hf : T_J3_checkIndex_8e157_9 v0 v1 v2 σ = some z) : s_lz σ z := by
  unfold T_J3_checkIndex_8e157_9 at hf
  cases hf
theorem l_J3_checkIndex_8e157_s {x : sL} {z : sZ Int32} (hs : S_J3_checkIndex_8e157 x = some z) : s_lz x.2.2 z := by
  obtain ⟨pc, vs, σ⟩ := x
  unfold S_J3_checkIndex_8e157 at hs
  dsimp only at hs ⊢
  rcases s_ite hs with ⟨c, hs⟩ | ⟨-, hs⟩
  · subst c
    unfold U_J3_checkIndex_8e157_0 at hs
    obtain ⟨a0, g0, hs⟩ := s_bind hs
    obtain ⟨a1, g1, hs⟩ := s_bind hs
    obtain ⟨a2, g2, hs⟩ := s_bind hs
    obtain ⟨u9, ge, hs⟩ := s_bind hs
    exact l_J3_checkIndex_8e157_0 hs
  rcases s_ite hs with ⟨c, hs⟩ | ⟨-, hs⟩
  · subst c
    unfold U_J3_checkIndex_8e157_9 at hs
    obtain ⟨a0, g0, hs⟩ := s_bind hs
    obtain ⟨a1, g1, hs⟩ := s_bind hs
    obtain ⟨a2, g2, hs⟩ := s_bind hs
    obtain ⟨u9, ge, hs⟩ := s_bind hs
    exact l_J3_checkIndex_8e157_9 hs
  cases hs
theorem l_J3_checkIndex_8e157 {v0 : Int32} {v1 : Int32} {v2 : Value} {σ : sS} {q : Int32 × sS} (h : F_J3_checkIndex_8e157 v0 v1 v2 σ = some q) : s_le σ q.2 := by
  unfold F_J3_checkIndex_8e157 at h
  exact s_run_ind (V := fun x r => s_le x.2.2 r.2) (fun x z r hs hk => by
    have h9 := l_J3_checkIndex_8e157_s hs
    cases z with
    | inl y => exact s_le.tr h9 hk
    | inr q => cases hk; exact h9) h
set_option maxRecDepth 100000 in
set_option maxHeartbeats 4000000 in
theorem v_J3_checkIndex_8e157_0 {G : sG} {d : Nat} {vs0 : List Value} {σ0 : sS} {v0 : Int32} {v1 : Int32} {v2 : Value} {σ : sS} {z : sZ Int32} {r : Int32 × sS} (hf : T_J3_checkIndex_8e157_0 v0 v1 v2 σ = some z) (k : s_K G (d + 1) M_J3_checkIndex_8e157 vs0 σ0 Y_J3_checkIndex_8e157 e_I z r) : s_V G (d + 1) M_J3_checkIndex_8e157 vs0 σ0 Y_J3_checkIndex_8e157 (0, [.int v0, .int v1, v2], σ) (e_I r) := by
  have le0 : s_le σ (e_I r).2 := s_lek hem_I (l_J3_checkIndex_8e157_0 hf) k
  refine ⟨le0, ?_⟩
  intro p e s m below meth c H locs cells slots ls X I hn1 hn2 hl
  have hn : cells + σ0.2.1 ≤ σ.2.1 ∧ slots + σ0.2.2.1 ≤ σ.2.2.1 := ⟨hn1, hn2⟩
  have hl : lv_has ls 3 [(0, .int v0), (1, .int v1), (2, v2)] := hl
  have hx := X.1
  have hb : c.code = cJ3_checkIndex_8e157 := X.2.1
  have hown : s.vm.findClass RJ3 = some m.cls := X.2.2.2.2.2.1
  have hts := X.2.2.2.2.2.2.1
  refine W.eq (g2 := F0 m 0 ls []) rfl ?_
  unfold T_J3_checkIndex_8e157_0 at hf
  refine lv_iload_n hx hb dJ3_checkIndex_8e157_0 rfl (lv_at hl 0 rfl) ?_
  rcases s_ite hf with ⟨c1, hf⟩ | ⟨c1, hf⟩
  · refine lv_if_lt (tgt := 9) hx hb dJ3_checkIndex_8e157_1 (by decide) (fun _ => ?_) (fun n => absurd c1 n)
    cases hf
    have k : s_V G (d + 1) M_J3_checkIndex_8e157 vs0 σ0 Y_J3_checkIndex_8e157 (9, [.int v0, .int v1, v2], σ) (e_I r) := k
    exact k.2 p e s m below meth c _ _ _ _ _ X I hn.1 hn.2 (lv_sub hl [0, 1, 2] rfl)
  · refine lv_if_lt (tgt := 9) hx hb dJ3_checkIndex_8e157_1 (by decide) (fun n => absurd n c1) (fun _ => ?_)
    refine lv_iload_n hx hb dJ3_checkIndex_8e157_4 rfl (lv_at hl 0 rfl) ?_
    refine lv_iload_n hx hb dJ3_checkIndex_8e157_5 rfl (lv_at hl 1 rfl) ?_
    rcases s_ite hf with ⟨c2, hf⟩ | ⟨c2, hf⟩
    · refine lv_icmp_lt (tgt := 16) hx hb dJ3_checkIndex_8e157_6 (by decide) (fun _ => ?_) (fun n => absurd c2 n)
      cases hf
      have k : _ = r := k
      subst k
      refine lv_iload_n hx hb dJ3_checkIndex_8e157_16 rfl (lv_at hl 0 rfl) ?_
      exact r_iret X I rfl rfl rfl hn dJ3_checkIndex_8e157_17
    · refine lv_icmp_lt (tgt := 16) hx hb dJ3_checkIndex_8e157_6 (by decide) (fun n => absurd n c2) (fun _ => ?_)
      cases hf
      have k : s_V G (d + 1) M_J3_checkIndex_8e157 vs0 σ0 Y_J3_checkIndex_8e157 (9, [.int v0, .int v1, v2], σ) (e_I r) := k
      exact k.2 p e s m below meth c _ _ _ _ _ X I hn.1 hn.2 (lv_sub hl [0, 1, 2] rfl)
set_option maxRecDepth 100000 in
set_option maxHeartbeats 4000000 in
theorem v_J3_checkIndex_8e157_9 {G : sG} {d : Nat} {vs0 : List Value} {σ0 : sS} {v0 : Int32} {v1 : Int32} {v2 : Value} {σ : sS} {z : sZ Int32} {r : Int32 × sS} (hf : T_J3_checkIndex_8e157_9 v0 v1 v2 σ = some z) (k : s_K G (d + 1) M_J3_checkIndex_8e157 vs0 σ0 Y_J3_checkIndex_8e157 e_I z r) : s_V G (d + 1) M_J3_checkIndex_8e157 vs0 σ0 Y_J3_checkIndex_8e157 (9, [.int v0, .int v1, v2], σ) (e_I r) := by
  have le0 : s_le σ (e_I r).2 := s_lek hem_I (l_J3_checkIndex_8e157_9 hf) k
  refine ⟨le0, ?_⟩
  intro p e s m below meth c H locs cells slots ls X I hn1 hn2 hl
  have hn : cells + σ0.2.1 ≤ σ.2.1 ∧ slots + σ0.2.2.1 ≤ σ.2.2.1 := ⟨hn1, hn2⟩
  have hl : lv_has ls 3 [(0, .int v0), (1, .int v1), (2, v2)] := hl
  have hx := X.1
  have hb : c.code = cJ3_checkIndex_8e157 := X.2.1
  have hown : s.vm.findClass RJ3 = some m.cls := X.2.2.2.2.2.1
  have hts := X.2.2.2.2.2.2.1
  refine W.eq (g2 := F0 m 9 ls []) rfl ?_
  unfold T_J3_checkIndex_8e157_9 at hf
  cases hf
theorem v_J3_checkIndex_8e157 {G : sG} {d : Nat} {vs0 : List Value} {σ0 : sS} {x : sL} {z : sZ Int32} {r : Int32 × sS} (hs : S_J3_checkIndex_8e157 x = some z) (k : s_K G (d + 1) M_J3_checkIndex_8e157 vs0 σ0 Y_J3_checkIndex_8e157 e_I z r) : s_V G (d + 1) M_J3_checkIndex_8e157 vs0 σ0 Y_J3_checkIndex_8e157 x (e_I r) := by
  obtain ⟨pc, vs, σ⟩ := x
  unfold S_J3_checkIndex_8e157 at hs
  dsimp only at hs
  rcases s_ite hs with ⟨c, hs⟩ | ⟨-, hs⟩
  · subst c
    unfold U_J3_checkIndex_8e157_0 at hs
    obtain ⟨a0, g0, hs⟩ := s_bind hs
    obtain ⟨a1, g1, hs⟩ := s_bind hs
    obtain ⟨a2, g2, hs⟩ := s_bind hs
    obtain ⟨u9, ge, hs⟩ := s_bind hs
    rw [g_i_to g0, g_i_to g1, g_w_to g2, g_e_to ge]
    exact v_J3_checkIndex_8e157_0 hs k
  rcases s_ite hs with ⟨c, hs⟩ | ⟨-, hs⟩
  · subst c
    unfold U_J3_checkIndex_8e157_9 at hs
    obtain ⟨a0, g0, hs⟩ := s_bind hs
    obtain ⟨a1, g1, hs⟩ := s_bind hs
    obtain ⟨a2, g2, hs⟩ := s_bind hs
    obtain ⟨u9, ge, hs⟩ := s_bind hs
    rw [g_i_to g0, g_i_to g1, g_w_to g2, g_e_to ge]
    exact v_J3_checkIndex_8e157_9 hs k
  cases hs
theorem t_J3_checkIndex_8e157 {G : sG} {d : Nat} {v0 : Int32} {v1 : Int32} {v2 : Value} {σ : sS} {q : Int32 × sS} (hw9 : v2 = .null ∨ ∃ t, v2 = .ref t) (h : F_J3_checkIndex_8e157 v0 v1 v2 σ = some q) : s_T G (d + 1) M_J3_checkIndex_8e157 [.int v0, .int v1, v2] σ (e_I q) := by
  unfold F_J3_checkIndex_8e157 at h
  rcases hw9 with rfl | ⟨t9, rfl⟩
  · exact s_ofV rfl (by decide) (Nat.le_of_ble_eq_true rfl) rfl rfl (s_run_ind (V := fun x r => s_V G (d + 1) M_J3_checkIndex_8e157 [.int v0, .int v1, .null] σ Y_J3_checkIndex_8e157 x (e_I r)) (fun x z r hs hk => v_J3_checkIndex_8e157 hs (by cases z <;> exact hk)) h)
  · exact s_ofV rfl (by decide) (Nat.le_of_ble_eq_true rfl) rfl rfl (s_run_ind (V := fun x r => s_V G (d + 1) M_J3_checkIndex_8e157 [.int v0, .int v1, .ref t9] σ Y_J3_checkIndex_8e157 x (e_I r)) (fun x z r hs hk => v_J3_checkIndex_8e157 hs (by cases z <;> exact hk)) h)
/-! String.checkIndex, by hand: what the static field holds doesn't matter -/
theorem F_J3_is {v0 v1 : Int32} {w : Value} {σ : sS} (h0 : ¬ v0 < 0) (h1 : v0 < v1) : F_J3_checkIndex_8e157 v0 v1 w σ = some (v0, σ) := by
  unfold F_J3_checkIndex_8e157
  rw [s_run_eq]
  simp [S_J3_checkIndex_8e157, U_J3_checkIndex_8e157_0, g_i, g_w, g_e, T_J3_checkIndex_8e157_0, h0, h1, s_go]
def F_J0_checkIndex_df160 (v0 v1 : Int32) (σ : sS) : Option (Unit × sS) := if v0 < 0 then none else if v0 < v1 then some ((), σ) else none
theorem F_J0_is {v0 v1 : Int32} {σ : sS} {q : Unit × sS} (h : F_J0_checkIndex_df160 v0 v1 σ = some q) : ¬ v0 < 0 ∧ v0 < v1 ∧ q = ((), σ) := by
  unfold F_J0_checkIndex_df160 at h
  rcases s_ite h with ⟨-, h⟩ | ⟨h0, h⟩
  · cases h
  · rcases s_ite h with ⟨h1, h⟩ | ⟨-, h⟩
    · cases h; exact ⟨h0, h1, rfl⟩
    · cases h
theorem l_J0_checkIndex_df160 {v0 v1 : Int32} {σ : sS} {q : Unit × sS} (h : F_J0_checkIndex_df160 v0 v1 σ = some q) : s_le σ q.2 := by
  obtain ⟨-, -, rfl⟩ := F_J0_is h
  exact s_le.rf
theorem t_J0_checkIndex_df160 {G : sG} {d : Nat} {v0 v1 : Int32} {σ : sS} {q : Unit × sS} (h : F_J0_checkIndex_df160 v0 v1 σ = some q) : s_T G (d + 2) M_J0_checkIndex_df160 [.int v0, .int v1] σ (e_V q) := by
  obtain ⟨h0, h1, rfl⟩ := F_J0_is h
  refine s_ofV (lay := fun _ => [0, 1]) rfl (by decide) (Nat.le_of_ble_eq_true rfl) rfl rfl ?_
  refine ⟨s_le.rf, ?_⟩
  intro p e s m below meth c H locs cells slots ls X I hn1 hn2 hl
  have hn : cells + σ.2.1 ≤ σ.2.1 ∧ slots + σ.2.2.1 ≤ σ.2.2.1 := ⟨hn1, hn2⟩
  have hl : lv_has ls 2 [(0, .int v0), (1, .int v1)] := hl
  have hx := X.1
  have hb : c.code = cJ0_checkIndex_df160 := X.2.1
  refine W.eq (g2 := F0 m 0 ls []) rfl ?_
  refine lv_iload_n hx hb dJ0_checkIndex_df160_0 rfl (lv_at hl 0 rfl) ?_
  refine lv_iload_n hx hb dJ0_checkIndex_df160_1 rfl (lv_at hl 1 rfl) ?_
  rcases I.1.2.2.2.2.2.1.2.2.2.2.2 with hz | ⟨t, hz⟩
  · refine r_gets X hz w_814 dJ0_checkIndex_df160_2 ?_
    refine r_callS (Y := M_J3_checkIndex_8e157) (v := some (.int v0)) X I w_816 my_J3_checkIndex_8e157 (by omega) (t_J3_checkIndex_8e157 (G := G) (d := d) (Or.inl rfl) (F_J3_is h0 h1)) rfl rfl hl.1 rfl (Nat.le_of_ble_eq_true rfl) hn s_le.rf dJ0_checkIndex_df160_5 (fun H locs cells slots I hn1 hn2 => ?_)
    refine lv_pop hx hb dJ0_checkIndex_df160_8 rfl ?_
    exact r_vret X I rfl rfl ⟨hn1, hn2⟩ dJ0_checkIndex_df160_9
  · refine r_gets X hz w_814 dJ0_checkIndex_df160_2 ?_
    refine r_callS (Y := M_J3_checkIndex_8e157) (v := some (.int v0)) X I w_816 my_J3_checkIndex_8e157 (by omega) (t_J3_checkIndex_8e157 (G := G) (d := d) (Or.inr ⟨t, rfl⟩) (F_J3_is h0 h1)) rfl rfl hl.1 rfl (Nat.le_of_ble_eq_true rfl) hn s_le.rf dJ0_checkIndex_df160_5 (fun H locs cells slots I hn1 hn2 => ?_)
    refine lv_pop hx hb dJ0_checkIndex_df160_8 rfl ?_
    exact r_vret X I rfl rfl ⟨hn1, hn2⟩ dJ0_checkIndex_df160_9

/-! J0_isLatin1_aae02 -/
noncomputable def T_J0_isLatin1_aae02_0 (v0 : Nat) (σ : sS) : Option (sZ Int32) :=
  if (1 : Int32) = 0 then (some (.inr (0, σ)))
  else ((s_fi σ v0 100 1).bind fun x1 =>
  if x1 = 0 then (some (.inr (1, σ)))
  else (some (.inr (0, σ))))
noncomputable def U_J0_isLatin1_aae02_0 (vs : List Value) (σ : sS) : Option (sZ Int32) := (g_r vs).bind fun a0 => (g_e a0.2).bind fun _ => T_J0_isLatin1_aae02_0 a0.1 σ
noncomputable def S_J0_isLatin1_aae02 (x : sL) : Option (sZ Int32) := if x.1 = 0 then U_J0_isLatin1_aae02_0 x.2.1 x.2.2 else none
def Y_J0_isLatin1_aae02 (pc : Nat) : List Nat := if pc = 0 then [0] else []
noncomputable def F_J0_isLatin1_aae02 (v0 : Nat) (σ : sS) : Option (Int32 × sS) := (s_is σ v0 100).bind fun _ => s_run S_J0_isLatin1_aae02 (0, [.ref v0], σ)
theorem l_J0_isLatin1_aae02_0 {v0 : Nat} {σ : sS} {z : sZ Int32} (hf : T_J0_isLatin1_aae02_0 v0 σ = some z) : s_lz σ z := by
  unfold T_J0_isLatin1_aae02_0 at hf
  rcases s_ite hf with ⟨-, hf⟩ | ⟨-, hf⟩
  · cases hf
    exact s_le.rf
  · obtain ⟨x1, -, hf⟩ := s_bind hf
    rcases s_ite hf with ⟨-, hf⟩ | ⟨-, hf⟩
    · cases hf
      exact s_le.rf
    · cases hf
      exact s_le.rf
theorem l_J0_isLatin1_aae02_s {x : sL} {z : sZ Int32} (hs : S_J0_isLatin1_aae02 x = some z) : s_lz x.2.2 z := by
  obtain ⟨pc, vs, σ⟩ := x
  unfold S_J0_isLatin1_aae02 at hs
  dsimp only at hs ⊢
  rcases s_ite hs with ⟨c, hs⟩ | ⟨-, hs⟩
  · subst c
    unfold U_J0_isLatin1_aae02_0 at hs
    obtain ⟨a0, g0, hs⟩ := s_bind hs
    obtain ⟨u9, ge, hs⟩ := s_bind hs
    exact l_J0_isLatin1_aae02_0 hs
  cases hs
theorem l_J0_isLatin1_aae02 {v0 : Nat} {σ : sS} {q : Int32 × sS} (h : F_J0_isLatin1_aae02 v0 σ = some q) : s_le σ q.2 := by
  unfold F_J0_isLatin1_aae02 at h
  obtain ⟨-, -, h⟩ := s_bind h
  exact s_run_ind (V := fun x r => s_le x.2.2 r.2) (fun x z r hs hk => by
    have h9 := l_J0_isLatin1_aae02_s hs
    cases z with
    | inl y => exact s_le.tr h9 hk
    | inr q => cases hk; exact h9) h
theorem b_J0_isLatin1_aae02 {v0 : Nat} {σ : sS} {q : Int32 × sS} (h : F_J0_isLatin1_aae02 v0 σ = some q) : ∃ fs, σ.1 v0 = some (.inr (100, fs)) := by
  unfold F_J0_isLatin1_aae02 at h
  obtain ⟨u, hu, -⟩ := s_bind h
  exact s_is_to hu
set_option maxRecDepth 100000 in
set_option maxHeartbeats 4000000 in
theorem v_J0_isLatin1_aae02_0 {G : sG} {d : Nat} {vs0 : List Value} {σ0 : sS} {v0 : Nat} {σ : sS} {z : sZ Int32} {r : Int32 × sS} (hf : T_J0_isLatin1_aae02_0 v0 σ = some z) (k : s_K G (d + 1) M_J0_isLatin1_aae02 vs0 σ0 Y_J0_isLatin1_aae02 e_I z r) : s_V G (d + 1) M_J0_isLatin1_aae02 vs0 σ0 Y_J0_isLatin1_aae02 (0, [.ref v0], σ) (e_I r) := by
  have le0 : s_le σ (e_I r).2 := s_lek hem_I (l_J0_isLatin1_aae02_0 hf) k
  refine ⟨le0, ?_⟩
  intro p e s m below meth c H locs cells slots ls X I hn1 hn2 hl
  have hn : cells + σ0.2.1 ≤ σ.2.1 ∧ slots + σ0.2.2.1 ≤ σ.2.2.1 := ⟨hn1, hn2⟩
  have hl : lv_has ls 1 [(0, .ref v0)] := hl
  have hx := X.1
  have hb : c.code = cJ0_isLatin1_aae02 := X.2.1
  have hown : s.vm.findClass RJ0 = some m.cls := X.2.2.2.2.2.1
  have hts := X.2.2.2.2.2.2.1
  refine W.eq (g2 := F0 m 0 ls []) rfl ?_
  unfold T_J0_isLatin1_aae02_0 at hf
  refine r_gets X I.1.2.2.2.2.2.1.2.2.2.2.1 w_798 dJ0_isLatin1_aae02_0 ?_
  rcases s_ite hf with ⟨c1, hf⟩ | ⟨c1, hf⟩
  · refine lv_if_eq (tgt := 17) hx hb dJ0_isLatin1_aae02_3 (by decide) (fun _ => ?_) (fun n => absurd c1 n)
    cases hf
    have k : _ = r := k
    subst k
    refine lv_iconst (v := 0) hx hb dJ0_isLatin1_aae02_17 (by decide) ?_
    exact r_iret X I rfl rfl rfl hn dJ0_isLatin1_aae02_18
  · refine lv_if_eq (tgt := 17) hx hb dJ0_isLatin1_aae02_3 (by decide) (fun n => absurd n c1) (fun _ => ?_)
    obtain ⟨x1, h2, hf⟩ := s_bind hf
    refine lv_aload_n hx hb dJ0_isLatin1_aae02_6 rfl (lv_at hl 0 rfl) ?_
    refine r_gsc X I w_2365 h2 dJ0_isLatin1_aae02_7 ?_
    rcases s_ite hf with ⟨c3, hf⟩ | ⟨c3, hf⟩
    · refine lv_if_ne (tgt := 17) hx hb dJ0_isLatin1_aae02_10 (by decide) (fun n => absurd c3 n) (fun _ => ?_)
      cases hf
      have k : _ = r := k
      subst k
      refine lv_iconst (v := 1) hx hb dJ0_isLatin1_aae02_13 (by decide) ?_
      refine lv_goto (tgt := 18) hx hb dJ0_isLatin1_aae02_14 (by decide) ?_
      exact r_iret X I rfl rfl rfl hn dJ0_isLatin1_aae02_18
    · refine lv_if_ne (tgt := 17) hx hb dJ0_isLatin1_aae02_10 (by decide) (fun _ => ?_) (fun n => absurd n c3)
      cases hf
      have k : _ = r := k
      subst k
      refine lv_iconst (v := 0) hx hb dJ0_isLatin1_aae02_17 (by decide) ?_
      exact r_iret X I rfl rfl rfl hn dJ0_isLatin1_aae02_18
theorem v_J0_isLatin1_aae02 {G : sG} {d : Nat} {vs0 : List Value} {σ0 : sS} {x : sL} {z : sZ Int32} {r : Int32 × sS} (hs : S_J0_isLatin1_aae02 x = some z) (k : s_K G (d + 1) M_J0_isLatin1_aae02 vs0 σ0 Y_J0_isLatin1_aae02 e_I z r) : s_V G (d + 1) M_J0_isLatin1_aae02 vs0 σ0 Y_J0_isLatin1_aae02 x (e_I r) := by
  obtain ⟨pc, vs, σ⟩ := x
  unfold S_J0_isLatin1_aae02 at hs
  dsimp only at hs
  rcases s_ite hs with ⟨c, hs⟩ | ⟨-, hs⟩
  · subst c
    unfold U_J0_isLatin1_aae02_0 at hs
    obtain ⟨a0, g0, hs⟩ := s_bind hs
    obtain ⟨u9, ge, hs⟩ := s_bind hs
    rw [g_r_to g0, g_e_to ge]
    exact v_J0_isLatin1_aae02_0 hs k
  cases hs
theorem t_J0_isLatin1_aae02 {G : sG} {d : Nat} {v0 : Nat} {σ : sS} {q : Int32 × sS} (h : F_J0_isLatin1_aae02 v0 σ = some q) : s_T G (d + 1) M_J0_isLatin1_aae02 [.ref v0] σ (e_I q) := by
  unfold F_J0_isLatin1_aae02 at h
  obtain ⟨-, -, h⟩ := s_bind h
  exact s_ofV rfl (by decide) (Nat.le_of_ble_eq_true rfl) rfl rfl (s_run_ind (V := fun x r => s_V G (d + 1) M_J0_isLatin1_aae02 [.ref v0] σ Y_J0_isLatin1_aae02 x (e_I r)) (fun x z r hs hk => v_J0_isLatin1_aae02 hs (by cases z <;> exact hk)) h)
/-! J1_charAt_3b067 -/
noncomputable def T_J1_charAt_3b067_0 (v0 : Nat) (v1 : Int32) (σ : sS) : Option (sZ Int32) :=
  (s_len σ v0).bind fun x1 =>
  (F_J0_checkIndex_df160 v1 x1 σ).bind fun q2 =>
  (s_ab q2.2 v0 v1).bind fun x3 =>
  if vp_nar .char ((((x3 &&& 255) : Int32).toUInt32 % 65536).toInt32) = ((((x3 &&& 255) : Int32).toUInt32 % 65536).toInt32) then (some (.inr (((((x3 &&& 255) : Int32).toUInt32 % 65536).toInt32), q2.2))) else none
noncomputable def U_J1_charAt_3b067_0 (vs : List Value) (σ : sS) : Option (sZ Int32) := (g_r vs).bind fun a0 => (g_i a0.2).bind fun a1 => (g_e a1.2).bind fun _ => T_J1_charAt_3b067_0 a0.1 a1.1 σ
noncomputable def S_J1_charAt_3b067 (x : sL) : Option (sZ Int32) := if x.1 = 0 then U_J1_charAt_3b067_0 x.2.1 x.2.2 else none
def Y_J1_charAt_3b067 (pc : Nat) : List Nat := if pc = 0 then [0, 1] else []
noncomputable def F_J1_charAt_3b067 (v0 : Nat) (v1 : Int32) (σ : sS) : Option (Int32 × sS) := s_run S_J1_charAt_3b067 (0, [.ref v0, .int v1], σ)
theorem l_J1_charAt_3b067_0 {v0 : Nat} {v1 : Int32} {σ : sS} {z : sZ Int32} (hf : T_J1_charAt_3b067_0 v0 v1 σ = some z) : s_lz σ z := by
  unfold T_J1_charAt_3b067_0 at hf
  obtain ⟨x1, -, hf⟩ := s_bind hf
  obtain ⟨q2, hh, hf⟩ := s_bind hf
  refine s_lz.tr (l_J0_checkIndex_df160 hh) ?_
  obtain ⟨x3, -, hf⟩ := s_bind hf
  rcases s_ite hf with ⟨-, hf⟩ | ⟨-, hf⟩
  · cases hf
    exact s_le.rf
  · cases hf
theorem l_J1_charAt_3b067_s {x : sL} {z : sZ Int32} (hs : S_J1_charAt_3b067 x = some z) : s_lz x.2.2 z := by
  obtain ⟨pc, vs, σ⟩ := x
  unfold S_J1_charAt_3b067 at hs
  dsimp only at hs ⊢
  rcases s_ite hs with ⟨c, hs⟩ | ⟨-, hs⟩
  · subst c
    unfold U_J1_charAt_3b067_0 at hs
    obtain ⟨a0, g0, hs⟩ := s_bind hs
    obtain ⟨a1, g1, hs⟩ := s_bind hs
    obtain ⟨u9, ge, hs⟩ := s_bind hs
    exact l_J1_charAt_3b067_0 hs
  cases hs
theorem l_J1_charAt_3b067 {v0 : Nat} {v1 : Int32} {σ : sS} {q : Int32 × sS} (h : F_J1_charAt_3b067 v0 v1 σ = some q) : s_le σ q.2 := by
  unfold F_J1_charAt_3b067 at h
  exact s_run_ind (V := fun x r => s_le x.2.2 r.2) (fun x z r hs hk => by
    have h9 := l_J1_charAt_3b067_s hs
    cases z with
    | inl y => exact s_le.tr h9 hk
    | inr q => cases hk; exact h9) h
set_option maxRecDepth 100000 in
set_option maxHeartbeats 4000000 in
theorem v_J1_charAt_3b067_0 {G : sG} {d : Nat} {vs0 : List Value} {σ0 : sS} {v0 : Nat} {v1 : Int32} {σ : sS} {z : sZ Int32} {r : Int32 × sS} (hf : T_J1_charAt_3b067_0 v0 v1 σ = some z) (k : s_K G (d + 3) M_J1_charAt_3b067 vs0 σ0 Y_J1_charAt_3b067 e_I z r) : s_V G (d + 3) M_J1_charAt_3b067 vs0 σ0 Y_J1_charAt_3b067 (0, [.ref v0, .int v1], σ) (e_I r) := by
  have le0 : s_le σ (e_I r).2 := s_lek hem_I (l_J1_charAt_3b067_0 hf) k
  refine ⟨le0, ?_⟩
  intro p e s m below meth c H locs cells slots ls X I hn1 hn2 hl
  have hn : cells + σ0.2.1 ≤ σ.2.1 ∧ slots + σ0.2.2.1 ≤ σ.2.2.1 := ⟨hn1, hn2⟩
  have hl : lv_has ls 2 [(0, .ref v0), (1, .int v1)] := hl
  have hx := X.1
  have hb : c.code = cJ1_charAt_3b067 := X.2.1
  have hown : s.vm.findClass RJ1 = some m.cls := X.2.2.2.2.2.1
  have hts := X.2.2.2.2.2.2.1
  refine W.eq (g2 := F0 m 0 ls []) rfl ?_
  unfold T_J1_charAt_3b067_0 at hf
  obtain ⟨x1, h1, hf⟩ := s_bind hf
  obtain ⟨q2, h2, hf⟩ := s_bind hf
  obtain ⟨x3, h3, hf⟩ := s_bind hf
  have le4 : s_le q2.2 (e_I r).2 := by
    refine s_lek hem_I ?_ k
    rcases s_ite hf with ⟨-, hf⟩ | ⟨-, hf⟩
    · cases hf
      exact s_le.rf
    · cases hf
  refine lv_iload_n hx hb dJ1_charAt_3b067_0 rfl (lv_at hl 1 rfl) ?_
  refine lv_aload_n hx hb dJ1_charAt_3b067_1 rfl (lv_at hl 0 rfl) ?_
  refine r_alen X I h1 dJ1_charAt_3b067_2 ?_
  refine r_callS (Y := M_J0_checkIndex_df160) (v := none) X I w_811 my_J0_checkIndex_df160 (by omega) (t_J0_checkIndex_df160 (G := G) (d := d + 0) h2) rfl rfl hl.1 rfl (Nat.le_of_ble_eq_true rfl) hn le4 dJ1_charAt_3b067_3 (fun H locs cells slots I hn1 hn2 => ?_)
  have I : s_I G q2.2 s H locs := I
  have hn : cells + σ0.2.1 ≤ q2.2.2.1 ∧ slots + σ0.2.2.1 ≤ q2.2.2.2.1 := ⟨hn1, hn2⟩
  refine lv_aload_n hx hb dJ1_charAt_3b067_6 rfl (lv_at hl 0 rfl) ?_
  refine lv_iload_n hx hb dJ1_charAt_3b067_7 rfl (lv_at hl 1 rfl) ?_
  refine r_bald X I h3 dJ1_charAt_3b067_8 ?_
  refine lv_sipush (v := 255) hx hb dJ1_charAt_3b067_9 (by decide) ?_
  refine lv_iand hx hb dJ1_charAt_3b067_12 ?_
  refine lv_i2c hx hb dJ1_charAt_3b067_13 rfl ?_
  rcases s_ite hf with ⟨hchk, hf⟩ | ⟨-, hf⟩
  · cases hf
    have k : _ = r := k
    subst k
    exact r_iret X I rfl (s_ncn hchk) rfl hn dJ1_charAt_3b067_14
  · cases hf
theorem v_J1_charAt_3b067 {G : sG} {d : Nat} {vs0 : List Value} {σ0 : sS} {x : sL} {z : sZ Int32} {r : Int32 × sS} (hs : S_J1_charAt_3b067 x = some z) (k : s_K G (d + 3) M_J1_charAt_3b067 vs0 σ0 Y_J1_charAt_3b067 e_I z r) : s_V G (d + 3) M_J1_charAt_3b067 vs0 σ0 Y_J1_charAt_3b067 x (e_I r) := by
  obtain ⟨pc, vs, σ⟩ := x
  unfold S_J1_charAt_3b067 at hs
  dsimp only at hs
  rcases s_ite hs with ⟨c, hs⟩ | ⟨-, hs⟩
  · subst c
    unfold U_J1_charAt_3b067_0 at hs
    obtain ⟨a0, g0, hs⟩ := s_bind hs
    obtain ⟨a1, g1, hs⟩ := s_bind hs
    obtain ⟨u9, ge, hs⟩ := s_bind hs
    rw [g_r_to g0, g_i_to g1, g_e_to ge]
    exact v_J1_charAt_3b067_0 hs k
  cases hs
theorem t_J1_charAt_3b067 {G : sG} {d : Nat} {v0 : Nat} {v1 : Int32} {σ : sS} {q : Int32 × sS} (h : F_J1_charAt_3b067 v0 v1 σ = some q) : s_T G (d + 3) M_J1_charAt_3b067 [.ref v0, .int v1] σ (e_I q) := by
  unfold F_J1_charAt_3b067 at h
  exact s_ofV rfl (by decide) (Nat.le_of_ble_eq_true rfl) rfl rfl (s_run_ind (V := fun x r => s_V G (d + 3) M_J1_charAt_3b067 [.ref v0, .int v1] σ Y_J1_charAt_3b067 x (e_I r)) (fun x z r hs hk => v_J1_charAt_3b067 hs (by cases z <;> exact hk)) h)
/-! J2_length_9d52b -/
noncomputable def T_J2_length_9d52b_0 (v0 : Nat) (σ : sS) : Option (sZ Int32) :=
  (s_len σ v0).bind fun x1 =>
  some (.inr ((x1 >>> (1 &&& 31)), σ))
noncomputable def U_J2_length_9d52b_0 (vs : List Value) (σ : sS) : Option (sZ Int32) := (g_r vs).bind fun a0 => (g_e a0.2).bind fun _ => T_J2_length_9d52b_0 a0.1 σ
noncomputable def S_J2_length_9d52b (x : sL) : Option (sZ Int32) := if x.1 = 0 then U_J2_length_9d52b_0 x.2.1 x.2.2 else none
def Y_J2_length_9d52b (pc : Nat) : List Nat := if pc = 0 then [0] else []
noncomputable def F_J2_length_9d52b (v0 : Nat) (σ : sS) : Option (Int32 × sS) := s_run S_J2_length_9d52b (0, [.ref v0], σ)
theorem l_J2_length_9d52b_0 {v0 : Nat} {σ : sS} {z : sZ Int32} (hf : T_J2_length_9d52b_0 v0 σ = some z) : s_lz σ z := by
  unfold T_J2_length_9d52b_0 at hf
  obtain ⟨x1, -, hf⟩ := s_bind hf
  cases hf
  exact s_le.rf
theorem l_J2_length_9d52b_s {x : sL} {z : sZ Int32} (hs : S_J2_length_9d52b x = some z) : s_lz x.2.2 z := by
  obtain ⟨pc, vs, σ⟩ := x
  unfold S_J2_length_9d52b at hs
  dsimp only at hs ⊢
  rcases s_ite hs with ⟨c, hs⟩ | ⟨-, hs⟩
  · subst c
    unfold U_J2_length_9d52b_0 at hs
    obtain ⟨a0, g0, hs⟩ := s_bind hs
    obtain ⟨u9, ge, hs⟩ := s_bind hs
    exact l_J2_length_9d52b_0 hs
  cases hs
theorem l_J2_length_9d52b {v0 : Nat} {σ : sS} {q : Int32 × sS} (h : F_J2_length_9d52b v0 σ = some q) : s_le σ q.2 := by
  unfold F_J2_length_9d52b at h
  exact s_run_ind (V := fun x r => s_le x.2.2 r.2) (fun x z r hs hk => by
    have h9 := l_J2_length_9d52b_s hs
    cases z with
    | inl y => exact s_le.tr h9 hk
    | inr q => cases hk; exact h9) h
set_option maxRecDepth 100000 in
set_option maxHeartbeats 4000000 in
theorem v_J2_length_9d52b_0 {G : sG} {d : Nat} {vs0 : List Value} {σ0 : sS} {v0 : Nat} {σ : sS} {z : sZ Int32} {r : Int32 × sS} (hf : T_J2_length_9d52b_0 v0 σ = some z) (k : s_K G (d + 1) M_J2_length_9d52b vs0 σ0 Y_J2_length_9d52b e_I z r) : s_V G (d + 1) M_J2_length_9d52b vs0 σ0 Y_J2_length_9d52b (0, [.ref v0], σ) (e_I r) := by
  have le0 : s_le σ (e_I r).2 := s_lek hem_I (l_J2_length_9d52b_0 hf) k
  refine ⟨le0, ?_⟩
  intro p e s m below meth c H locs cells slots ls X I hn1 hn2 hl
  have hn : cells + σ0.2.1 ≤ σ.2.1 ∧ slots + σ0.2.2.1 ≤ σ.2.2.1 := ⟨hn1, hn2⟩
  have hl : lv_has ls 1 [(0, .ref v0)] := hl
  have hx := X.1
  have hb : c.code = cJ2_length_9d52b := X.2.1
  have hown : s.vm.findClass RJ2 = some m.cls := X.2.2.2.2.2.1
  have hts := X.2.2.2.2.2.2.1
  refine W.eq (g2 := F0 m 0 ls []) rfl ?_
  unfold T_J2_length_9d52b_0 at hf
  obtain ⟨x1, h1, hf⟩ := s_bind hf
  cases hf
  have k : _ = r := k
  subst k
  refine lv_aload_n hx hb dJ2_length_9d52b_0 rfl (lv_at hl 0 rfl) ?_
  refine r_alen X I h1 dJ2_length_9d52b_1 ?_
  refine lv_iconst (v := 1) hx hb dJ2_length_9d52b_2 (by decide) ?_
  refine lv_ishr hx hb dJ2_length_9d52b_3 ?_
  exact r_iret X I rfl rfl rfl hn dJ2_length_9d52b_4
theorem v_J2_length_9d52b {G : sG} {d : Nat} {vs0 : List Value} {σ0 : sS} {x : sL} {z : sZ Int32} {r : Int32 × sS} (hs : S_J2_length_9d52b x = some z) (k : s_K G (d + 1) M_J2_length_9d52b vs0 σ0 Y_J2_length_9d52b e_I z r) : s_V G (d + 1) M_J2_length_9d52b vs0 σ0 Y_J2_length_9d52b x (e_I r) := by
  obtain ⟨pc, vs, σ⟩ := x
  unfold S_J2_length_9d52b at hs
  dsimp only at hs
  rcases s_ite hs with ⟨c, hs⟩ | ⟨-, hs⟩
  · subst c
    unfold U_J2_length_9d52b_0 at hs
    obtain ⟨a0, g0, hs⟩ := s_bind hs
    obtain ⟨u9, ge, hs⟩ := s_bind hs
    rw [g_r_to g0, g_e_to ge]
    exact v_J2_length_9d52b_0 hs k
  cases hs
theorem t_J2_length_9d52b {G : sG} {d : Nat} {v0 : Nat} {σ : sS} {q : Int32 × sS} (h : F_J2_length_9d52b v0 σ = some q) : s_T G (d + 1) M_J2_length_9d52b [.ref v0] σ (e_I q) := by
  unfold F_J2_length_9d52b at h
  exact s_ofV rfl (by decide) (Nat.le_of_ble_eq_true rfl) rfl rfl (s_run_ind (V := fun x r => s_V G (d + 1) M_J2_length_9d52b [.ref v0] σ Y_J2_length_9d52b x (e_I r)) (fun x z r hs hk => v_J2_length_9d52b hs (by cases z <;> exact hk)) h)
/-! J2_checkIndex_2214a -/
noncomputable def T_J2_checkIndex_2214a_0 (v0 : Int32) (v1 : Nat) (σ : sS) : Option (sZ Unit) :=
  (F_J2_length_9d52b v1 σ).bind fun q1 =>
  (F_J0_checkIndex_df160 v0 q1.1 q1.2).bind fun q2 =>
  some (.inr ((), q2.2))
noncomputable def U_J2_checkIndex_2214a_0 (vs : List Value) (σ : sS) : Option (sZ Unit) := (g_i vs).bind fun a0 => (g_r a0.2).bind fun a1 => (g_e a1.2).bind fun _ => T_J2_checkIndex_2214a_0 a0.1 a1.1 σ
noncomputable def S_J2_checkIndex_2214a (x : sL) : Option (sZ Unit) := if x.1 = 0 then U_J2_checkIndex_2214a_0 x.2.1 x.2.2 else none
def Y_J2_checkIndex_2214a (pc : Nat) : List Nat := if pc = 0 then [0, 1] else []
noncomputable def F_J2_checkIndex_2214a (v0 : Int32) (v1 : Nat) (σ : sS) : Option (Unit × sS) := s_run S_J2_checkIndex_2214a (0, [.int v0, .ref v1], σ)
theorem l_J2_checkIndex_2214a_0 {v0 : Int32} {v1 : Nat} {σ : sS} {z : sZ Unit} (hf : T_J2_checkIndex_2214a_0 v0 v1 σ = some z) : s_lz σ z := by
  unfold T_J2_checkIndex_2214a_0 at hf
  obtain ⟨q1, hh, hf⟩ := s_bind hf
  refine s_lz.tr (l_J2_length_9d52b hh) ?_
  obtain ⟨q2, hh, hf⟩ := s_bind hf
  refine s_lz.tr (l_J0_checkIndex_df160 hh) ?_
  cases hf
  exact s_le.rf
theorem l_J2_checkIndex_2214a_s {x : sL} {z : sZ Unit} (hs : S_J2_checkIndex_2214a x = some z) : s_lz x.2.2 z := by
  obtain ⟨pc, vs, σ⟩ := x
  unfold S_J2_checkIndex_2214a at hs
  dsimp only at hs ⊢
  rcases s_ite hs with ⟨c, hs⟩ | ⟨-, hs⟩
  · subst c
    unfold U_J2_checkIndex_2214a_0 at hs
    obtain ⟨a0, g0, hs⟩ := s_bind hs
    obtain ⟨a1, g1, hs⟩ := s_bind hs
    obtain ⟨u9, ge, hs⟩ := s_bind hs
    exact l_J2_checkIndex_2214a_0 hs
  cases hs
theorem l_J2_checkIndex_2214a {v0 : Int32} {v1 : Nat} {σ : sS} {q : Unit × sS} (h : F_J2_checkIndex_2214a v0 v1 σ = some q) : s_le σ q.2 := by
  unfold F_J2_checkIndex_2214a at h
  exact s_run_ind (V := fun x r => s_le x.2.2 r.2) (fun x z r hs hk => by
    have h9 := l_J2_checkIndex_2214a_s hs
    cases z with
    | inl y => exact s_le.tr h9 hk
    | inr q => cases hk; exact h9) h
set_option maxRecDepth 100000 in
set_option maxHeartbeats 4000000 in
theorem v_J2_checkIndex_2214a_0 {G : sG} {d : Nat} {vs0 : List Value} {σ0 : sS} {v0 : Int32} {v1 : Nat} {σ : sS} {z : sZ Unit} {r : Unit × sS} (hf : T_J2_checkIndex_2214a_0 v0 v1 σ = some z) (k : s_K G (d + 3) M_J2_checkIndex_2214a vs0 σ0 Y_J2_checkIndex_2214a e_V z r) : s_V G (d + 3) M_J2_checkIndex_2214a vs0 σ0 Y_J2_checkIndex_2214a (0, [.int v0, .ref v1], σ) (e_V r) := by
  have le0 : s_le σ (e_V r).2 := s_lek hem_V (l_J2_checkIndex_2214a_0 hf) k
  refine ⟨le0, ?_⟩
  intro p e s m below meth c H locs cells slots ls X I hn1 hn2 hl
  have hn : cells + σ0.2.1 ≤ σ.2.1 ∧ slots + σ0.2.2.1 ≤ σ.2.2.1 := ⟨hn1, hn2⟩
  have hl : lv_has ls 2 [(0, .int v0), (1, .ref v1)] := hl
  have hx := X.1
  have hb : c.code = cJ2_checkIndex_2214a := X.2.1
  have hown : s.vm.findClass RJ2 = some m.cls := X.2.2.2.2.2.1
  have hts := X.2.2.2.2.2.2.1
  refine W.eq (g2 := F0 m 0 ls []) rfl ?_
  unfold T_J2_checkIndex_2214a_0 at hf
  obtain ⟨q1, h1, hf⟩ := s_bind hf
  obtain ⟨q2, h2, hf⟩ := s_bind hf
  cases hf
  have k : _ = r := k
  subst k
  have le3 : s_le q2.2 q2.2 := s_le.rf
  have le4 := s_le.tr (l_J0_checkIndex_df160 h2) le3
  refine lv_iload_n hx hb dJ2_checkIndex_2214a_0 rfl (lv_at hl 0 rfl) ?_
  refine lv_aload_n hx hb dJ2_checkIndex_2214a_1 rfl (lv_at hl 1 rfl) ?_
  refine r_callS (Y := M_J2_length_9d52b) (v := some (.int q1.1)) X I w_825 my_J2_length_9d52b (by omega) (t_J2_length_9d52b (G := G) (d := d + 1) h1) rfl rfl hl.1 rfl (Nat.le_of_ble_eq_true rfl) hn le4 dJ2_checkIndex_2214a_2 (fun H locs cells slots I hn1 hn2 => ?_)
  have I : s_I G q1.2 s H locs := I
  have hn : cells + σ0.2.1 ≤ q1.2.2.1 ∧ slots + σ0.2.2.1 ≤ q1.2.2.2.1 := ⟨hn1, hn2⟩
  refine r_callS (Y := M_J0_checkIndex_df160) (v := none) X I w_828 my_J0_checkIndex_df160 (by omega) (t_J0_checkIndex_df160 (G := G) (d := d + 0) h2) rfl rfl hl.1 rfl (Nat.le_of_ble_eq_true rfl) hn le3 dJ2_checkIndex_2214a_5 (fun H locs cells slots I hn1 hn2 => ?_)
  have I : s_I G q2.2 s H locs := I
  have hn : cells + σ0.2.1 ≤ q2.2.2.1 ∧ slots + σ0.2.2.1 ≤ q2.2.2.2.1 := ⟨hn1, hn2⟩
  exact r_vret X I rfl rfl hn dJ2_checkIndex_2214a_8
theorem v_J2_checkIndex_2214a {G : sG} {d : Nat} {vs0 : List Value} {σ0 : sS} {x : sL} {z : sZ Unit} {r : Unit × sS} (hs : S_J2_checkIndex_2214a x = some z) (k : s_K G (d + 3) M_J2_checkIndex_2214a vs0 σ0 Y_J2_checkIndex_2214a e_V z r) : s_V G (d + 3) M_J2_checkIndex_2214a vs0 σ0 Y_J2_checkIndex_2214a x (e_V r) := by
  obtain ⟨pc, vs, σ⟩ := x
  unfold S_J2_checkIndex_2214a at hs
  dsimp only at hs
  rcases s_ite hs with ⟨c, hs⟩ | ⟨-, hs⟩
  · subst c
    unfold U_J2_checkIndex_2214a_0 at hs
    obtain ⟨a0, g0, hs⟩ := s_bind hs
    obtain ⟨a1, g1, hs⟩ := s_bind hs
    obtain ⟨u9, ge, hs⟩ := s_bind hs
    rw [g_i_to g0, g_r_to g1, g_e_to ge]
    exact v_J2_checkIndex_2214a_0 hs k
  cases hs
theorem t_J2_checkIndex_2214a {G : sG} {d : Nat} {v0 : Int32} {v1 : Nat} {σ : sS} {q : Unit × sS} (h : F_J2_checkIndex_2214a v0 v1 σ = some q) : s_T G (d + 3) M_J2_checkIndex_2214a [.int v0, .ref v1] σ (e_V q) := by
  unfold F_J2_checkIndex_2214a at h
  exact s_ofV rfl (by decide) (Nat.le_of_ble_eq_true rfl) rfl rfl (s_run_ind (V := fun x r => s_V G (d + 3) M_J2_checkIndex_2214a [.int v0, .ref v1] σ Y_J2_checkIndex_2214a x (e_V r)) (fun x z r hs hk => v_J2_checkIndex_2214a hs (by cases z <;> exact hk)) h)
/-! J2_getChar_3b067 -/
noncomputable def T_J2_getChar_3b067_0 (v0 : Nat) (v1 : Int32) (σ : sS) : Option (sZ Int32) :=
  none
noncomputable def U_J2_getChar_3b067_0 (vs : List Value) (σ : sS) : Option (sZ Int32) := (g_r vs).bind fun a0 => (g_i a0.2).bind fun a1 => (g_e a1.2).bind fun _ => T_J2_getChar_3b067_0 a0.1 a1.1 σ
noncomputable def S_J2_getChar_3b067 (x : sL) : Option (sZ Int32) := if x.1 = 0 then U_J2_getChar_3b067_0 x.2.1 x.2.2 else none
def Y_J2_getChar_3b067 (pc : Nat) : List Nat := if pc = 0 then [0, 1] else []
noncomputable def F_J2_getChar_3b067 (v0 : Nat) (v1 : Int32) (σ : sS) : Option (Int32 × sS) := s_run S_J2_getChar_3b067 (0, [.ref v0, .int v1], σ)
theorem l_J2_getChar_3b067_0 {v0 : Nat} {v1 : Int32} {σ : sS} {z : sZ Int32} (hf : T_J2_getChar_3b067_0 v0 v1 σ = some z) : s_lz σ z := by
  unfold T_J2_getChar_3b067_0 at hf
  cases hf
theorem l_J2_getChar_3b067_s {x : sL} {z : sZ Int32} (hs : S_J2_getChar_3b067 x = some z) : s_lz x.2.2 z := by
  obtain ⟨pc, vs, σ⟩ := x
  unfold S_J2_getChar_3b067 at hs
  dsimp only at hs ⊢
  rcases s_ite hs with ⟨c, hs⟩ | ⟨-, hs⟩
  · subst c
    unfold U_J2_getChar_3b067_0 at hs
    obtain ⟨a0, g0, hs⟩ := s_bind hs
    obtain ⟨a1, g1, hs⟩ := s_bind hs
    obtain ⟨u9, ge, hs⟩ := s_bind hs
    exact l_J2_getChar_3b067_0 hs
  cases hs
theorem l_J2_getChar_3b067 {v0 : Nat} {v1 : Int32} {σ : sS} {q : Int32 × sS} (h : F_J2_getChar_3b067 v0 v1 σ = some q) : s_le σ q.2 := by
  unfold F_J2_getChar_3b067 at h
  exact s_run_ind (V := fun x r => s_le x.2.2 r.2) (fun x z r hs hk => by
    have h9 := l_J2_getChar_3b067_s hs
    cases z with
    | inl y => exact s_le.tr h9 hk
    | inr q => cases hk; exact h9) h
set_option maxRecDepth 100000 in
set_option maxHeartbeats 4000000 in
theorem v_J2_getChar_3b067_0 {G : sG} {d : Nat} {vs0 : List Value} {σ0 : sS} {v0 : Nat} {v1 : Int32} {σ : sS} {z : sZ Int32} {r : Int32 × sS} (hf : T_J2_getChar_3b067_0 v0 v1 σ = some z) (k : s_K G (d + 1) M_J2_getChar_3b067 vs0 σ0 Y_J2_getChar_3b067 e_I z r) : s_V G (d + 1) M_J2_getChar_3b067 vs0 σ0 Y_J2_getChar_3b067 (0, [.ref v0, .int v1], σ) (e_I r) := by
  have le0 : s_le σ (e_I r).2 := s_lek hem_I (l_J2_getChar_3b067_0 hf) k
  refine ⟨le0, ?_⟩
  intro p e s m below meth c H locs cells slots ls X I hn1 hn2 hl
  have hn : cells + σ0.2.1 ≤ σ.2.1 ∧ slots + σ0.2.2.1 ≤ σ.2.2.1 := ⟨hn1, hn2⟩
  have hl : lv_has ls 2 [(0, .ref v0), (1, .int v1)] := hl
  have hx := X.1
  have hb : c.code = cJ2_getChar_3b067 := X.2.1
  have hown : s.vm.findClass RJ2 = some m.cls := X.2.2.2.2.2.1
  have hts := X.2.2.2.2.2.2.1
  refine W.eq (g2 := F0 m 0 ls []) rfl ?_
  unfold T_J2_getChar_3b067_0 at hf
  cases hf
theorem v_J2_getChar_3b067 {G : sG} {d : Nat} {vs0 : List Value} {σ0 : sS} {x : sL} {z : sZ Int32} {r : Int32 × sS} (hs : S_J2_getChar_3b067 x = some z) (k : s_K G (d + 1) M_J2_getChar_3b067 vs0 σ0 Y_J2_getChar_3b067 e_I z r) : s_V G (d + 1) M_J2_getChar_3b067 vs0 σ0 Y_J2_getChar_3b067 x (e_I r) := by
  obtain ⟨pc, vs, σ⟩ := x
  unfold S_J2_getChar_3b067 at hs
  dsimp only at hs
  rcases s_ite hs with ⟨c, hs⟩ | ⟨-, hs⟩
  · subst c
    unfold U_J2_getChar_3b067_0 at hs
    obtain ⟨a0, g0, hs⟩ := s_bind hs
    obtain ⟨a1, g1, hs⟩ := s_bind hs
    obtain ⟨u9, ge, hs⟩ := s_bind hs
    rw [g_r_to g0, g_i_to g1, g_e_to ge]
    exact v_J2_getChar_3b067_0 hs k
  cases hs
theorem t_J2_getChar_3b067 {G : sG} {d : Nat} {v0 : Nat} {v1 : Int32} {σ : sS} {q : Int32 × sS} (h : F_J2_getChar_3b067 v0 v1 σ = some q) : s_T G (d + 1) M_J2_getChar_3b067 [.ref v0, .int v1] σ (e_I q) := by
  unfold F_J2_getChar_3b067 at h
  exact s_ofV rfl (by decide) (Nat.le_of_ble_eq_true rfl) rfl rfl (s_run_ind (V := fun x r => s_V G (d + 1) M_J2_getChar_3b067 [.ref v0, .int v1] σ Y_J2_getChar_3b067 x (e_I r)) (fun x z r hs hk => v_J2_getChar_3b067 hs (by cases z <;> exact hk)) h)
/-! J2_charAt_3b067 -/
noncomputable def T_J2_charAt_3b067_0 (v0 : Nat) (v1 : Int32) (σ : sS) : Option (sZ Int32) :=
  (F_J2_checkIndex_2214a v1 v0 σ).bind fun q1 =>
  (F_J2_getChar_3b067 v0 v1 q1.2).bind fun q2 =>
  if vp_nar .char q2.1 = q2.1 then (some (.inr (q2.1, q2.2))) else none
noncomputable def U_J2_charAt_3b067_0 (vs : List Value) (σ : sS) : Option (sZ Int32) := (g_r vs).bind fun a0 => (g_i a0.2).bind fun a1 => (g_e a1.2).bind fun _ => T_J2_charAt_3b067_0 a0.1 a1.1 σ
noncomputable def S_J2_charAt_3b067 (x : sL) : Option (sZ Int32) := if x.1 = 0 then U_J2_charAt_3b067_0 x.2.1 x.2.2 else none
def Y_J2_charAt_3b067 (pc : Nat) : List Nat := if pc = 0 then [0, 1] else []
noncomputable def F_J2_charAt_3b067 (v0 : Nat) (v1 : Int32) (σ : sS) : Option (Int32 × sS) := s_run S_J2_charAt_3b067 (0, [.ref v0, .int v1], σ)
theorem l_J2_charAt_3b067_0 {v0 : Nat} {v1 : Int32} {σ : sS} {z : sZ Int32} (hf : T_J2_charAt_3b067_0 v0 v1 σ = some z) : s_lz σ z := by
  unfold T_J2_charAt_3b067_0 at hf
  obtain ⟨q1, hh, hf⟩ := s_bind hf
  refine s_lz.tr (l_J2_checkIndex_2214a hh) ?_
  obtain ⟨q2, hh, hf⟩ := s_bind hf
  refine s_lz.tr (l_J2_getChar_3b067 hh) ?_
  rcases s_ite hf with ⟨-, hf⟩ | ⟨-, hf⟩
  · cases hf
    exact s_le.rf
  · cases hf
theorem l_J2_charAt_3b067_s {x : sL} {z : sZ Int32} (hs : S_J2_charAt_3b067 x = some z) : s_lz x.2.2 z := by
  obtain ⟨pc, vs, σ⟩ := x
  unfold S_J2_charAt_3b067 at hs
  dsimp only at hs ⊢
  rcases s_ite hs with ⟨c, hs⟩ | ⟨-, hs⟩
  · subst c
    unfold U_J2_charAt_3b067_0 at hs
    obtain ⟨a0, g0, hs⟩ := s_bind hs
    obtain ⟨a1, g1, hs⟩ := s_bind hs
    obtain ⟨u9, ge, hs⟩ := s_bind hs
    exact l_J2_charAt_3b067_0 hs
  cases hs
theorem l_J2_charAt_3b067 {v0 : Nat} {v1 : Int32} {σ : sS} {q : Int32 × sS} (h : F_J2_charAt_3b067 v0 v1 σ = some q) : s_le σ q.2 := by
  unfold F_J2_charAt_3b067 at h
  exact s_run_ind (V := fun x r => s_le x.2.2 r.2) (fun x z r hs hk => by
    have h9 := l_J2_charAt_3b067_s hs
    cases z with
    | inl y => exact s_le.tr h9 hk
    | inr q => cases hk; exact h9) h
set_option maxRecDepth 100000 in
set_option maxHeartbeats 4000000 in
theorem v_J2_charAt_3b067_0 {G : sG} {d : Nat} {vs0 : List Value} {σ0 : sS} {v0 : Nat} {v1 : Int32} {σ : sS} {z : sZ Int32} {r : Int32 × sS} (hf : T_J2_charAt_3b067_0 v0 v1 σ = some z) (k : s_K G (d + 4) M_J2_charAt_3b067 vs0 σ0 Y_J2_charAt_3b067 e_I z r) : s_V G (d + 4) M_J2_charAt_3b067 vs0 σ0 Y_J2_charAt_3b067 (0, [.ref v0, .int v1], σ) (e_I r) := by
  have le0 : s_le σ (e_I r).2 := s_lek hem_I (l_J2_charAt_3b067_0 hf) k
  refine ⟨le0, ?_⟩
  intro p e s m below meth c H locs cells slots ls X I hn1 hn2 hl
  have hn : cells + σ0.2.1 ≤ σ.2.1 ∧ slots + σ0.2.2.1 ≤ σ.2.2.1 := ⟨hn1, hn2⟩
  have hl : lv_has ls 2 [(0, .ref v0), (1, .int v1)] := hl
  have hx := X.1
  have hb : c.code = cJ2_charAt_3b067 := X.2.1
  have hown : s.vm.findClass RJ2 = some m.cls := X.2.2.2.2.2.1
  have hts := X.2.2.2.2.2.2.1
  refine W.eq (g2 := F0 m 0 ls []) rfl ?_
  unfold T_J2_charAt_3b067_0 at hf
  obtain ⟨q1, h1, hf⟩ := s_bind hf
  obtain ⟨q2, h2, hf⟩ := s_bind hf
  have le3 : s_le q2.2 (e_I r).2 := by
    refine s_lek hem_I ?_ k
    rcases s_ite hf with ⟨-, hf⟩ | ⟨-, hf⟩
    · cases hf
      exact s_le.rf
    · cases hf
  have le4 := s_le.tr (l_J2_getChar_3b067 h2) le3
  refine lv_iload_n hx hb dJ2_charAt_3b067_0 rfl (lv_at hl 1 rfl) ?_
  refine lv_aload_n hx hb dJ2_charAt_3b067_1 rfl (lv_at hl 0 rfl) ?_
  refine r_callS (Y := M_J2_checkIndex_2214a) (v := none) X I w_822 my_J2_checkIndex_2214a (by omega) (t_J2_checkIndex_2214a (G := G) (d := d + 0) h1) rfl rfl hl.1 rfl (Nat.le_of_ble_eq_true rfl) hn le4 dJ2_charAt_3b067_2 (fun H locs cells slots I hn1 hn2 => ?_)
  have I : s_I G q1.2 s H locs := I
  have hn : cells + σ0.2.1 ≤ q1.2.2.1 ∧ slots + σ0.2.2.1 ≤ q1.2.2.2.1 := ⟨hn1, hn2⟩
  refine lv_aload_n hx hb dJ2_charAt_3b067_5 rfl (lv_at hl 0 rfl) ?_
  refine lv_iload_n hx hb dJ2_charAt_3b067_6 rfl (lv_at hl 1 rfl) ?_
  refine r_callS (Y := M_J2_getChar_3b067) (v := some (.int q2.1)) X I w_829 my_J2_getChar_3b067 (by omega) (t_J2_getChar_3b067 (G := G) (d := d + 2) h2) rfl rfl hl.1 rfl (Nat.le_of_ble_eq_true rfl) hn le3 dJ2_charAt_3b067_7 (fun H locs cells slots I hn1 hn2 => ?_)
  have I : s_I G q2.2 s H locs := I
  have hn : cells + σ0.2.1 ≤ q2.2.2.1 ∧ slots + σ0.2.2.1 ≤ q2.2.2.2.1 := ⟨hn1, hn2⟩
  rcases s_ite hf with ⟨hchk, hf⟩ | ⟨-, hf⟩
  · cases hf
    have k : _ = r := k
    subst k
    exact r_iret X I rfl (s_ncn hchk) rfl hn dJ2_charAt_3b067_10
  · cases hf
theorem v_J2_charAt_3b067 {G : sG} {d : Nat} {vs0 : List Value} {σ0 : sS} {x : sL} {z : sZ Int32} {r : Int32 × sS} (hs : S_J2_charAt_3b067 x = some z) (k : s_K G (d + 4) M_J2_charAt_3b067 vs0 σ0 Y_J2_charAt_3b067 e_I z r) : s_V G (d + 4) M_J2_charAt_3b067 vs0 σ0 Y_J2_charAt_3b067 x (e_I r) := by
  obtain ⟨pc, vs, σ⟩ := x
  unfold S_J2_charAt_3b067 at hs
  dsimp only at hs
  rcases s_ite hs with ⟨c, hs⟩ | ⟨-, hs⟩
  · subst c
    unfold U_J2_charAt_3b067_0 at hs
    obtain ⟨a0, g0, hs⟩ := s_bind hs
    obtain ⟨a1, g1, hs⟩ := s_bind hs
    obtain ⟨u9, ge, hs⟩ := s_bind hs
    rw [g_r_to g0, g_i_to g1, g_e_to ge]
    exact v_J2_charAt_3b067_0 hs k
  cases hs
theorem t_J2_charAt_3b067 {G : sG} {d : Nat} {v0 : Nat} {v1 : Int32} {σ : sS} {q : Int32 × sS} (h : F_J2_charAt_3b067 v0 v1 σ = some q) : s_T G (d + 4) M_J2_charAt_3b067 [.ref v0, .int v1] σ (e_I q) := by
  unfold F_J2_charAt_3b067 at h
  exact s_ofV rfl (by decide) (Nat.le_of_ble_eq_true rfl) rfl rfl (s_run_ind (V := fun x r => s_V G (d + 4) M_J2_charAt_3b067 [.ref v0, .int v1] σ Y_J2_charAt_3b067 x (e_I r)) (fun x z r hs hk => v_J2_charAt_3b067 hs (by cases z <;> exact hk)) h)
/-! J0_charAt_5068e -/
noncomputable def T_J0_charAt_5068e_0 (v0 : Nat) (v1 : Int32) (σ : sS) : Option (sZ Int32) :=
  (F_J0_isLatin1_aae02 v0 σ).bind fun q1 =>
  if q1.1 = 0 then ((s_fr q1.2 v0 100 0).bind fun x2 =>
  (F_J2_charAt_3b067 x2 v1 q1.2).bind fun q3 =>
  if vp_nar .char q3.1 = q3.1 then (some (.inr (q3.1, q3.2))) else none)
  else ((s_fr q1.2 v0 100 0).bind fun x4 =>
  (F_J1_charAt_3b067 x4 v1 q1.2).bind fun q5 =>
  if vp_nar .char q5.1 = q5.1 then (some (.inr (q5.1, q5.2))) else none)
noncomputable def U_J0_charAt_5068e_0 (vs : List Value) (σ : sS) : Option (sZ Int32) := (g_r vs).bind fun a0 => (g_i a0.2).bind fun a1 => (g_e a1.2).bind fun _ => T_J0_charAt_5068e_0 a0.1 a1.1 σ
noncomputable def S_J0_charAt_5068e (x : sL) : Option (sZ Int32) := if x.1 = 0 then U_J0_charAt_5068e_0 x.2.1 x.2.2 else none
def Y_J0_charAt_5068e (pc : Nat) : List Nat := if pc = 0 then [0, 1] else []
noncomputable def F_J0_charAt_5068e (v0 : Nat) (v1 : Int32) (σ : sS) : Option (Int32 × sS) := (s_is σ v0 100).bind fun _ => s_run S_J0_charAt_5068e (0, [.ref v0, .int v1], σ)
theorem l_J0_charAt_5068e_0 {v0 : Nat} {v1 : Int32} {σ : sS} {z : sZ Int32} (hf : T_J0_charAt_5068e_0 v0 v1 σ = some z) : s_lz σ z := by
  unfold T_J0_charAt_5068e_0 at hf
  obtain ⟨q1, hh, hf⟩ := s_bind hf
  refine s_lz.tr (l_J0_isLatin1_aae02 hh) ?_
  rcases s_ite hf with ⟨-, hf⟩ | ⟨-, hf⟩
  · obtain ⟨x2, -, hf⟩ := s_bind hf
    obtain ⟨q3, hh, hf⟩ := s_bind hf
    refine s_lz.tr (l_J2_charAt_3b067 hh) ?_
    rcases s_ite hf with ⟨-, hf⟩ | ⟨-, hf⟩
    · cases hf
      exact s_le.rf
    · cases hf
  · obtain ⟨x4, -, hf⟩ := s_bind hf
    obtain ⟨q5, hh, hf⟩ := s_bind hf
    refine s_lz.tr (l_J1_charAt_3b067 hh) ?_
    rcases s_ite hf with ⟨-, hf⟩ | ⟨-, hf⟩
    · cases hf
      exact s_le.rf
    · cases hf
theorem l_J0_charAt_5068e_s {x : sL} {z : sZ Int32} (hs : S_J0_charAt_5068e x = some z) : s_lz x.2.2 z := by
  obtain ⟨pc, vs, σ⟩ := x
  unfold S_J0_charAt_5068e at hs
  dsimp only at hs ⊢
  rcases s_ite hs with ⟨c, hs⟩ | ⟨-, hs⟩
  · subst c
    unfold U_J0_charAt_5068e_0 at hs
    obtain ⟨a0, g0, hs⟩ := s_bind hs
    obtain ⟨a1, g1, hs⟩ := s_bind hs
    obtain ⟨u9, ge, hs⟩ := s_bind hs
    exact l_J0_charAt_5068e_0 hs
  cases hs
theorem l_J0_charAt_5068e {v0 : Nat} {v1 : Int32} {σ : sS} {q : Int32 × sS} (h : F_J0_charAt_5068e v0 v1 σ = some q) : s_le σ q.2 := by
  unfold F_J0_charAt_5068e at h
  obtain ⟨-, -, h⟩ := s_bind h
  exact s_run_ind (V := fun x r => s_le x.2.2 r.2) (fun x z r hs hk => by
    have h9 := l_J0_charAt_5068e_s hs
    cases z with
    | inl y => exact s_le.tr h9 hk
    | inr q => cases hk; exact h9) h
theorem b_J0_charAt_5068e {v0 : Nat} {v1 : Int32} {σ : sS} {q : Int32 × sS} (h : F_J0_charAt_5068e v0 v1 σ = some q) : ∃ fs, σ.1 v0 = some (.inr (100, fs)) := by
  unfold F_J0_charAt_5068e at h
  obtain ⟨u, hu, -⟩ := s_bind h
  exact s_is_to hu
set_option maxRecDepth 100000 in
set_option maxHeartbeats 4000000 in
theorem v_J0_charAt_5068e_0 {G : sG} {d : Nat} {vs0 : List Value} {σ0 : sS} {v0 : Nat} {v1 : Int32} {σ : sS} {z : sZ Int32} {r : Int32 × sS} (hf : T_J0_charAt_5068e_0 v0 v1 σ = some z) (k : s_K G (d + 5) M_J0_charAt_5068e vs0 σ0 Y_J0_charAt_5068e e_I z r) : s_V G (d + 5) M_J0_charAt_5068e vs0 σ0 Y_J0_charAt_5068e (0, [.ref v0, .int v1], σ) (e_I r) := by
  have le0 : s_le σ (e_I r).2 := s_lek hem_I (l_J0_charAt_5068e_0 hf) k
  refine ⟨le0, ?_⟩
  intro p e s m below meth c H locs cells slots ls X I hn1 hn2 hl
  have hn : cells + σ0.2.1 ≤ σ.2.1 ∧ slots + σ0.2.2.1 ≤ σ.2.2.1 := ⟨hn1, hn2⟩
  have hl : lv_has ls 2 [(0, .ref v0), (1, .int v1)] := hl
  have hx := X.1
  have hb : c.code = cJ0_charAt_5068e := X.2.1
  have hown : s.vm.findClass RJ0 = some m.cls := X.2.2.2.2.2.1
  have hts := X.2.2.2.2.2.2.1
  refine W.eq (g2 := F0 m 0 ls []) rfl ?_
  unfold T_J0_charAt_5068e_0 at hf
  obtain ⟨q1, h1, hf⟩ := s_bind hf
  have le2 : s_le q1.2 (e_I r).2 := by
    refine s_lek hem_I ?_ k
    rcases s_ite hf with ⟨-, hf⟩ | ⟨-, hf⟩
    · obtain ⟨x2, -, hf⟩ := s_bind hf
      obtain ⟨q3, hh, hf⟩ := s_bind hf
      refine s_lz.tr (l_J2_charAt_3b067 hh) ?_
      rcases s_ite hf with ⟨-, hf⟩ | ⟨-, hf⟩
      · cases hf
        exact s_le.rf
      · cases hf
    · obtain ⟨x4, -, hf⟩ := s_bind hf
      obtain ⟨q5, hh, hf⟩ := s_bind hf
      refine s_lz.tr (l_J1_charAt_3b067 hh) ?_
      rcases s_ite hf with ⟨-, hf⟩ | ⟨-, hf⟩
      · cases hf
        exact s_le.rf
      · cases hf
  refine lv_aload_n hx hb dJ0_charAt_5068e_0 rfl (lv_at hl 0 rfl) ?_
  refine r_callVs (Y := M_J0_isLatin1_aae02) (v := some (.int q1.1)) X I w_804 my_J0_isLatin1_aae02 (by omega) (t_J0_isLatin1_aae02 (G := G) (d := d + 3) h1) (b_J0_isLatin1_aae02 h1) rfl rfl hl.1 rfl (Nat.le_of_ble_eq_true rfl) hn le2 dJ0_charAt_5068e_1 (fun H locs cells slots I hn1 hn2 => ?_)
  have I : s_I G q1.2 s H locs := I
  have hn : cells + σ0.2.1 ≤ q1.2.2.1 ∧ slots + σ0.2.2.1 ≤ q1.2.2.2.1 := ⟨hn1, hn2⟩
  rcases s_ite hf with ⟨c3, hf⟩ | ⟨c3, hf⟩
  · refine lv_if_eq (tgt := 16) hx hb dJ0_charAt_5068e_4 (by decide) (fun _ => ?_) (fun n => absurd c3 n)
    obtain ⟨x2, h4, hf⟩ := s_bind hf
    obtain ⟨q3, h5, hf⟩ := s_bind hf
    have le6 : s_le q3.2 (e_I r).2 := by
      refine s_lek hem_I ?_ k
      rcases s_ite hf with ⟨-, hf⟩ | ⟨-, hf⟩
      · cases hf
        exact s_le.rf
      · cases hf
    refine lv_aload_n hx hb dJ0_charAt_5068e_16 rfl (lv_at hl 0 rfl) ?_
    refine r_gsv X I w_2364 h4 dJ0_charAt_5068e_17 ?_
    refine lv_iload_n hx hb dJ0_charAt_5068e_20 rfl (lv_at hl 1 rfl) ?_
    refine r_callS (Y := M_J2_charAt_3b067) (v := some (.int q3.1)) X I w_819 my_J2_charAt_3b067 (by omega) (t_J2_charAt_3b067 (G := G) (d := d + 0) h5) rfl rfl hl.1 rfl (Nat.le_of_ble_eq_true rfl) hn le6 dJ0_charAt_5068e_21 (fun H locs cells slots I hn1 hn2 => ?_)
    have I : s_I G q3.2 s H locs := I
    have hn : cells + σ0.2.1 ≤ q3.2.2.1 ∧ slots + σ0.2.2.1 ≤ q3.2.2.2.1 := ⟨hn1, hn2⟩
    rcases s_ite hf with ⟨hchk, hf⟩ | ⟨-, hf⟩
    · cases hf
      have k : _ = r := k
      subst k
      exact r_iret X I rfl (s_ncn hchk) rfl hn dJ0_charAt_5068e_24
    · cases hf
  · refine lv_if_eq (tgt := 16) hx hb dJ0_charAt_5068e_4 (by decide) (fun n => absurd n c3) (fun _ => ?_)
    obtain ⟨x4, h7, hf⟩ := s_bind hf
    obtain ⟨q5, h8, hf⟩ := s_bind hf
    have le9 : s_le q5.2 (e_I r).2 := by
      refine s_lek hem_I ?_ k
      rcases s_ite hf with ⟨-, hf⟩ | ⟨-, hf⟩
      · cases hf
        exact s_le.rf
      · cases hf
    refine lv_aload_n hx hb dJ0_charAt_5068e_7 rfl (lv_at hl 0 rfl) ?_
    refine r_gsv X I w_2364 h7 dJ0_charAt_5068e_8 ?_
    refine lv_iload_n hx hb dJ0_charAt_5068e_11 rfl (lv_at hl 1 rfl) ?_
    refine r_callS (Y := M_J1_charAt_3b067) (v := some (.int q5.1)) X I w_808 my_J1_charAt_3b067 (by omega) (t_J1_charAt_3b067 (G := G) (d := d + 1) h8) rfl rfl hl.1 rfl (Nat.le_of_ble_eq_true rfl) hn le9 dJ0_charAt_5068e_12 (fun H locs cells slots I hn1 hn2 => ?_)
    have I : s_I G q5.2 s H locs := I
    have hn : cells + σ0.2.1 ≤ q5.2.2.1 ∧ slots + σ0.2.2.1 ≤ q5.2.2.2.1 := ⟨hn1, hn2⟩
    rcases s_ite hf with ⟨hchk, hf⟩ | ⟨-, hf⟩
    · cases hf
      have k : _ = r := k
      subst k
      exact r_iret X I rfl (s_ncn hchk) rfl hn dJ0_charAt_5068e_15
    · cases hf
theorem v_J0_charAt_5068e {G : sG} {d : Nat} {vs0 : List Value} {σ0 : sS} {x : sL} {z : sZ Int32} {r : Int32 × sS} (hs : S_J0_charAt_5068e x = some z) (k : s_K G (d + 5) M_J0_charAt_5068e vs0 σ0 Y_J0_charAt_5068e e_I z r) : s_V G (d + 5) M_J0_charAt_5068e vs0 σ0 Y_J0_charAt_5068e x (e_I r) := by
  obtain ⟨pc, vs, σ⟩ := x
  unfold S_J0_charAt_5068e at hs
  dsimp only at hs
  rcases s_ite hs with ⟨c, hs⟩ | ⟨-, hs⟩
  · subst c
    unfold U_J0_charAt_5068e_0 at hs
    obtain ⟨a0, g0, hs⟩ := s_bind hs
    obtain ⟨a1, g1, hs⟩ := s_bind hs
    obtain ⟨u9, ge, hs⟩ := s_bind hs
    rw [g_r_to g0, g_i_to g1, g_e_to ge]
    exact v_J0_charAt_5068e_0 hs k
  cases hs
theorem t_J0_charAt_5068e {G : sG} {d : Nat} {v0 : Nat} {v1 : Int32} {σ : sS} {q : Int32 × sS} (h : F_J0_charAt_5068e v0 v1 σ = some q) : s_T G (d + 5) M_J0_charAt_5068e [.ref v0, .int v1] σ (e_I q) := by
  unfold F_J0_charAt_5068e at h
  obtain ⟨-, -, h⟩ := s_bind h
  exact s_ofV rfl (by decide) (Nat.le_of_ble_eq_true rfl) rfl rfl (s_run_ind (V := fun x r => s_V G (d + 5) M_J0_charAt_5068e [.ref v0, .int v1] σ Y_J0_charAt_5068e x (e_I r)) (fun x z r hs hk => v_J0_charAt_5068e hs (by cases z <;> exact hk)) h)
/-! J0_coder_7d493 -/
noncomputable def T_J0_coder_7d493_0 (v0 : Nat) (σ : sS) : Option (sZ Int32) :=
  if (1 : Int32) = 0 then (if vp_nar .byte 1 = 1 then (some (.inr (1, σ))) else none)
  else ((s_fi σ v0 100 1).bind fun x1 =>
  if vp_nar .byte x1 = x1 then (some (.inr (x1, σ))) else none)
noncomputable def U_J0_coder_7d493_0 (vs : List Value) (σ : sS) : Option (sZ Int32) := (g_r vs).bind fun a0 => (g_e a0.2).bind fun _ => T_J0_coder_7d493_0 a0.1 σ
noncomputable def S_J0_coder_7d493 (x : sL) : Option (sZ Int32) := if x.1 = 0 then U_J0_coder_7d493_0 x.2.1 x.2.2 else none
def Y_J0_coder_7d493 (pc : Nat) : List Nat := if pc = 0 then [0] else []
noncomputable def F_J0_coder_7d493 (v0 : Nat) (σ : sS) : Option (Int32 × sS) := (s_is σ v0 100).bind fun _ => s_run S_J0_coder_7d493 (0, [.ref v0], σ)
theorem l_J0_coder_7d493_0 {v0 : Nat} {σ : sS} {z : sZ Int32} (hf : T_J0_coder_7d493_0 v0 σ = some z) : s_lz σ z := by
  unfold T_J0_coder_7d493_0 at hf
  rcases s_ite hf with ⟨-, hf⟩ | ⟨-, hf⟩
  · rcases s_ite hf with ⟨-, hf⟩ | ⟨-, hf⟩
    · cases hf
      exact s_le.rf
    · cases hf
  · obtain ⟨x1, -, hf⟩ := s_bind hf
    rcases s_ite hf with ⟨-, hf⟩ | ⟨-, hf⟩
    · cases hf
      exact s_le.rf
    · cases hf
theorem l_J0_coder_7d493_s {x : sL} {z : sZ Int32} (hs : S_J0_coder_7d493 x = some z) : s_lz x.2.2 z := by
  obtain ⟨pc, vs, σ⟩ := x
  unfold S_J0_coder_7d493 at hs
  dsimp only at hs ⊢
  rcases s_ite hs with ⟨c, hs⟩ | ⟨-, hs⟩
  · subst c
    unfold U_J0_coder_7d493_0 at hs
    obtain ⟨a0, g0, hs⟩ := s_bind hs
    obtain ⟨u9, ge, hs⟩ := s_bind hs
    exact l_J0_coder_7d493_0 hs
  cases hs
theorem l_J0_coder_7d493 {v0 : Nat} {σ : sS} {q : Int32 × sS} (h : F_J0_coder_7d493 v0 σ = some q) : s_le σ q.2 := by
  unfold F_J0_coder_7d493 at h
  obtain ⟨-, -, h⟩ := s_bind h
  exact s_run_ind (V := fun x r => s_le x.2.2 r.2) (fun x z r hs hk => by
    have h9 := l_J0_coder_7d493_s hs
    cases z with
    | inl y => exact s_le.tr h9 hk
    | inr q => cases hk; exact h9) h
theorem b_J0_coder_7d493 {v0 : Nat} {σ : sS} {q : Int32 × sS} (h : F_J0_coder_7d493 v0 σ = some q) : ∃ fs, σ.1 v0 = some (.inr (100, fs)) := by
  unfold F_J0_coder_7d493 at h
  obtain ⟨u, hu, -⟩ := s_bind h
  exact s_is_to hu
set_option maxRecDepth 100000 in
set_option maxHeartbeats 4000000 in
theorem v_J0_coder_7d493_0 {G : sG} {d : Nat} {vs0 : List Value} {σ0 : sS} {v0 : Nat} {σ : sS} {z : sZ Int32} {r : Int32 × sS} (hf : T_J0_coder_7d493_0 v0 σ = some z) (k : s_K G (d + 1) M_J0_coder_7d493 vs0 σ0 Y_J0_coder_7d493 e_I z r) : s_V G (d + 1) M_J0_coder_7d493 vs0 σ0 Y_J0_coder_7d493 (0, [.ref v0], σ) (e_I r) := by
  have le0 : s_le σ (e_I r).2 := s_lek hem_I (l_J0_coder_7d493_0 hf) k
  refine ⟨le0, ?_⟩
  intro p e s m below meth c H locs cells slots ls X I hn1 hn2 hl
  have hn : cells + σ0.2.1 ≤ σ.2.1 ∧ slots + σ0.2.2.1 ≤ σ.2.2.1 := ⟨hn1, hn2⟩
  have hl : lv_has ls 1 [(0, .ref v0)] := hl
  have hx := X.1
  have hb : c.code = cJ0_coder_7d493 := X.2.1
  have hown : s.vm.findClass RJ0 = some m.cls := X.2.2.2.2.2.1
  have hts := X.2.2.2.2.2.2.1
  refine W.eq (g2 := F0 m 0 ls []) rfl ?_
  unfold T_J0_coder_7d493_0 at hf
  refine r_gets X I.1.2.2.2.2.2.1.2.2.2.2.1 w_798 dJ0_coder_7d493_0 ?_
  rcases s_ite hf with ⟨c1, hf⟩ | ⟨c1, hf⟩
  · refine lv_if_eq (tgt := 13) hx hb dJ0_coder_7d493_3 (by decide) (fun _ => ?_) (fun n => absurd c1 n)
    refine lv_iconst (v := 1) hx hb dJ0_coder_7d493_13 (by decide) ?_
    rcases s_ite hf with ⟨hchk, hf⟩ | ⟨-, hf⟩
    · cases hf
      have k : _ = r := k
      subst k
      exact r_iret X I rfl (s_nby hchk) rfl hn dJ0_coder_7d493_14
    · cases hf
  · refine lv_if_eq (tgt := 13) hx hb dJ0_coder_7d493_3 (by decide) (fun n => absurd n c1) (fun _ => ?_)
    obtain ⟨x1, h2, hf⟩ := s_bind hf
    refine lv_aload_n hx hb dJ0_coder_7d493_6 rfl (lv_at hl 0 rfl) ?_
    refine r_gsc X I w_2365 h2 dJ0_coder_7d493_7 ?_
    refine lv_goto (tgt := 14) hx hb dJ0_coder_7d493_10 (by decide) ?_
    rcases s_ite hf with ⟨hchk, hf⟩ | ⟨-, hf⟩
    · cases hf
      have k : _ = r := k
      subst k
      exact r_iret X I rfl (s_nby hchk) rfl hn dJ0_coder_7d493_14
    · cases hf
theorem v_J0_coder_7d493 {G : sG} {d : Nat} {vs0 : List Value} {σ0 : sS} {x : sL} {z : sZ Int32} {r : Int32 × sS} (hs : S_J0_coder_7d493 x = some z) (k : s_K G (d + 1) M_J0_coder_7d493 vs0 σ0 Y_J0_coder_7d493 e_I z r) : s_V G (d + 1) M_J0_coder_7d493 vs0 σ0 Y_J0_coder_7d493 x (e_I r) := by
  obtain ⟨pc, vs, σ⟩ := x
  unfold S_J0_coder_7d493 at hs
  dsimp only at hs
  rcases s_ite hs with ⟨c, hs⟩ | ⟨-, hs⟩
  · subst c
    unfold U_J0_coder_7d493_0 at hs
    obtain ⟨a0, g0, hs⟩ := s_bind hs
    obtain ⟨u9, ge, hs⟩ := s_bind hs
    rw [g_r_to g0, g_e_to ge]
    exact v_J0_coder_7d493_0 hs k
  cases hs
theorem t_J0_coder_7d493 {G : sG} {d : Nat} {v0 : Nat} {σ : sS} {q : Int32 × sS} (h : F_J0_coder_7d493 v0 σ = some q) : s_T G (d + 1) M_J0_coder_7d493 [.ref v0] σ (e_I q) := by
  unfold F_J0_coder_7d493 at h
  obtain ⟨-, -, h⟩ := s_bind h
  exact s_ofV rfl (by decide) (Nat.le_of_ble_eq_true rfl) rfl rfl (s_run_ind (V := fun x r => s_V G (d + 1) M_J0_coder_7d493 [.ref v0] σ Y_J0_coder_7d493 x (e_I r)) (fun x z r hs hk => v_J0_coder_7d493 hs (by cases z <;> exact hk)) h)
/-! J0_length_8abf5 -/
noncomputable def T_J0_length_8abf5_0 (v0 : Nat) (σ : sS) : Option (sZ Int32) :=
  (s_fr σ v0 100 0).bind fun x1 =>
  (s_len σ x1).bind fun x2 =>
  (F_J0_coder_7d493 v0 σ).bind fun q3 =>
  some (.inr ((x2 >>> (q3.1 &&& 31)), q3.2))
noncomputable def U_J0_length_8abf5_0 (vs : List Value) (σ : sS) : Option (sZ Int32) := (g_r vs).bind fun a0 => (g_e a0.2).bind fun _ => T_J0_length_8abf5_0 a0.1 σ
noncomputable def S_J0_length_8abf5 (x : sL) : Option (sZ Int32) := if x.1 = 0 then U_J0_length_8abf5_0 x.2.1 x.2.2 else none
def Y_J0_length_8abf5 (pc : Nat) : List Nat := if pc = 0 then [0] else []
noncomputable def F_J0_length_8abf5 (v0 : Nat) (σ : sS) : Option (Int32 × sS) := (s_is σ v0 100).bind fun _ => s_run S_J0_length_8abf5 (0, [.ref v0], σ)
theorem l_J0_length_8abf5_0 {v0 : Nat} {σ : sS} {z : sZ Int32} (hf : T_J0_length_8abf5_0 v0 σ = some z) : s_lz σ z := by
  unfold T_J0_length_8abf5_0 at hf
  obtain ⟨x1, -, hf⟩ := s_bind hf
  obtain ⟨x2, -, hf⟩ := s_bind hf
  obtain ⟨q3, hh, hf⟩ := s_bind hf
  refine s_lz.tr (l_J0_coder_7d493 hh) ?_
  cases hf
  exact s_le.rf
theorem l_J0_length_8abf5_s {x : sL} {z : sZ Int32} (hs : S_J0_length_8abf5 x = some z) : s_lz x.2.2 z := by
  obtain ⟨pc, vs, σ⟩ := x
  unfold S_J0_length_8abf5 at hs
  dsimp only at hs ⊢
  rcases s_ite hs with ⟨c, hs⟩ | ⟨-, hs⟩
  · subst c
    unfold U_J0_length_8abf5_0 at hs
    obtain ⟨a0, g0, hs⟩ := s_bind hs
    obtain ⟨u9, ge, hs⟩ := s_bind hs
    exact l_J0_length_8abf5_0 hs
  cases hs
theorem l_J0_length_8abf5 {v0 : Nat} {σ : sS} {q : Int32 × sS} (h : F_J0_length_8abf5 v0 σ = some q) : s_le σ q.2 := by
  unfold F_J0_length_8abf5 at h
  obtain ⟨-, -, h⟩ := s_bind h
  exact s_run_ind (V := fun x r => s_le x.2.2 r.2) (fun x z r hs hk => by
    have h9 := l_J0_length_8abf5_s hs
    cases z with
    | inl y => exact s_le.tr h9 hk
    | inr q => cases hk; exact h9) h
theorem b_J0_length_8abf5 {v0 : Nat} {σ : sS} {q : Int32 × sS} (h : F_J0_length_8abf5 v0 σ = some q) : ∃ fs, σ.1 v0 = some (.inr (100, fs)) := by
  unfold F_J0_length_8abf5 at h
  obtain ⟨u, hu, -⟩ := s_bind h
  exact s_is_to hu
set_option maxRecDepth 100000 in
set_option maxHeartbeats 4000000 in
theorem v_J0_length_8abf5_0 {G : sG} {d : Nat} {vs0 : List Value} {σ0 : sS} {v0 : Nat} {σ : sS} {z : sZ Int32} {r : Int32 × sS} (hf : T_J0_length_8abf5_0 v0 σ = some z) (k : s_K G (d + 2) M_J0_length_8abf5 vs0 σ0 Y_J0_length_8abf5 e_I z r) : s_V G (d + 2) M_J0_length_8abf5 vs0 σ0 Y_J0_length_8abf5 (0, [.ref v0], σ) (e_I r) := by
  have le0 : s_le σ (e_I r).2 := s_lek hem_I (l_J0_length_8abf5_0 hf) k
  refine ⟨le0, ?_⟩
  intro p e s m below meth c H locs cells slots ls X I hn1 hn2 hl
  have hn : cells + σ0.2.1 ≤ σ.2.1 ∧ slots + σ0.2.2.1 ≤ σ.2.2.1 := ⟨hn1, hn2⟩
  have hl : lv_has ls 1 [(0, .ref v0)] := hl
  have hx := X.1
  have hb : c.code = cJ0_length_8abf5 := X.2.1
  have hown : s.vm.findClass RJ0 = some m.cls := X.2.2.2.2.2.1
  have hts := X.2.2.2.2.2.2.1
  refine W.eq (g2 := F0 m 0 ls []) rfl ?_
  unfold T_J0_length_8abf5_0 at hf
  obtain ⟨x1, h1, hf⟩ := s_bind hf
  obtain ⟨x2, h2, hf⟩ := s_bind hf
  obtain ⟨q3, h3, hf⟩ := s_bind hf
  cases hf
  have k : _ = r := k
  subst k
  have le4 : s_le q3.2 q3.2 := s_le.rf
  refine lv_aload_n hx hb dJ0_length_8abf5_0 rfl (lv_at hl 0 rfl) ?_
  refine r_gsv X I w_2364 h1 dJ0_length_8abf5_1 ?_
  refine r_alen X I h2 dJ0_length_8abf5_4 ?_
  refine lv_aload_n hx hb dJ0_length_8abf5_5 rfl (lv_at hl 0 rfl) ?_
  refine r_callVs (Y := M_J0_coder_7d493) (v := some (.int q3.1)) X I w_794 my_J0_coder_7d493 (by omega) (t_J0_coder_7d493 (G := G) (d := d + 0) h3) (b_J0_coder_7d493 h3) rfl rfl hl.1 rfl (Nat.le_of_ble_eq_true rfl) hn le4 dJ0_length_8abf5_6 (fun H locs cells slots I hn1 hn2 => ?_)
  have I : s_I G q3.2 s H locs := I
  have hn : cells + σ0.2.1 ≤ q3.2.2.1 ∧ slots + σ0.2.2.1 ≤ q3.2.2.2.1 := ⟨hn1, hn2⟩
  refine lv_ishr hx hb dJ0_length_8abf5_9 ?_
  exact r_iret X I rfl rfl rfl hn dJ0_length_8abf5_10
theorem v_J0_length_8abf5 {G : sG} {d : Nat} {vs0 : List Value} {σ0 : sS} {x : sL} {z : sZ Int32} {r : Int32 × sS} (hs : S_J0_length_8abf5 x = some z) (k : s_K G (d + 2) M_J0_length_8abf5 vs0 σ0 Y_J0_length_8abf5 e_I z r) : s_V G (d + 2) M_J0_length_8abf5 vs0 σ0 Y_J0_length_8abf5 x (e_I r) := by
  obtain ⟨pc, vs, σ⟩ := x
  unfold S_J0_length_8abf5 at hs
  dsimp only at hs
  rcases s_ite hs with ⟨c, hs⟩ | ⟨-, hs⟩
  · subst c
    unfold U_J0_length_8abf5_0 at hs
    obtain ⟨a0, g0, hs⟩ := s_bind hs
    obtain ⟨u9, ge, hs⟩ := s_bind hs
    rw [g_r_to g0, g_e_to ge]
    exact v_J0_length_8abf5_0 hs k
  cases hs
theorem t_J0_length_8abf5 {G : sG} {d : Nat} {v0 : Nat} {σ : sS} {q : Int32 × sS} (h : F_J0_length_8abf5 v0 σ = some q) : s_T G (d + 2) M_J0_length_8abf5 [.ref v0] σ (e_I q) := by
  unfold F_J0_length_8abf5 at h
  obtain ⟨-, -, h⟩ := s_bind h
  exact s_ofV rfl (by decide) (Nat.le_of_ble_eq_true rfl) rfl rfl (s_run_ind (V := fun x r => s_V G (d + 2) M_J0_length_8abf5 [.ref v0] σ Y_J0_length_8abf5 x (e_I r)) (fun x z r hs hk => v_J0_length_8abf5 hs (by cases z <;> exact hk)) h)
/-! J13_bitCount_95d88 -/
noncomputable def T_J13_bitCount_95d88_0 (v0 : Int64) (σ : sS) : Option (sZ Int32) :=
  some (.inr ((((((((((((v0 - (((v0 : Int64).toUInt64 >>> ((1 : Int32).toInt64.toUInt64 &&& Int64.toUInt64 63)).toInt64 &&& 6148914691236517205)) &&& 3689348814741910323) + ((((v0 - (((v0 : Int64).toUInt64 >>> ((1 : Int32).toInt64.toUInt64 &&& Int64.toUInt64 63)).toInt64 &&& 6148914691236517205)) : Int64).toUInt64 >>> ((2 : Int32).toInt64.toUInt64 &&& Int64.toUInt64 63)).toInt64 &&& 3689348814741910323)) + (((((v0 - (((v0 : Int64).toUInt64 >>> ((1 : Int32).toInt64.toUInt64 &&& Int64.toUInt64 63)).toInt64 &&& 6148914691236517205)) &&& 3689348814741910323) + ((((v0 - (((v0 : Int64).toUInt64 >>> ((1 : Int32).toInt64.toUInt64 &&& Int64.toUInt64 63)).toInt64 &&& 6148914691236517205)) : Int64).toUInt64 >>> ((2 : Int32).toInt64.toUInt64 &&& Int64.toUInt64 63)).toInt64 &&& 3689348814741910323)) : Int64).toUInt64 >>> ((4 : Int32).toInt64.toUInt64 &&& Int64.toUInt64 63)).toInt64) &&& 1085102592571150095) + (((((((v0 - (((v0 : Int64).toUInt64 >>> ((1 : Int32).toInt64.toUInt64 &&& Int64.toUInt64 63)).toInt64 &&& 6148914691236517205)) &&& 3689348814741910323) + ((((v0 - (((v0 : Int64).toUInt64 >>> ((1 : Int32).toInt64.toUInt64 &&& Int64.toUInt64 63)).toInt64 &&& 6148914691236517205)) : Int64).toUInt64 >>> ((2 : Int32).toInt64.toUInt64 &&& Int64.toUInt64 63)).toInt64 &&& 3689348814741910323)) + (((((v0 - (((v0 : Int64).toUInt64 >>> ((1 : Int32).toInt64.toUInt64 &&& Int64.toUInt64 63)).toInt64 &&& 6148914691236517205)) &&& 3689348814741910323) + ((((v0 - (((v0 : Int64).toUInt64 >>> ((1 : Int32).toInt64.toUInt64 &&& Int64.toUInt64 63)).toInt64 &&& 6148914691236517205)) : Int64).toUInt64 >>> ((2 : Int32).toInt64.toUInt64 &&& Int64.toUInt64 63)).toInt64 &&& 3689348814741910323)) : Int64).toUInt64 >>> ((4 : Int32).toInt64.toUInt64 &&& Int64.toUInt64 63)).toInt64) &&& 1085102592571150095) : Int64).toUInt64 >>> ((8 : Int32).toInt64.toUInt64 &&& Int64.toUInt64 63)).toInt64) + ((((((((v0 - (((v0 : Int64).toUInt64 >>> ((1 : Int32).toInt64.toUInt64 &&& Int64.toUInt64 63)).toInt64 &&& 6148914691236517205)) &&& 3689348814741910323) + ((((v0 - (((v0 : Int64).toUInt64 >>> ((1 : Int32).toInt64.toUInt64 &&& Int64.toUInt64 63)).toInt64 &&& 6148914691236517205)) : Int64).toUInt64 >>> ((2 : Int32).toInt64.toUInt64 &&& Int64.toUInt64 63)).toInt64 &&& 3689348814741910323)) + (((((v0 - (((v0 : Int64).toUInt64 >>> ((1 : Int32).toInt64.toUInt64 &&& Int64.toUInt64 63)).toInt64 &&& 6148914691236517205)) &&& 3689348814741910323) + ((((v0 - (((v0 : Int64).toUInt64 >>> ((1 : Int32).toInt64.toUInt64 &&& Int64.toUInt64 63)).toInt64 &&& 6148914691236517205)) : Int64).toUInt64 >>> ((2 : Int32).toInt64.toUInt64 &&& Int64.toUInt64 63)).toInt64 &&& 3689348814741910323)) : Int64).toUInt64 >>> ((4 : Int32).toInt64.toUInt64 &&& Int64.toUInt64 63)).toInt64) &&& 1085102592571150095) + (((((((v0 - (((v0 : Int64).toUInt64 >>> ((1 : Int32).toInt64.toUInt64 &&& Int64.toUInt64 63)).toInt64 &&& 6148914691236517205)) &&& 3689348814741910323) + ((((v0 - (((v0 : Int64).toUInt64 >>> ((1 : Int32).toInt64.toUInt64 &&& Int64.toUInt64 63)).toInt64 &&& 6148914691236517205)) : Int64).toUInt64 >>> ((2 : Int32).toInt64.toUInt64 &&& Int64.toUInt64 63)).toInt64 &&& 3689348814741910323)) + (((((v0 - (((v0 : Int64).toUInt64 >>> ((1 : Int32).toInt64.toUInt64 &&& Int64.toUInt64 63)).toInt64 &&& 6148914691236517205)) &&& 3689348814741910323) + ((((v0 - (((v0 : Int64).toUInt64 >>> ((1 : Int32).toInt64.toUInt64 &&& Int64.toUInt64 63)).toInt64 &&& 6148914691236517205)) : Int64).toUInt64 >>> ((2 : Int32).toInt64.toUInt64 &&& Int64.toUInt64 63)).toInt64 &&& 3689348814741910323)) : Int64).toUInt64 >>> ((4 : Int32).toInt64.toUInt64 &&& Int64.toUInt64 63)).toInt64) &&& 1085102592571150095) : Int64).toUInt64 >>> ((8 : Int32).toInt64.toUInt64 &&& Int64.toUInt64 63)).toInt64) : Int64).toUInt64 >>> ((16 : Int32).toInt64.toUInt64 &&& Int64.toUInt64 63)).toInt64) + (((((((((v0 - (((v0 : Int64).toUInt64 >>> ((1 : Int32).toInt64.toUInt64 &&& Int64.toUInt64 63)).toInt64 &&& 6148914691236517205)) &&& 3689348814741910323) + ((((v0 - (((v0 : Int64).toUInt64 >>> ((1 : Int32).toInt64.toUInt64 &&& Int64.toUInt64 63)).toInt64 &&& 6148914691236517205)) : Int64).toUInt64 >>> ((2 : Int32).toInt64.toUInt64 &&& Int64.toUInt64 63)).toInt64 &&& 3689348814741910323)) + (((((v0 - (((v0 : Int64).toUInt64 >>> ((1 : Int32).toInt64.toUInt64 &&& Int64.toUInt64 63)).toInt64 &&& 6148914691236517205)) &&& 3689348814741910323) + ((((v0 - (((v0 : Int64).toUInt64 >>> ((1 : Int32).toInt64.toUInt64 &&& Int64.toUInt64 63)).toInt64 &&& 6148914691236517205)) : Int64).toUInt64 >>> ((2 : Int32).toInt64.toUInt64 &&& Int64.toUInt64 63)).toInt64 &&& 3689348814741910323)) : Int64).toUInt64 >>> ((4 : Int32).toInt64.toUInt64 &&& Int64.toUInt64 63)).toInt64) &&& 1085102592571150095) + (((((((v0 - (((v0 : Int64).toUInt64 >>> ((1 : Int32).toInt64.toUInt64 &&& Int64.toUInt64 63)).toInt64 &&& 6148914691236517205)) &&& 3689348814741910323) + ((((v0 - (((v0 : Int64).toUInt64 >>> ((1 : Int32).toInt64.toUInt64 &&& Int64.toUInt64 63)).toInt64 &&& 6148914691236517205)) : Int64).toUInt64 >>> ((2 : Int32).toInt64.toUInt64 &&& Int64.toUInt64 63)).toInt64 &&& 3689348814741910323)) + (((((v0 - (((v0 : Int64).toUInt64 >>> ((1 : Int32).toInt64.toUInt64 &&& Int64.toUInt64 63)).toInt64 &&& 6148914691236517205)) &&& 3689348814741910323) + ((((v0 - (((v0 : Int64).toUInt64 >>> ((1 : Int32).toInt64.toUInt64 &&& Int64.toUInt64 63)).toInt64 &&& 6148914691236517205)) : Int64).toUInt64 >>> ((2 : Int32).toInt64.toUInt64 &&& Int64.toUInt64 63)).toInt64 &&& 3689348814741910323)) : Int64).toUInt64 >>> ((4 : Int32).toInt64.toUInt64 &&& Int64.toUInt64 63)).toInt64) &&& 1085102592571150095) : Int64).toUInt64 >>> ((8 : Int32).toInt64.toUInt64 &&& Int64.toUInt64 63)).toInt64) + ((((((((v0 - (((v0 : Int64).toUInt64 >>> ((1 : Int32).toInt64.toUInt64 &&& Int64.toUInt64 63)).toInt64 &&& 6148914691236517205)) &&& 3689348814741910323) + ((((v0 - (((v0 : Int64).toUInt64 >>> ((1 : Int32).toInt64.toUInt64 &&& Int64.toUInt64 63)).toInt64 &&& 6148914691236517205)) : Int64).toUInt64 >>> ((2 : Int32).toInt64.toUInt64 &&& Int64.toUInt64 63)).toInt64 &&& 3689348814741910323)) + (((((v0 - (((v0 : Int64).toUInt64 >>> ((1 : Int32).toInt64.toUInt64 &&& Int64.toUInt64 63)).toInt64 &&& 6148914691236517205)) &&& 3689348814741910323) + ((((v0 - (((v0 : Int64).toUInt64 >>> ((1 : Int32).toInt64.toUInt64 &&& Int64.toUInt64 63)).toInt64 &&& 6148914691236517205)) : Int64).toUInt64 >>> ((2 : Int32).toInt64.toUInt64 &&& Int64.toUInt64 63)).toInt64 &&& 3689348814741910323)) : Int64).toUInt64 >>> ((4 : Int32).toInt64.toUInt64 &&& Int64.toUInt64 63)).toInt64) &&& 1085102592571150095) + (((((((v0 - (((v0 : Int64).toUInt64 >>> ((1 : Int32).toInt64.toUInt64 &&& Int64.toUInt64 63)).toInt64 &&& 6148914691236517205)) &&& 3689348814741910323) + ((((v0 - (((v0 : Int64).toUInt64 >>> ((1 : Int32).toInt64.toUInt64 &&& Int64.toUInt64 63)).toInt64 &&& 6148914691236517205)) : Int64).toUInt64 >>> ((2 : Int32).toInt64.toUInt64 &&& Int64.toUInt64 63)).toInt64 &&& 3689348814741910323)) + (((((v0 - (((v0 : Int64).toUInt64 >>> ((1 : Int32).toInt64.toUInt64 &&& Int64.toUInt64 63)).toInt64 &&& 6148914691236517205)) &&& 3689348814741910323) + ((((v0 - (((v0 : Int64).toUInt64 >>> ((1 : Int32).toInt64.toUInt64 &&& Int64.toUInt64 63)).toInt64 &&& 6148914691236517205)) : Int64).toUInt64 >>> ((2 : Int32).toInt64.toUInt64 &&& Int64.toUInt64 63)).toInt64 &&& 3689348814741910323)) : Int64).toUInt64 >>> ((4 : Int32).toInt64.toUInt64 &&& Int64.toUInt64 63)).toInt64) &&& 1085102592571150095) : Int64).toUInt64 >>> ((8 : Int32).toInt64.toUInt64 &&& Int64.toUInt64 63)).toInt64) : Int64).toUInt64 >>> ((16 : Int32).toInt64.toUInt64 &&& Int64.toUInt64 63)).toInt64) : Int64).toUInt64 >>> ((32 : Int32).toInt64.toUInt64 &&& Int64.toUInt64 63)).toInt64) : Int64).toInt32) &&& 127), σ))
noncomputable def U_J13_bitCount_95d88_0 (vs : List Value) (σ : sS) : Option (sZ Int32) := (g_l vs).bind fun a0 => (g_e a0.2).bind fun _ => T_J13_bitCount_95d88_0 a0.1 σ
noncomputable def S_J13_bitCount_95d88 (x : sL) : Option (sZ Int32) := if x.1 = 0 then U_J13_bitCount_95d88_0 x.2.1 x.2.2 else none
def Y_J13_bitCount_95d88 (pc : Nat) : List Nat := if pc = 0 then [0] else []
noncomputable def F_J13_bitCount_95d88 (v0 : Int64) (σ : sS) : Option (Int32 × sS) := s_run S_J13_bitCount_95d88 (0, [.long v0], σ)
theorem l_J13_bitCount_95d88_0 {v0 : Int64} {σ : sS} {z : sZ Int32} (hf : T_J13_bitCount_95d88_0 v0 σ = some z) : s_lz σ z := by
  unfold T_J13_bitCount_95d88_0 at hf
  cases hf
  exact s_le.rf
theorem l_J13_bitCount_95d88_s {x : sL} {z : sZ Int32} (hs : S_J13_bitCount_95d88 x = some z) : s_lz x.2.2 z := by
  obtain ⟨pc, vs, σ⟩ := x
  unfold S_J13_bitCount_95d88 at hs
  dsimp only at hs ⊢
  rcases s_ite hs with ⟨c, hs⟩ | ⟨-, hs⟩
  · subst c
    unfold U_J13_bitCount_95d88_0 at hs
    obtain ⟨a0, g0, hs⟩ := s_bind hs
    obtain ⟨u9, ge, hs⟩ := s_bind hs
    exact l_J13_bitCount_95d88_0 hs
  cases hs
theorem l_J13_bitCount_95d88 {v0 : Int64} {σ : sS} {q : Int32 × sS} (h : F_J13_bitCount_95d88 v0 σ = some q) : s_le σ q.2 := by
  unfold F_J13_bitCount_95d88 at h
  exact s_run_ind (V := fun x r => s_le x.2.2 r.2) (fun x z r hs hk => by
    have h9 := l_J13_bitCount_95d88_s hs
    cases z with
    | inl y => exact s_le.tr h9 hk
    | inr q => cases hk; exact h9) h
set_option maxRecDepth 100000 in
set_option maxHeartbeats 4000000 in
theorem v_J13_bitCount_95d88_0 {G : sG} {d : Nat} {vs0 : List Value} {σ0 : sS} {v0 : Int64} {σ : sS} {z : sZ Int32} {r : Int32 × sS} (hf : T_J13_bitCount_95d88_0 v0 σ = some z) (k : s_K G (d + 1) M_J13_bitCount_95d88 vs0 σ0 Y_J13_bitCount_95d88 e_I z r) : s_V G (d + 1) M_J13_bitCount_95d88 vs0 σ0 Y_J13_bitCount_95d88 (0, [.long v0], σ) (e_I r) := by
  have le0 : s_le σ (e_I r).2 := s_lek hem_I (l_J13_bitCount_95d88_0 hf) k
  refine ⟨le0, ?_⟩
  intro p e s m below meth c H locs cells slots ls X I hn1 hn2 hl
  have hn : cells + σ0.2.1 ≤ σ.2.1 ∧ slots + σ0.2.2.1 ≤ σ.2.2.1 := ⟨hn1, hn2⟩
  have hl : lv_has ls 2 [(0, .long v0)] := hl
  have hx := X.1
  have hb : c.code = cJ13_bitCount_95d88 := X.2.1
  have hown : s.vm.findClass RJ13 = some m.cls := X.2.2.2.2.2.1
  have hts := X.2.2.2.2.2.2.1
  refine W.eq (g2 := F0 m 0 ls []) rfl ?_
  unfold T_J13_bitCount_95d88_0 at hf
  cases hf
  have k : _ = r := k
  subst k
  refine lv_lload_n hx hb dJ13_bitCount_95d88_0 rfl (lv_at hl 0 rfl) ?_
  refine lv_lload_n hx hb dJ13_bitCount_95d88_1 rfl (lv_at hl 0 rfl) ?_
  refine lv_iconst (v := 1) hx hb dJ13_bitCount_95d88_2 (by decide) ?_
  refine lv_lushr hx hb dJ13_bitCount_95d88_3 rfl ?_
  refine lv_ldc2 (own := RJ13) hx hb hown (hts _ w_677) dJ13_bitCount_95d88_4 ?_
  refine lv_land hx hb dJ13_bitCount_95d88_7 ?_
  refine lv_lsub hx hb dJ13_bitCount_95d88_8 ?_
  refine lv_lstore_n (lv' := [(0, .long (v0 - (((v0 : Int64).toUInt64 >>> ((1 : Int32).toInt64.toUInt64 &&& Int64.toUInt64 63)).toInt64 &&& 6148914691236517205)))]) hx hb dJ13_bitCount_95d88_9 rfl hl (by decide) rfl (fun ls hl => ?_)
  refine lv_lload_n hx hb dJ13_bitCount_95d88_10 rfl (lv_at hl 0 rfl) ?_
  refine lv_ldc2 (own := RJ13) hx hb hown (hts _ w_678) dJ13_bitCount_95d88_11 ?_
  refine lv_land hx hb dJ13_bitCount_95d88_14 ?_
  refine lv_lload_n hx hb dJ13_bitCount_95d88_15 rfl (lv_at hl 0 rfl) ?_
  refine lv_iconst (v := 2) hx hb dJ13_bitCount_95d88_16 (by decide) ?_
  refine lv_lushr hx hb dJ13_bitCount_95d88_17 rfl ?_
  refine lv_ldc2 (own := RJ13) hx hb hown (hts _ w_678) dJ13_bitCount_95d88_18 ?_
  refine lv_land hx hb dJ13_bitCount_95d88_21 ?_
  refine lv_ladd hx hb dJ13_bitCount_95d88_22 ?_
  refine lv_lstore_n (lv' := [(0, .long (((v0 - (((v0 : Int64).toUInt64 >>> ((1 : Int32).toInt64.toUInt64 &&& Int64.toUInt64 63)).toInt64 &&& 6148914691236517205)) &&& 3689348814741910323) + ((((v0 - (((v0 : Int64).toUInt64 >>> ((1 : Int32).toInt64.toUInt64 &&& Int64.toUInt64 63)).toInt64 &&& 6148914691236517205)) : Int64).toUInt64 >>> ((2 : Int32).toInt64.toUInt64 &&& Int64.toUInt64 63)).toInt64 &&& 3689348814741910323)))]) hx hb dJ13_bitCount_95d88_23 rfl hl (by decide) rfl (fun ls hl => ?_)
  refine lv_lload_n hx hb dJ13_bitCount_95d88_24 rfl (lv_at hl 0 rfl) ?_
  refine lv_lload_n hx hb dJ13_bitCount_95d88_25 rfl (lv_at hl 0 rfl) ?_
  refine lv_iconst (v := 4) hx hb dJ13_bitCount_95d88_26 (by decide) ?_
  refine lv_lushr hx hb dJ13_bitCount_95d88_27 rfl ?_
  refine lv_ladd hx hb dJ13_bitCount_95d88_28 ?_
  refine lv_ldc2 (own := RJ13) hx hb hown (hts _ w_679) dJ13_bitCount_95d88_29 ?_
  refine lv_land hx hb dJ13_bitCount_95d88_32 ?_
  refine lv_lstore_n (lv' := [(0, .long (((((v0 - (((v0 : Int64).toUInt64 >>> ((1 : Int32).toInt64.toUInt64 &&& Int64.toUInt64 63)).toInt64 &&& 6148914691236517205)) &&& 3689348814741910323) + ((((v0 - (((v0 : Int64).toUInt64 >>> ((1 : Int32).toInt64.toUInt64 &&& Int64.toUInt64 63)).toInt64 &&& 6148914691236517205)) : Int64).toUInt64 >>> ((2 : Int32).toInt64.toUInt64 &&& Int64.toUInt64 63)).toInt64 &&& 3689348814741910323)) + (((((v0 - (((v0 : Int64).toUInt64 >>> ((1 : Int32).toInt64.toUInt64 &&& Int64.toUInt64 63)).toInt64 &&& 6148914691236517205)) &&& 3689348814741910323) + ((((v0 - (((v0 : Int64).toUInt64 >>> ((1 : Int32).toInt64.toUInt64 &&& Int64.toUInt64 63)).toInt64 &&& 6148914691236517205)) : Int64).toUInt64 >>> ((2 : Int32).toInt64.toUInt64 &&& Int64.toUInt64 63)).toInt64 &&& 3689348814741910323)) : Int64).toUInt64 >>> ((4 : Int32).toInt64.toUInt64 &&& Int64.toUInt64 63)).toInt64) &&& 1085102592571150095))]) hx hb dJ13_bitCount_95d88_33 rfl hl (by decide) rfl (fun ls hl => ?_)
  refine lv_lload_n hx hb dJ13_bitCount_95d88_34 rfl (lv_at hl 0 rfl) ?_
  refine lv_lload_n hx hb dJ13_bitCount_95d88_35 rfl (lv_at hl 0 rfl) ?_
  refine lv_bipush (v := 8) hx hb dJ13_bitCount_95d88_36 (by decide) ?_
  refine lv_lushr hx hb dJ13_bitCount_95d88_38 rfl ?_
  refine lv_ladd hx hb dJ13_bitCount_95d88_39 ?_
  refine lv_lstore_n (lv' := [(0, .long ((((((v0 - (((v0 : Int64).toUInt64 >>> ((1 : Int32).toInt64.toUInt64 &&& Int64.toUInt64 63)).toInt64 &&& 6148914691236517205)) &&& 3689348814741910323) + ((((v0 - (((v0 : Int64).toUInt64 >>> ((1 : Int32).toInt64.toUInt64 &&& Int64.toUInt64 63)).toInt64 &&& 6148914691236517205)) : Int64).toUInt64 >>> ((2 : Int32).toInt64.toUInt64 &&& Int64.toUInt64 63)).toInt64 &&& 3689348814741910323)) + (((((v0 - (((v0 : Int64).toUInt64 >>> ((1 : Int32).toInt64.toUInt64 &&& Int64.toUInt64 63)).toInt64 &&& 6148914691236517205)) &&& 3689348814741910323) + ((((v0 - (((v0 : Int64).toUInt64 >>> ((1 : Int32).toInt64.toUInt64 &&& Int64.toUInt64 63)).toInt64 &&& 6148914691236517205)) : Int64).toUInt64 >>> ((2 : Int32).toInt64.toUInt64 &&& Int64.toUInt64 63)).toInt64 &&& 3689348814741910323)) : Int64).toUInt64 >>> ((4 : Int32).toInt64.toUInt64 &&& Int64.toUInt64 63)).toInt64) &&& 1085102592571150095) + (((((((v0 - (((v0 : Int64).toUInt64 >>> ((1 : Int32).toInt64.toUInt64 &&& Int64.toUInt64 63)).toInt64 &&& 6148914691236517205)) &&& 3689348814741910323) + ((((v0 - (((v0 : Int64).toUInt64 >>> ((1 : Int32).toInt64.toUInt64 &&& Int64.toUInt64 63)).toInt64 &&& 6148914691236517205)) : Int64).toUInt64 >>> ((2 : Int32).toInt64.toUInt64 &&& Int64.toUInt64 63)).toInt64 &&& 3689348814741910323)) + (((((v0 - (((v0 : Int64).toUInt64 >>> ((1 : Int32).toInt64.toUInt64 &&& Int64.toUInt64 63)).toInt64 &&& 6148914691236517205)) &&& 3689348814741910323) + ((((v0 - (((v0 : Int64).toUInt64 >>> ((1 : Int32).toInt64.toUInt64 &&& Int64.toUInt64 63)).toInt64 &&& 6148914691236517205)) : Int64).toUInt64 >>> ((2 : Int32).toInt64.toUInt64 &&& Int64.toUInt64 63)).toInt64 &&& 3689348814741910323)) : Int64).toUInt64 >>> ((4 : Int32).toInt64.toUInt64 &&& Int64.toUInt64 63)).toInt64) &&& 1085102592571150095) : Int64).toUInt64 >>> ((8 : Int32).toInt64.toUInt64 &&& Int64.toUInt64 63)).toInt64))]) hx hb dJ13_bitCount_95d88_40 rfl hl (by decide) rfl (fun ls hl => ?_)
  refine lv_lload_n hx hb dJ13_bitCount_95d88_41 rfl (lv_at hl 0 rfl) ?_
  refine lv_lload_n hx hb dJ13_bitCount_95d88_42 rfl (lv_at hl 0 rfl) ?_
  refine lv_bipush (v := 16) hx hb dJ13_bitCount_95d88_43 (by decide) ?_
  refine lv_lushr hx hb dJ13_bitCount_95d88_45 rfl ?_
  refine lv_ladd hx hb dJ13_bitCount_95d88_46 ?_
  refine lv_lstore_n (lv' := [(0, .long (((((((v0 - (((v0 : Int64).toUInt64 >>> ((1 : Int32).toInt64.toUInt64 &&& Int64.toUInt64 63)).toInt64 &&& 6148914691236517205)) &&& 3689348814741910323) + ((((v0 - (((v0 : Int64).toUInt64 >>> ((1 : Int32).toInt64.toUInt64 &&& Int64.toUInt64 63)).toInt64 &&& 6148914691236517205)) : Int64).toUInt64 >>> ((2 : Int32).toInt64.toUInt64 &&& Int64.toUInt64 63)).toInt64 &&& 3689348814741910323)) + (((((v0 - (((v0 : Int64).toUInt64 >>> ((1 : Int32).toInt64.toUInt64 &&& Int64.toUInt64 63)).toInt64 &&& 6148914691236517205)) &&& 3689348814741910323) + ((((v0 - (((v0 : Int64).toUInt64 >>> ((1 : Int32).toInt64.toUInt64 &&& Int64.toUInt64 63)).toInt64 &&& 6148914691236517205)) : Int64).toUInt64 >>> ((2 : Int32).toInt64.toUInt64 &&& Int64.toUInt64 63)).toInt64 &&& 3689348814741910323)) : Int64).toUInt64 >>> ((4 : Int32).toInt64.toUInt64 &&& Int64.toUInt64 63)).toInt64) &&& 1085102592571150095) + (((((((v0 - (((v0 : Int64).toUInt64 >>> ((1 : Int32).toInt64.toUInt64 &&& Int64.toUInt64 63)).toInt64 &&& 6148914691236517205)) &&& 3689348814741910323) + ((((v0 - (((v0 : Int64).toUInt64 >>> ((1 : Int32).toInt64.toUInt64 &&& Int64.toUInt64 63)).toInt64 &&& 6148914691236517205)) : Int64).toUInt64 >>> ((2 : Int32).toInt64.toUInt64 &&& Int64.toUInt64 63)).toInt64 &&& 3689348814741910323)) + (((((v0 - (((v0 : Int64).toUInt64 >>> ((1 : Int32).toInt64.toUInt64 &&& Int64.toUInt64 63)).toInt64 &&& 6148914691236517205)) &&& 3689348814741910323) + ((((v0 - (((v0 : Int64).toUInt64 >>> ((1 : Int32).toInt64.toUInt64 &&& Int64.toUInt64 63)).toInt64 &&& 6148914691236517205)) : Int64).toUInt64 >>> ((2 : Int32).toInt64.toUInt64 &&& Int64.toUInt64 63)).toInt64 &&& 3689348814741910323)) : Int64).toUInt64 >>> ((4 : Int32).toInt64.toUInt64 &&& Int64.toUInt64 63)).toInt64) &&& 1085102592571150095) : Int64).toUInt64 >>> ((8 : Int32).toInt64.toUInt64 &&& Int64.toUInt64 63)).toInt64) + ((((((((v0 - (((v0 : Int64).toUInt64 >>> ((1 : Int32).toInt64.toUInt64 &&& Int64.toUInt64 63)).toInt64 &&& 6148914691236517205)) &&& 3689348814741910323) + ((((v0 - (((v0 : Int64).toUInt64 >>> ((1 : Int32).toInt64.toUInt64 &&& Int64.toUInt64 63)).toInt64 &&& 6148914691236517205)) : Int64).toUInt64 >>> ((2 : Int32).toInt64.toUInt64 &&& Int64.toUInt64 63)).toInt64 &&& 3689348814741910323)) + (((((v0 - (((v0 : Int64).toUInt64 >>> ((1 : Int32).toInt64.toUInt64 &&& Int64.toUInt64 63)).toInt64 &&& 6148914691236517205)) &&& 3689348814741910323) + ((((v0 - (((v0 : Int64).toUInt64 >>> ((1 : Int32).toInt64.toUInt64 &&& Int64.toUInt64 63)).toInt64 &&& 6148914691236517205)) : Int64).toUInt64 >>> ((2 : Int32).toInt64.toUInt64 &&& Int64.toUInt64 63)).toInt64 &&& 3689348814741910323)) : Int64).toUInt64 >>> ((4 : Int32).toInt64.toUInt64 &&& Int64.toUInt64 63)).toInt64) &&& 1085102592571150095) + (((((((v0 - (((v0 : Int64).toUInt64 >>> ((1 : Int32).toInt64.toUInt64 &&& Int64.toUInt64 63)).toInt64 &&& 6148914691236517205)) &&& 3689348814741910323) + ((((v0 - (((v0 : Int64).toUInt64 >>> ((1 : Int32).toInt64.toUInt64 &&& Int64.toUInt64 63)).toInt64 &&& 6148914691236517205)) : Int64).toUInt64 >>> ((2 : Int32).toInt64.toUInt64 &&& Int64.toUInt64 63)).toInt64 &&& 3689348814741910323)) + (((((v0 - (((v0 : Int64).toUInt64 >>> ((1 : Int32).toInt64.toUInt64 &&& Int64.toUInt64 63)).toInt64 &&& 6148914691236517205)) &&& 3689348814741910323) + ((((v0 - (((v0 : Int64).toUInt64 >>> ((1 : Int32).toInt64.toUInt64 &&& Int64.toUInt64 63)).toInt64 &&& 6148914691236517205)) : Int64).toUInt64 >>> ((2 : Int32).toInt64.toUInt64 &&& Int64.toUInt64 63)).toInt64 &&& 3689348814741910323)) : Int64).toUInt64 >>> ((4 : Int32).toInt64.toUInt64 &&& Int64.toUInt64 63)).toInt64) &&& 1085102592571150095) : Int64).toUInt64 >>> ((8 : Int32).toInt64.toUInt64 &&& Int64.toUInt64 63)).toInt64) : Int64).toUInt64 >>> ((16 : Int32).toInt64.toUInt64 &&& Int64.toUInt64 63)).toInt64))]) hx hb dJ13_bitCount_95d88_47 rfl hl (by decide) rfl (fun ls hl => ?_)
  refine lv_lload_n hx hb dJ13_bitCount_95d88_48 rfl (lv_at hl 0 rfl) ?_
  refine lv_lload_n hx hb dJ13_bitCount_95d88_49 rfl (lv_at hl 0 rfl) ?_
  refine lv_bipush (v := 32) hx hb dJ13_bitCount_95d88_50 (by decide) ?_
  refine lv_lushr hx hb dJ13_bitCount_95d88_52 rfl ?_
  refine lv_ladd hx hb dJ13_bitCount_95d88_53 ?_
  refine lv_lstore_n (lv' := [(0, .long ((((((((v0 - (((v0 : Int64).toUInt64 >>> ((1 : Int32).toInt64.toUInt64 &&& Int64.toUInt64 63)).toInt64 &&& 6148914691236517205)) &&& 3689348814741910323) + ((((v0 - (((v0 : Int64).toUInt64 >>> ((1 : Int32).toInt64.toUInt64 &&& Int64.toUInt64 63)).toInt64 &&& 6148914691236517205)) : Int64).toUInt64 >>> ((2 : Int32).toInt64.toUInt64 &&& Int64.toUInt64 63)).toInt64 &&& 3689348814741910323)) + (((((v0 - (((v0 : Int64).toUInt64 >>> ((1 : Int32).toInt64.toUInt64 &&& Int64.toUInt64 63)).toInt64 &&& 6148914691236517205)) &&& 3689348814741910323) + ((((v0 - (((v0 : Int64).toUInt64 >>> ((1 : Int32).toInt64.toUInt64 &&& Int64.toUInt64 63)).toInt64 &&& 6148914691236517205)) : Int64).toUInt64 >>> ((2 : Int32).toInt64.toUInt64 &&& Int64.toUInt64 63)).toInt64 &&& 3689348814741910323)) : Int64).toUInt64 >>> ((4 : Int32).toInt64.toUInt64 &&& Int64.toUInt64 63)).toInt64) &&& 1085102592571150095) + (((((((v0 - (((v0 : Int64).toUInt64 >>> ((1 : Int32).toInt64.toUInt64 &&& Int64.toUInt64 63)).toInt64 &&& 6148914691236517205)) &&& 3689348814741910323) + ((((v0 - (((v0 : Int64).toUInt64 >>> ((1 : Int32).toInt64.toUInt64 &&& Int64.toUInt64 63)).toInt64 &&& 6148914691236517205)) : Int64).toUInt64 >>> ((2 : Int32).toInt64.toUInt64 &&& Int64.toUInt64 63)).toInt64 &&& 3689348814741910323)) + (((((v0 - (((v0 : Int64).toUInt64 >>> ((1 : Int32).toInt64.toUInt64 &&& Int64.toUInt64 63)).toInt64 &&& 6148914691236517205)) &&& 3689348814741910323) + ((((v0 - (((v0 : Int64).toUInt64 >>> ((1 : Int32).toInt64.toUInt64 &&& Int64.toUInt64 63)).toInt64 &&& 6148914691236517205)) : Int64).toUInt64 >>> ((2 : Int32).toInt64.toUInt64 &&& Int64.toUInt64 63)).toInt64 &&& 3689348814741910323)) : Int64).toUInt64 >>> ((4 : Int32).toInt64.toUInt64 &&& Int64.toUInt64 63)).toInt64) &&& 1085102592571150095) : Int64).toUInt64 >>> ((8 : Int32).toInt64.toUInt64 &&& Int64.toUInt64 63)).toInt64) + ((((((((v0 - (((v0 : Int64).toUInt64 >>> ((1 : Int32).toInt64.toUInt64 &&& Int64.toUInt64 63)).toInt64 &&& 6148914691236517205)) &&& 3689348814741910323) + ((((v0 - (((v0 : Int64).toUInt64 >>> ((1 : Int32).toInt64.toUInt64 &&& Int64.toUInt64 63)).toInt64 &&& 6148914691236517205)) : Int64).toUInt64 >>> ((2 : Int32).toInt64.toUInt64 &&& Int64.toUInt64 63)).toInt64 &&& 3689348814741910323)) + (((((v0 - (((v0 : Int64).toUInt64 >>> ((1 : Int32).toInt64.toUInt64 &&& Int64.toUInt64 63)).toInt64 &&& 6148914691236517205)) &&& 3689348814741910323) + ((((v0 - (((v0 : Int64).toUInt64 >>> ((1 : Int32).toInt64.toUInt64 &&& Int64.toUInt64 63)).toInt64 &&& 6148914691236517205)) : Int64).toUInt64 >>> ((2 : Int32).toInt64.toUInt64 &&& Int64.toUInt64 63)).toInt64 &&& 3689348814741910323)) : Int64).toUInt64 >>> ((4 : Int32).toInt64.toUInt64 &&& Int64.toUInt64 63)).toInt64) &&& 1085102592571150095) + (((((((v0 - (((v0 : Int64).toUInt64 >>> ((1 : Int32).toInt64.toUInt64 &&& Int64.toUInt64 63)).toInt64 &&& 6148914691236517205)) &&& 3689348814741910323) + ((((v0 - (((v0 : Int64).toUInt64 >>> ((1 : Int32).toInt64.toUInt64 &&& Int64.toUInt64 63)).toInt64 &&& 6148914691236517205)) : Int64).toUInt64 >>> ((2 : Int32).toInt64.toUInt64 &&& Int64.toUInt64 63)).toInt64 &&& 3689348814741910323)) + (((((v0 - (((v0 : Int64).toUInt64 >>> ((1 : Int32).toInt64.toUInt64 &&& Int64.toUInt64 63)).toInt64 &&& 6148914691236517205)) &&& 3689348814741910323) + ((((v0 - (((v0 : Int64).toUInt64 >>> ((1 : Int32).toInt64.toUInt64 &&& Int64.toUInt64 63)).toInt64 &&& 6148914691236517205)) : Int64).toUInt64 >>> ((2 : Int32).toInt64.toUInt64 &&& Int64.toUInt64 63)).toInt64 &&& 3689348814741910323)) : Int64).toUInt64 >>> ((4 : Int32).toInt64.toUInt64 &&& Int64.toUInt64 63)).toInt64) &&& 1085102592571150095) : Int64).toUInt64 >>> ((8 : Int32).toInt64.toUInt64 &&& Int64.toUInt64 63)).toInt64) : Int64).toUInt64 >>> ((16 : Int32).toInt64.toUInt64 &&& Int64.toUInt64 63)).toInt64) + (((((((((v0 - (((v0 : Int64).toUInt64 >>> ((1 : Int32).toInt64.toUInt64 &&& Int64.toUInt64 63)).toInt64 &&& 6148914691236517205)) &&& 3689348814741910323) + ((((v0 - (((v0 : Int64).toUInt64 >>> ((1 : Int32).toInt64.toUInt64 &&& Int64.toUInt64 63)).toInt64 &&& 6148914691236517205)) : Int64).toUInt64 >>> ((2 : Int32).toInt64.toUInt64 &&& Int64.toUInt64 63)).toInt64 &&& 3689348814741910323)) + (((((v0 - (((v0 : Int64).toUInt64 >>> ((1 : Int32).toInt64.toUInt64 &&& Int64.toUInt64 63)).toInt64 &&& 6148914691236517205)) &&& 3689348814741910323) + ((((v0 - (((v0 : Int64).toUInt64 >>> ((1 : Int32).toInt64.toUInt64 &&& Int64.toUInt64 63)).toInt64 &&& 6148914691236517205)) : Int64).toUInt64 >>> ((2 : Int32).toInt64.toUInt64 &&& Int64.toUInt64 63)).toInt64 &&& 3689348814741910323)) : Int64).toUInt64 >>> ((4 : Int32).toInt64.toUInt64 &&& Int64.toUInt64 63)).toInt64) &&& 1085102592571150095) + (((((((v0 - (((v0 : Int64).toUInt64 >>> ((1 : Int32).toInt64.toUInt64 &&& Int64.toUInt64 63)).toInt64 &&& 6148914691236517205)) &&& 3689348814741910323) + ((((v0 - (((v0 : Int64).toUInt64 >>> ((1 : Int32).toInt64.toUInt64 &&& Int64.toUInt64 63)).toInt64 &&& 6148914691236517205)) : Int64).toUInt64 >>> ((2 : Int32).toInt64.toUInt64 &&& Int64.toUInt64 63)).toInt64 &&& 3689348814741910323)) + (((((v0 - (((v0 : Int64).toUInt64 >>> ((1 : Int32).toInt64.toUInt64 &&& Int64.toUInt64 63)).toInt64 &&& 6148914691236517205)) &&& 3689348814741910323) + ((((v0 - (((v0 : Int64).toUInt64 >>> ((1 : Int32).toInt64.toUInt64 &&& Int64.toUInt64 63)).toInt64 &&& 6148914691236517205)) : Int64).toUInt64 >>> ((2 : Int32).toInt64.toUInt64 &&& Int64.toUInt64 63)).toInt64 &&& 3689348814741910323)) : Int64).toUInt64 >>> ((4 : Int32).toInt64.toUInt64 &&& Int64.toUInt64 63)).toInt64) &&& 1085102592571150095) : Int64).toUInt64 >>> ((8 : Int32).toInt64.toUInt64 &&& Int64.toUInt64 63)).toInt64) + ((((((((v0 - (((v0 : Int64).toUInt64 >>> ((1 : Int32).toInt64.toUInt64 &&& Int64.toUInt64 63)).toInt64 &&& 6148914691236517205)) &&& 3689348814741910323) + ((((v0 - (((v0 : Int64).toUInt64 >>> ((1 : Int32).toInt64.toUInt64 &&& Int64.toUInt64 63)).toInt64 &&& 6148914691236517205)) : Int64).toUInt64 >>> ((2 : Int32).toInt64.toUInt64 &&& Int64.toUInt64 63)).toInt64 &&& 3689348814741910323)) + (((((v0 - (((v0 : Int64).toUInt64 >>> ((1 : Int32).toInt64.toUInt64 &&& Int64.toUInt64 63)).toInt64 &&& 6148914691236517205)) &&& 3689348814741910323) + ((((v0 - (((v0 : Int64).toUInt64 >>> ((1 : Int32).toInt64.toUInt64 &&& Int64.toUInt64 63)).toInt64 &&& 6148914691236517205)) : Int64).toUInt64 >>> ((2 : Int32).toInt64.toUInt64 &&& Int64.toUInt64 63)).toInt64 &&& 3689348814741910323)) : Int64).toUInt64 >>> ((4 : Int32).toInt64.toUInt64 &&& Int64.toUInt64 63)).toInt64) &&& 1085102592571150095) + (((((((v0 - (((v0 : Int64).toUInt64 >>> ((1 : Int32).toInt64.toUInt64 &&& Int64.toUInt64 63)).toInt64 &&& 6148914691236517205)) &&& 3689348814741910323) + ((((v0 - (((v0 : Int64).toUInt64 >>> ((1 : Int32).toInt64.toUInt64 &&& Int64.toUInt64 63)).toInt64 &&& 6148914691236517205)) : Int64).toUInt64 >>> ((2 : Int32).toInt64.toUInt64 &&& Int64.toUInt64 63)).toInt64 &&& 3689348814741910323)) + (((((v0 - (((v0 : Int64).toUInt64 >>> ((1 : Int32).toInt64.toUInt64 &&& Int64.toUInt64 63)).toInt64 &&& 6148914691236517205)) &&& 3689348814741910323) + ((((v0 - (((v0 : Int64).toUInt64 >>> ((1 : Int32).toInt64.toUInt64 &&& Int64.toUInt64 63)).toInt64 &&& 6148914691236517205)) : Int64).toUInt64 >>> ((2 : Int32).toInt64.toUInt64 &&& Int64.toUInt64 63)).toInt64 &&& 3689348814741910323)) : Int64).toUInt64 >>> ((4 : Int32).toInt64.toUInt64 &&& Int64.toUInt64 63)).toInt64) &&& 1085102592571150095) : Int64).toUInt64 >>> ((8 : Int32).toInt64.toUInt64 &&& Int64.toUInt64 63)).toInt64) : Int64).toUInt64 >>> ((16 : Int32).toInt64.toUInt64 &&& Int64.toUInt64 63)).toInt64) : Int64).toUInt64 >>> ((32 : Int32).toInt64.toUInt64 &&& Int64.toUInt64 63)).toInt64))]) hx hb dJ13_bitCount_95d88_54 rfl hl (by decide) rfl (fun ls hl => ?_)
  refine lv_lload_n hx hb dJ13_bitCount_95d88_55 rfl (lv_at hl 0 rfl) ?_
  refine lv_l2i hx hb dJ13_bitCount_95d88_56 rfl ?_
  refine lv_bipush (v := 127) hx hb dJ13_bitCount_95d88_57 (by decide) ?_
  refine lv_iand hx hb dJ13_bitCount_95d88_59 ?_
  exact r_iret X I rfl rfl rfl hn dJ13_bitCount_95d88_60
theorem v_J13_bitCount_95d88 {G : sG} {d : Nat} {vs0 : List Value} {σ0 : sS} {x : sL} {z : sZ Int32} {r : Int32 × sS} (hs : S_J13_bitCount_95d88 x = some z) (k : s_K G (d + 1) M_J13_bitCount_95d88 vs0 σ0 Y_J13_bitCount_95d88 e_I z r) : s_V G (d + 1) M_J13_bitCount_95d88 vs0 σ0 Y_J13_bitCount_95d88 x (e_I r) := by
  obtain ⟨pc, vs, σ⟩ := x
  unfold S_J13_bitCount_95d88 at hs
  dsimp only at hs
  rcases s_ite hs with ⟨c, hs⟩ | ⟨-, hs⟩
  · subst c
    unfold U_J13_bitCount_95d88_0 at hs
    obtain ⟨a0, g0, hs⟩ := s_bind hs
    obtain ⟨u9, ge, hs⟩ := s_bind hs
    rw [g_l_to g0, g_e_to ge]
    exact v_J13_bitCount_95d88_0 hs k
  cases hs
theorem t_J13_bitCount_95d88 {G : sG} {d : Nat} {v0 : Int64} {σ : sS} {q : Int32 × sS} (h : F_J13_bitCount_95d88 v0 σ = some q) : s_T G (d + 1) M_J13_bitCount_95d88 [.long v0] σ (e_I q) := by
  unfold F_J13_bitCount_95d88 at h
  exact s_ofV rfl (by decide) (Nat.le_of_ble_eq_true rfl) rfl rfl (s_run_ind (V := fun x r => s_V G (d + 1) M_J13_bitCount_95d88 [.long v0] σ Y_J13_bitCount_95d88 x (e_I r)) (fun x z r hs hk => v_J13_bitCount_95d88 hs (by cases z <;> exact hk)) h)
/-! J6_numberOfTrailingZeros_0f7a4 -/
noncomputable def T_J6_numberOfTrailingZeros_0f7a4_0 (v0 : Int32) (σ : sS) : Option (sZ Int32) :=
  if (0 : Int32) < ((v0 ^^^ (-1)) &&& (v0 - 1)) then (if ((v0 ^^^ (-1)) &&& (v0 - 1)) ≤ 65536 then (some (.inl (34, [.int ((v0 ^^^ (-1)) &&& (v0 - 1)), .int 1], σ)))
  else (some (.inl (34, [.int ((((v0 ^^^ (-1)) &&& (v0 - 1)) : Int32).toUInt32 >>> ((16 : Int32).toUInt32 &&& Int32.toUInt32 31)).toInt32, .int (1 + 16)], σ))))
  else (some (.inr ((((v0 ^^^ (-1)) &&& (v0 - 1)) &&& 32), σ)))
noncomputable def U_J6_numberOfTrailingZeros_0f7a4_0 (vs : List Value) (σ : sS) : Option (sZ Int32) := (g_i vs).bind fun a0 => (g_e a0.2).bind fun _ => T_J6_numberOfTrailingZeros_0f7a4_0 a0.1 σ
noncomputable def T_J6_numberOfTrailingZeros_0f7a4_34 (v0 : Int32) (v1 : Int32) (σ : sS) : Option (sZ Int32) :=
  if v0 ≤ 256 then (some (.inl (49, [.int v0, .int v1], σ)))
  else (some (.inl (49, [.int ((v0 : Int32).toUInt32 >>> ((8 : Int32).toUInt32 &&& Int32.toUInt32 31)).toInt32, .int (v1 + 8)], σ)))
noncomputable def U_J6_numberOfTrailingZeros_0f7a4_34 (vs : List Value) (σ : sS) : Option (sZ Int32) := (g_i vs).bind fun a0 => (g_i a0.2).bind fun a1 => (g_e a1.2).bind fun _ => T_J6_numberOfTrailingZeros_0f7a4_34 a0.1 a1.1 σ
noncomputable def T_J6_numberOfTrailingZeros_0f7a4_49 (v0 : Int32) (v1 : Int32) (σ : sS) : Option (sZ Int32) :=
  if v0 ≤ 16 then (some (.inl (62, [.int v0, .int v1], σ)))
  else (some (.inl (62, [.int ((v0 : Int32).toUInt32 >>> ((4 : Int32).toUInt32 &&& Int32.toUInt32 31)).toInt32, .int (v1 + 4)], σ)))
noncomputable def U_J6_numberOfTrailingZeros_0f7a4_49 (vs : List Value) (σ : sS) : Option (sZ Int32) := (g_i vs).bind fun a0 => (g_i a0.2).bind fun a1 => (g_e a1.2).bind fun _ => T_J6_numberOfTrailingZeros_0f7a4_49 a0.1 a1.1 σ
noncomputable def T_J6_numberOfTrailingZeros_0f7a4_62 (v0 : Int32) (v1 : Int32) (σ : sS) : Option (sZ Int32) :=
  if v0 ≤ 4 then (some (.inl (74, [.int v0, .int v1], σ)))
  else (some (.inl (74, [.int ((v0 : Int32).toUInt32 >>> ((2 : Int32).toUInt32 &&& Int32.toUInt32 31)).toInt32, .int (v1 + 2)], σ)))
noncomputable def U_J6_numberOfTrailingZeros_0f7a4_62 (vs : List Value) (σ : sS) : Option (sZ Int32) := (g_i vs).bind fun a0 => (g_i a0.2).bind fun a1 => (g_e a1.2).bind fun _ => T_J6_numberOfTrailingZeros_0f7a4_62 a0.1 a1.1 σ
noncomputable def T_J6_numberOfTrailingZeros_0f7a4_74 (v0 : Int32) (v1 : Int32) (σ : sS) : Option (sZ Int32) :=
  some (.inr ((v1 + ((v0 : Int32).toUInt32 >>> ((1 : Int32).toUInt32 &&& Int32.toUInt32 31)).toInt32), σ))
noncomputable def U_J6_numberOfTrailingZeros_0f7a4_74 (vs : List Value) (σ : sS) : Option (sZ Int32) := (g_i vs).bind fun a0 => (g_i a0.2).bind fun a1 => (g_e a1.2).bind fun _ => T_J6_numberOfTrailingZeros_0f7a4_74 a0.1 a1.1 σ
noncomputable def S_J6_numberOfTrailingZeros_0f7a4 (x : sL) : Option (sZ Int32) := if x.1 = 0 then U_J6_numberOfTrailingZeros_0f7a4_0 x.2.1 x.2.2 else if x.1 = 34 then U_J6_numberOfTrailingZeros_0f7a4_34 x.2.1 x.2.2 else if x.1 = 49 then U_J6_numberOfTrailingZeros_0f7a4_49 x.2.1 x.2.2 else if x.1 = 62 then U_J6_numberOfTrailingZeros_0f7a4_62 x.2.1 x.2.2 else if x.1 = 74 then U_J6_numberOfTrailingZeros_0f7a4_74 x.2.1 x.2.2 else none
def Y_J6_numberOfTrailingZeros_0f7a4 (pc : Nat) : List Nat := if pc = 0 then [0] else if pc = 34 then [0, 1] else if pc = 49 then [0, 1] else if pc = 62 then [0, 1] else if pc = 74 then [0, 1] else []
noncomputable def F_J6_numberOfTrailingZeros_0f7a4 (v0 : Int32) (σ : sS) : Option (Int32 × sS) := s_run S_J6_numberOfTrailingZeros_0f7a4 (0, [.int v0], σ)
theorem l_J6_numberOfTrailingZeros_0f7a4_0 {v0 : Int32} {σ : sS} {z : sZ Int32} (hf : T_J6_numberOfTrailingZeros_0f7a4_0 v0 σ = some z) : s_lz σ z := by
  unfold T_J6_numberOfTrailingZeros_0f7a4_0 at hf
  rcases s_ite hf with ⟨-, hf⟩ | ⟨-, hf⟩
  · rcases s_ite hf with ⟨-, hf⟩ | ⟨-, hf⟩
    · cases hf
      exact s_le.rf
    · cases hf
      exact s_le.rf
  · cases hf
    exact s_le.rf
theorem l_J6_numberOfTrailingZeros_0f7a4_34 {v0 : Int32} {v1 : Int32} {σ : sS} {z : sZ Int32} (hf : T_J6_numberOfTrailingZeros_0f7a4_34 v0 v1 σ = some z) : s_lz σ z := by
  unfold T_J6_numberOfTrailingZeros_0f7a4_34 at hf
  rcases s_ite hf with ⟨-, hf⟩ | ⟨-, hf⟩
  · cases hf
    exact s_le.rf
  · cases hf
    exact s_le.rf
theorem l_J6_numberOfTrailingZeros_0f7a4_49 {v0 : Int32} {v1 : Int32} {σ : sS} {z : sZ Int32} (hf : T_J6_numberOfTrailingZeros_0f7a4_49 v0 v1 σ = some z) : s_lz σ z := by
  unfold T_J6_numberOfTrailingZeros_0f7a4_49 at hf
  rcases s_ite hf with ⟨-, hf⟩ | ⟨-, hf⟩
  · cases hf
    exact s_le.rf
  · cases hf
    exact s_le.rf
theorem l_J6_numberOfTrailingZeros_0f7a4_62 {v0 : Int32} {v1 : Int32} {σ : sS} {z : sZ Int32} (hf : T_J6_numberOfTrailingZeros_0f7a4_62 v0 v1 σ = some z) : s_lz σ z := by
  unfold T_J6_numberOfTrailingZeros_0f7a4_62 at hf
  rcases s_ite hf with ⟨-, hf⟩ | ⟨-, hf⟩
  · cases hf
    exact s_le.rf
  · cases hf
    exact s_le.rf
theorem l_J6_numberOfTrailingZeros_0f7a4_74 {v0 : Int32} {v1 : Int32} {σ : sS} {z : sZ Int32} (hf : T_J6_numberOfTrailingZeros_0f7a4_74 v0 v1 σ = some z) : s_lz σ z := by
  unfold T_J6_numberOfTrailingZeros_0f7a4_74 at hf
  cases hf
  exact s_le.rf
theorem l_J6_numberOfTrailingZeros_0f7a4_s {x : sL} {z : sZ Int32} (hs : S_J6_numberOfTrailingZeros_0f7a4 x = some z) : s_lz x.2.2 z := by
  obtain ⟨pc, vs, σ⟩ := x
  unfold S_J6_numberOfTrailingZeros_0f7a4 at hs
  dsimp only at hs ⊢
  rcases s_ite hs with ⟨c, hs⟩ | ⟨-, hs⟩
  · subst c
    unfold U_J6_numberOfTrailingZeros_0f7a4_0 at hs
    obtain ⟨a0, g0, hs⟩ := s_bind hs
    obtain ⟨u9, ge, hs⟩ := s_bind hs
    exact l_J6_numberOfTrailingZeros_0f7a4_0 hs
  rcases s_ite hs with ⟨c, hs⟩ | ⟨-, hs⟩
  · subst c
    unfold U_J6_numberOfTrailingZeros_0f7a4_34 at hs
    obtain ⟨a0, g0, hs⟩ := s_bind hs
    obtain ⟨a1, g1, hs⟩ := s_bind hs
    obtain ⟨u9, ge, hs⟩ := s_bind hs
    exact l_J6_numberOfTrailingZeros_0f7a4_34 hs
  rcases s_ite hs with ⟨c, hs⟩ | ⟨-, hs⟩
  · subst c
    unfold U_J6_numberOfTrailingZeros_0f7a4_49 at hs
    obtain ⟨a0, g0, hs⟩ := s_bind hs
    obtain ⟨a1, g1, hs⟩ := s_bind hs
    obtain ⟨u9, ge, hs⟩ := s_bind hs
    exact l_J6_numberOfTrailingZeros_0f7a4_49 hs
  rcases s_ite hs with ⟨c, hs⟩ | ⟨-, hs⟩
  · subst c
    unfold U_J6_numberOfTrailingZeros_0f7a4_62 at hs
    obtain ⟨a0, g0, hs⟩ := s_bind hs
    obtain ⟨a1, g1, hs⟩ := s_bind hs
    obtain ⟨u9, ge, hs⟩ := s_bind hs
    exact l_J6_numberOfTrailingZeros_0f7a4_62 hs
  rcases s_ite hs with ⟨c, hs⟩ | ⟨-, hs⟩
  · subst c
    unfold U_J6_numberOfTrailingZeros_0f7a4_74 at hs
    obtain ⟨a0, g0, hs⟩ := s_bind hs
    obtain ⟨a1, g1, hs⟩ := s_bind hs
    obtain ⟨u9, ge, hs⟩ := s_bind hs
    exact l_J6_numberOfTrailingZeros_0f7a4_74 hs
  cases hs
theorem l_J6_numberOfTrailingZeros_0f7a4 {v0 : Int32} {σ : sS} {q : Int32 × sS} (h : F_J6_numberOfTrailingZeros_0f7a4 v0 σ = some q) : s_le σ q.2 := by
  unfold F_J6_numberOfTrailingZeros_0f7a4 at h
  exact s_run_ind (V := fun x r => s_le x.2.2 r.2) (fun x z r hs hk => by
    have h9 := l_J6_numberOfTrailingZeros_0f7a4_s hs
    cases z with
    | inl y => exact s_le.tr h9 hk
    | inr q => cases hk; exact h9) h
set_option maxRecDepth 100000 in
set_option maxHeartbeats 4000000 in
theorem v_J6_numberOfTrailingZeros_0f7a4_0 {G : sG} {d : Nat} {vs0 : List Value} {σ0 : sS} {v0 : Int32} {σ : sS} {z : sZ Int32} {r : Int32 × sS} (hf : T_J6_numberOfTrailingZeros_0f7a4_0 v0 σ = some z) (k : s_K G (d + 1) M_J6_numberOfTrailingZeros_0f7a4 vs0 σ0 Y_J6_numberOfTrailingZeros_0f7a4 e_I z r) : s_V G (d + 1) M_J6_numberOfTrailingZeros_0f7a4 vs0 σ0 Y_J6_numberOfTrailingZeros_0f7a4 (0, [.int v0], σ) (e_I r) := by
  have le0 : s_le σ (e_I r).2 := s_lek hem_I (l_J6_numberOfTrailingZeros_0f7a4_0 hf) k
  refine ⟨le0, ?_⟩
  intro p e s m below meth c H locs cells slots ls X I hn1 hn2 hl
  have hn : cells + σ0.2.1 ≤ σ.2.1 ∧ slots + σ0.2.2.1 ≤ σ.2.2.1 := ⟨hn1, hn2⟩
  have hl : lv_has ls 2 [(0, .int v0)] := hl
  have hx := X.1
  have hb : c.code = cJ6_numberOfTrailingZeros_0f7a4 := X.2.1
  have hown : s.vm.findClass RJ6 = some m.cls := X.2.2.2.2.2.1
  have hts := X.2.2.2.2.2.2.1
  refine W.eq (g2 := F0 m 0 ls []) rfl ?_
  unfold T_J6_numberOfTrailingZeros_0f7a4_0 at hf
  refine lv_iload_n hx hb dJ6_numberOfTrailingZeros_0f7a4_0 rfl (lv_at hl 0 rfl) ?_
  refine lv_iconst (v := (-1)) hx hb dJ6_numberOfTrailingZeros_0f7a4_1 (by decide) ?_
  refine lv_ixor hx hb dJ6_numberOfTrailingZeros_0f7a4_2 ?_
  refine lv_iload_n hx hb dJ6_numberOfTrailingZeros_0f7a4_3 rfl (lv_at hl 0 rfl) ?_
  refine lv_iconst (v := 1) hx hb dJ6_numberOfTrailingZeros_0f7a4_4 (by decide) ?_
  refine lv_isub hx hb dJ6_numberOfTrailingZeros_0f7a4_5 ?_
  refine lv_iand hx hb dJ6_numberOfTrailingZeros_0f7a4_6 ?_
  refine lv_istore_n (lv' := [(0, .int ((v0 ^^^ (-1)) &&& (v0 - 1)))]) hx hb dJ6_numberOfTrailingZeros_0f7a4_7 rfl hl (by decide) rfl (fun ls hl => ?_)
  refine lv_iload_n hx hb dJ6_numberOfTrailingZeros_0f7a4_8 rfl (lv_at hl 0 rfl) ?_
  rcases s_ite hf with ⟨c1, hf⟩ | ⟨c1, hf⟩
  · refine lv_if_gt (tgt := 17) hx hb dJ6_numberOfTrailingZeros_0f7a4_9 (by decide) (fun _ => ?_) (fun n => absurd c1 n)
    refine lv_iconst (v := 1) hx hb dJ6_numberOfTrailingZeros_0f7a4_17 (by decide) ?_
    refine lv_istore_n (lv' := [(1, .int 1), (0, .int ((v0 ^^^ (-1)) &&& (v0 - 1)))]) hx hb dJ6_numberOfTrailingZeros_0f7a4_18 rfl hl (by decide) rfl (fun ls hl => ?_)
    refine lv_iload_n hx hb dJ6_numberOfTrailingZeros_0f7a4_19 rfl (lv_at hl 1 rfl) ?_
    refine lv_ldcw (own := RJ6) hx hb hown (hts _ w_1264) dJ6_numberOfTrailingZeros_0f7a4_20 ?_
    rcases s_ite hf with ⟨c2, hf⟩ | ⟨c2, hf⟩
    · refine lv_icmp_le (tgt := 34) hx hb dJ6_numberOfTrailingZeros_0f7a4_23 (by decide) (fun _ => ?_) (fun n => absurd c2 n)
      cases hf
      have k : s_V G (d + 1) M_J6_numberOfTrailingZeros_0f7a4 vs0 σ0 Y_J6_numberOfTrailingZeros_0f7a4 (34, [.int ((v0 ^^^ (-1)) &&& (v0 - 1)), .int 1], σ) (e_I r) := k
      exact k.2 p e s m below meth c _ _ _ _ _ X I hn.1 hn.2 (lv_sub hl [1, 0] rfl)
    · refine lv_icmp_le (tgt := 34) hx hb dJ6_numberOfTrailingZeros_0f7a4_23 (by decide) (fun n => absurd n c2) (fun _ => ?_)
      cases hf
      have k : s_V G (d + 1) M_J6_numberOfTrailingZeros_0f7a4 vs0 σ0 Y_J6_numberOfTrailingZeros_0f7a4 (34, [.int ((((v0 ^^^ (-1)) &&& (v0 - 1)) : Int32).toUInt32 >>> ((16 : Int32).toUInt32 &&& Int32.toUInt32 31)).toInt32, .int (1 + 16)], σ) (e_I r) := k
      refine lv_iinc (v := (1 + 16)) (lv' := [(1, .int (1 + 16)), (0, .int ((v0 ^^^ (-1)) &&& (v0 - 1)))]) hx hb dJ6_numberOfTrailingZeros_0f7a4_26 hl (k := 0) rfl rfl (by decide) rfl (fun ls hl => ?_)
      refine lv_iload_n hx hb dJ6_numberOfTrailingZeros_0f7a4_29 rfl (lv_at hl 1 rfl) ?_
      refine lv_bipush (v := 16) hx hb dJ6_numberOfTrailingZeros_0f7a4_30 (by decide) ?_
      refine lv_iushr hx hb dJ6_numberOfTrailingZeros_0f7a4_32 rfl ?_
      refine lv_istore_n (lv' := [(0, .int ((((v0 ^^^ (-1)) &&& (v0 - 1)) : Int32).toUInt32 >>> ((16 : Int32).toUInt32 &&& Int32.toUInt32 31)).toInt32), (1, .int (1 + 16))]) hx hb dJ6_numberOfTrailingZeros_0f7a4_33 rfl hl (by decide) rfl (fun ls hl => ?_)
      exact k.2 p e s m below meth c _ _ _ _ _ X I hn.1 hn.2 (lv_sub hl [0, 1] rfl)
  · refine lv_if_gt (tgt := 17) hx hb dJ6_numberOfTrailingZeros_0f7a4_9 (by decide) (fun n => absurd n c1) (fun _ => ?_)
    cases hf
    have k : _ = r := k
    subst k
    refine lv_iload_n hx hb dJ6_numberOfTrailingZeros_0f7a4_12 rfl (lv_at hl 0 rfl) ?_
    refine lv_bipush (v := 32) hx hb dJ6_numberOfTrailingZeros_0f7a4_13 (by decide) ?_
    refine lv_iand hx hb dJ6_numberOfTrailingZeros_0f7a4_15 ?_
    exact r_iret X I rfl rfl rfl hn dJ6_numberOfTrailingZeros_0f7a4_16
set_option maxRecDepth 100000 in
set_option maxHeartbeats 4000000 in
theorem v_J6_numberOfTrailingZeros_0f7a4_34 {G : sG} {d : Nat} {vs0 : List Value} {σ0 : sS} {v0 : Int32} {v1 : Int32} {σ : sS} {z : sZ Int32} {r : Int32 × sS} (hf : T_J6_numberOfTrailingZeros_0f7a4_34 v0 v1 σ = some z) (k : s_K G (d + 1) M_J6_numberOfTrailingZeros_0f7a4 vs0 σ0 Y_J6_numberOfTrailingZeros_0f7a4 e_I z r) : s_V G (d + 1) M_J6_numberOfTrailingZeros_0f7a4 vs0 σ0 Y_J6_numberOfTrailingZeros_0f7a4 (34, [.int v0, .int v1], σ) (e_I r) := by
  have le0 : s_le σ (e_I r).2 := s_lek hem_I (l_J6_numberOfTrailingZeros_0f7a4_34 hf) k
  refine ⟨le0, ?_⟩
  intro p e s m below meth c H locs cells slots ls X I hn1 hn2 hl
  have hn : cells + σ0.2.1 ≤ σ.2.1 ∧ slots + σ0.2.2.1 ≤ σ.2.2.1 := ⟨hn1, hn2⟩
  have hl : lv_has ls 2 [(0, .int v0), (1, .int v1)] := hl
  have hx := X.1
  have hb : c.code = cJ6_numberOfTrailingZeros_0f7a4 := X.2.1
  have hown : s.vm.findClass RJ6 = some m.cls := X.2.2.2.2.2.1
  have hts := X.2.2.2.2.2.2.1
  refine W.eq (g2 := F0 m 34 ls []) rfl ?_
  unfold T_J6_numberOfTrailingZeros_0f7a4_34 at hf
  refine lv_iload_n hx hb dJ6_numberOfTrailingZeros_0f7a4_34 rfl (lv_at hl 0 rfl) ?_
  refine lv_sipush (v := 256) hx hb dJ6_numberOfTrailingZeros_0f7a4_35 (by decide) ?_
  rcases s_ite hf with ⟨c1, hf⟩ | ⟨c1, hf⟩
  · refine lv_icmp_le (tgt := 49) hx hb dJ6_numberOfTrailingZeros_0f7a4_38 (by decide) (fun _ => ?_) (fun n => absurd c1 n)
    cases hf
    have k : s_V G (d + 1) M_J6_numberOfTrailingZeros_0f7a4 vs0 σ0 Y_J6_numberOfTrailingZeros_0f7a4 (49, [.int v0, .int v1], σ) (e_I r) := k
    exact k.2 p e s m below meth c _ _ _ _ _ X I hn.1 hn.2 (lv_sub hl [0, 1] rfl)
  · refine lv_icmp_le (tgt := 49) hx hb dJ6_numberOfTrailingZeros_0f7a4_38 (by decide) (fun n => absurd n c1) (fun _ => ?_)
    cases hf
    have k : s_V G (d + 1) M_J6_numberOfTrailingZeros_0f7a4 vs0 σ0 Y_J6_numberOfTrailingZeros_0f7a4 (49, [.int ((v0 : Int32).toUInt32 >>> ((8 : Int32).toUInt32 &&& Int32.toUInt32 31)).toInt32, .int (v1 + 8)], σ) (e_I r) := k
    refine lv_iinc (v := (v1 + 8)) (lv' := [(1, .int (v1 + 8)), (0, .int v0)]) hx hb dJ6_numberOfTrailingZeros_0f7a4_41 hl (k := 1) rfl rfl (by decide) rfl (fun ls hl => ?_)
    refine lv_iload_n hx hb dJ6_numberOfTrailingZeros_0f7a4_44 rfl (lv_at hl 1 rfl) ?_
    refine lv_bipush (v := 8) hx hb dJ6_numberOfTrailingZeros_0f7a4_45 (by decide) ?_
    refine lv_iushr hx hb dJ6_numberOfTrailingZeros_0f7a4_47 rfl ?_
    refine lv_istore_n (lv' := [(0, .int ((v0 : Int32).toUInt32 >>> ((8 : Int32).toUInt32 &&& Int32.toUInt32 31)).toInt32), (1, .int (v1 + 8))]) hx hb dJ6_numberOfTrailingZeros_0f7a4_48 rfl hl (by decide) rfl (fun ls hl => ?_)
    exact k.2 p e s m below meth c _ _ _ _ _ X I hn.1 hn.2 (lv_sub hl [0, 1] rfl)
set_option maxRecDepth 100000 in
set_option maxHeartbeats 4000000 in
theorem v_J6_numberOfTrailingZeros_0f7a4_49 {G : sG} {d : Nat} {vs0 : List Value} {σ0 : sS} {v0 : Int32} {v1 : Int32} {σ : sS} {z : sZ Int32} {r : Int32 × sS} (hf : T_J6_numberOfTrailingZeros_0f7a4_49 v0 v1 σ = some z) (k : s_K G (d + 1) M_J6_numberOfTrailingZeros_0f7a4 vs0 σ0 Y_J6_numberOfTrailingZeros_0f7a4 e_I z r) : s_V G (d + 1) M_J6_numberOfTrailingZeros_0f7a4 vs0 σ0 Y_J6_numberOfTrailingZeros_0f7a4 (49, [.int v0, .int v1], σ) (e_I r) := by
  have le0 : s_le σ (e_I r).2 := s_lek hem_I (l_J6_numberOfTrailingZeros_0f7a4_49 hf) k
  refine ⟨le0, ?_⟩
  intro p e s m below meth c H locs cells slots ls X I hn1 hn2 hl
  have hn : cells + σ0.2.1 ≤ σ.2.1 ∧ slots + σ0.2.2.1 ≤ σ.2.2.1 := ⟨hn1, hn2⟩
  have hl : lv_has ls 2 [(0, .int v0), (1, .int v1)] := hl
  have hx := X.1
  have hb : c.code = cJ6_numberOfTrailingZeros_0f7a4 := X.2.1
  have hown : s.vm.findClass RJ6 = some m.cls := X.2.2.2.2.2.1
  have hts := X.2.2.2.2.2.2.1
  refine W.eq (g2 := F0 m 49 ls []) rfl ?_
  unfold T_J6_numberOfTrailingZeros_0f7a4_49 at hf
  refine lv_iload_n hx hb dJ6_numberOfTrailingZeros_0f7a4_49 rfl (lv_at hl 0 rfl) ?_
  refine lv_bipush (v := 16) hx hb dJ6_numberOfTrailingZeros_0f7a4_50 (by decide) ?_
  rcases s_ite hf with ⟨c1, hf⟩ | ⟨c1, hf⟩
  · refine lv_icmp_le (tgt := 62) hx hb dJ6_numberOfTrailingZeros_0f7a4_52 (by decide) (fun _ => ?_) (fun n => absurd c1 n)
    cases hf
    have k : s_V G (d + 1) M_J6_numberOfTrailingZeros_0f7a4 vs0 σ0 Y_J6_numberOfTrailingZeros_0f7a4 (62, [.int v0, .int v1], σ) (e_I r) := k
    exact k.2 p e s m below meth c _ _ _ _ _ X I hn.1 hn.2 (lv_sub hl [0, 1] rfl)
  · refine lv_icmp_le (tgt := 62) hx hb dJ6_numberOfTrailingZeros_0f7a4_52 (by decide) (fun n => absurd n c1) (fun _ => ?_)
    cases hf
    have k : s_V G (d + 1) M_J6_numberOfTrailingZeros_0f7a4 vs0 σ0 Y_J6_numberOfTrailingZeros_0f7a4 (62, [.int ((v0 : Int32).toUInt32 >>> ((4 : Int32).toUInt32 &&& Int32.toUInt32 31)).toInt32, .int (v1 + 4)], σ) (e_I r) := k
    refine lv_iinc (v := (v1 + 4)) (lv' := [(1, .int (v1 + 4)), (0, .int v0)]) hx hb dJ6_numberOfTrailingZeros_0f7a4_55 hl (k := 1) rfl rfl (by decide) rfl (fun ls hl => ?_)
    refine lv_iload_n hx hb dJ6_numberOfTrailingZeros_0f7a4_58 rfl (lv_at hl 1 rfl) ?_
    refine lv_iconst (v := 4) hx hb dJ6_numberOfTrailingZeros_0f7a4_59 (by decide) ?_
    refine lv_iushr hx hb dJ6_numberOfTrailingZeros_0f7a4_60 rfl ?_
    refine lv_istore_n (lv' := [(0, .int ((v0 : Int32).toUInt32 >>> ((4 : Int32).toUInt32 &&& Int32.toUInt32 31)).toInt32), (1, .int (v1 + 4))]) hx hb dJ6_numberOfTrailingZeros_0f7a4_61 rfl hl (by decide) rfl (fun ls hl => ?_)
    exact k.2 p e s m below meth c _ _ _ _ _ X I hn.1 hn.2 (lv_sub hl [0, 1] rfl)
set_option maxRecDepth 100000 in
set_option maxHeartbeats 4000000 in
theorem v_J6_numberOfTrailingZeros_0f7a4_62 {G : sG} {d : Nat} {vs0 : List Value} {σ0 : sS} {v0 : Int32} {v1 : Int32} {σ : sS} {z : sZ Int32} {r : Int32 × sS} (hf : T_J6_numberOfTrailingZeros_0f7a4_62 v0 v1 σ = some z) (k : s_K G (d + 1) M_J6_numberOfTrailingZeros_0f7a4 vs0 σ0 Y_J6_numberOfTrailingZeros_0f7a4 e_I z r) : s_V G (d + 1) M_J6_numberOfTrailingZeros_0f7a4 vs0 σ0 Y_J6_numberOfTrailingZeros_0f7a4 (62, [.int v0, .int v1], σ) (e_I r) := by
  have le0 : s_le σ (e_I r).2 := s_lek hem_I (l_J6_numberOfTrailingZeros_0f7a4_62 hf) k
  refine ⟨le0, ?_⟩
  intro p e s m below meth c H locs cells slots ls X I hn1 hn2 hl
  have hn : cells + σ0.2.1 ≤ σ.2.1 ∧ slots + σ0.2.2.1 ≤ σ.2.2.1 := ⟨hn1, hn2⟩
  have hl : lv_has ls 2 [(0, .int v0), (1, .int v1)] := hl
  have hx := X.1
  have hb : c.code = cJ6_numberOfTrailingZeros_0f7a4 := X.2.1
  have hown : s.vm.findClass RJ6 = some m.cls := X.2.2.2.2.2.1
  have hts := X.2.2.2.2.2.2.1
  refine W.eq (g2 := F0 m 62 ls []) rfl ?_
  unfold T_J6_numberOfTrailingZeros_0f7a4_62 at hf
  refine lv_iload_n hx hb dJ6_numberOfTrailingZeros_0f7a4_62 rfl (lv_at hl 0 rfl) ?_
  refine lv_iconst (v := 4) hx hb dJ6_numberOfTrailingZeros_0f7a4_63 (by decide) ?_
  rcases s_ite hf with ⟨c1, hf⟩ | ⟨c1, hf⟩
  · refine lv_icmp_le (tgt := 74) hx hb dJ6_numberOfTrailingZeros_0f7a4_64 (by decide) (fun _ => ?_) (fun n => absurd c1 n)
    cases hf
    have k : s_V G (d + 1) M_J6_numberOfTrailingZeros_0f7a4 vs0 σ0 Y_J6_numberOfTrailingZeros_0f7a4 (74, [.int v0, .int v1], σ) (e_I r) := k
    exact k.2 p e s m below meth c _ _ _ _ _ X I hn.1 hn.2 (lv_sub hl [0, 1] rfl)
  · refine lv_icmp_le (tgt := 74) hx hb dJ6_numberOfTrailingZeros_0f7a4_64 (by decide) (fun n => absurd n c1) (fun _ => ?_)
    cases hf
    have k : s_V G (d + 1) M_J6_numberOfTrailingZeros_0f7a4 vs0 σ0 Y_J6_numberOfTrailingZeros_0f7a4 (74, [.int ((v0 : Int32).toUInt32 >>> ((2 : Int32).toUInt32 &&& Int32.toUInt32 31)).toInt32, .int (v1 + 2)], σ) (e_I r) := k
    refine lv_iinc (v := (v1 + 2)) (lv' := [(1, .int (v1 + 2)), (0, .int v0)]) hx hb dJ6_numberOfTrailingZeros_0f7a4_67 hl (k := 1) rfl rfl (by decide) rfl (fun ls hl => ?_)
    refine lv_iload_n hx hb dJ6_numberOfTrailingZeros_0f7a4_70 rfl (lv_at hl 1 rfl) ?_
    refine lv_iconst (v := 2) hx hb dJ6_numberOfTrailingZeros_0f7a4_71 (by decide) ?_
    refine lv_iushr hx hb dJ6_numberOfTrailingZeros_0f7a4_72 rfl ?_
    refine lv_istore_n (lv' := [(0, .int ((v0 : Int32).toUInt32 >>> ((2 : Int32).toUInt32 &&& Int32.toUInt32 31)).toInt32), (1, .int (v1 + 2))]) hx hb dJ6_numberOfTrailingZeros_0f7a4_73 rfl hl (by decide) rfl (fun ls hl => ?_)
    exact k.2 p e s m below meth c _ _ _ _ _ X I hn.1 hn.2 (lv_sub hl [0, 1] rfl)
set_option maxRecDepth 100000 in
set_option maxHeartbeats 4000000 in
theorem v_J6_numberOfTrailingZeros_0f7a4_74 {G : sG} {d : Nat} {vs0 : List Value} {σ0 : sS} {v0 : Int32} {v1 : Int32} {σ : sS} {z : sZ Int32} {r : Int32 × sS} (hf : T_J6_numberOfTrailingZeros_0f7a4_74 v0 v1 σ = some z) (k : s_K G (d + 1) M_J6_numberOfTrailingZeros_0f7a4 vs0 σ0 Y_J6_numberOfTrailingZeros_0f7a4 e_I z r) : s_V G (d + 1) M_J6_numberOfTrailingZeros_0f7a4 vs0 σ0 Y_J6_numberOfTrailingZeros_0f7a4 (74, [.int v0, .int v1], σ) (e_I r) := by
  have le0 : s_le σ (e_I r).2 := s_lek hem_I (l_J6_numberOfTrailingZeros_0f7a4_74 hf) k
  refine ⟨le0, ?_⟩
  intro p e s m below meth c H locs cells slots ls X I hn1 hn2 hl
  have hn : cells + σ0.2.1 ≤ σ.2.1 ∧ slots + σ0.2.2.1 ≤ σ.2.2.1 := ⟨hn1, hn2⟩
  have hl : lv_has ls 2 [(0, .int v0), (1, .int v1)] := hl
  have hx := X.1
  have hb : c.code = cJ6_numberOfTrailingZeros_0f7a4 := X.2.1
  have hown : s.vm.findClass RJ6 = some m.cls := X.2.2.2.2.2.1
  have hts := X.2.2.2.2.2.2.1
  refine W.eq (g2 := F0 m 74 ls []) rfl ?_
  unfold T_J6_numberOfTrailingZeros_0f7a4_74 at hf
  cases hf
  have k : _ = r := k
  subst k
  refine lv_iload_n hx hb dJ6_numberOfTrailingZeros_0f7a4_74 rfl (lv_at hl 1 rfl) ?_
  refine lv_iload_n hx hb dJ6_numberOfTrailingZeros_0f7a4_75 rfl (lv_at hl 0 rfl) ?_
  refine lv_iconst (v := 1) hx hb dJ6_numberOfTrailingZeros_0f7a4_76 (by decide) ?_
  refine lv_iushr hx hb dJ6_numberOfTrailingZeros_0f7a4_77 rfl ?_
  refine lv_iadd hx hb dJ6_numberOfTrailingZeros_0f7a4_78 ?_
  exact r_iret X I rfl rfl rfl hn dJ6_numberOfTrailingZeros_0f7a4_79
theorem v_J6_numberOfTrailingZeros_0f7a4 {G : sG} {d : Nat} {vs0 : List Value} {σ0 : sS} {x : sL} {z : sZ Int32} {r : Int32 × sS} (hs : S_J6_numberOfTrailingZeros_0f7a4 x = some z) (k : s_K G (d + 1) M_J6_numberOfTrailingZeros_0f7a4 vs0 σ0 Y_J6_numberOfTrailingZeros_0f7a4 e_I z r) : s_V G (d + 1) M_J6_numberOfTrailingZeros_0f7a4 vs0 σ0 Y_J6_numberOfTrailingZeros_0f7a4 x (e_I r) := by
  obtain ⟨pc, vs, σ⟩ := x
  unfold S_J6_numberOfTrailingZeros_0f7a4 at hs
  dsimp only at hs
  rcases s_ite hs with ⟨c, hs⟩ | ⟨-, hs⟩
  · subst c
    unfold U_J6_numberOfTrailingZeros_0f7a4_0 at hs
    obtain ⟨a0, g0, hs⟩ := s_bind hs
    obtain ⟨u9, ge, hs⟩ := s_bind hs
    rw [g_i_to g0, g_e_to ge]
    exact v_J6_numberOfTrailingZeros_0f7a4_0 hs k
  rcases s_ite hs with ⟨c, hs⟩ | ⟨-, hs⟩
  · subst c
    unfold U_J6_numberOfTrailingZeros_0f7a4_34 at hs
    obtain ⟨a0, g0, hs⟩ := s_bind hs
    obtain ⟨a1, g1, hs⟩ := s_bind hs
    obtain ⟨u9, ge, hs⟩ := s_bind hs
    rw [g_i_to g0, g_i_to g1, g_e_to ge]
    exact v_J6_numberOfTrailingZeros_0f7a4_34 hs k
  rcases s_ite hs with ⟨c, hs⟩ | ⟨-, hs⟩
  · subst c
    unfold U_J6_numberOfTrailingZeros_0f7a4_49 at hs
    obtain ⟨a0, g0, hs⟩ := s_bind hs
    obtain ⟨a1, g1, hs⟩ := s_bind hs
    obtain ⟨u9, ge, hs⟩ := s_bind hs
    rw [g_i_to g0, g_i_to g1, g_e_to ge]
    exact v_J6_numberOfTrailingZeros_0f7a4_49 hs k
  rcases s_ite hs with ⟨c, hs⟩ | ⟨-, hs⟩
  · subst c
    unfold U_J6_numberOfTrailingZeros_0f7a4_62 at hs
    obtain ⟨a0, g0, hs⟩ := s_bind hs
    obtain ⟨a1, g1, hs⟩ := s_bind hs
    obtain ⟨u9, ge, hs⟩ := s_bind hs
    rw [g_i_to g0, g_i_to g1, g_e_to ge]
    exact v_J6_numberOfTrailingZeros_0f7a4_62 hs k
  rcases s_ite hs with ⟨c, hs⟩ | ⟨-, hs⟩
  · subst c
    unfold U_J6_numberOfTrailingZeros_0f7a4_74 at hs
    obtain ⟨a0, g0, hs⟩ := s_bind hs
    obtain ⟨a1, g1, hs⟩ := s_bind hs
    obtain ⟨u9, ge, hs⟩ := s_bind hs
    rw [g_i_to g0, g_i_to g1, g_e_to ge]
    exact v_J6_numberOfTrailingZeros_0f7a4_74 hs k
  cases hs
theorem t_J6_numberOfTrailingZeros_0f7a4 {G : sG} {d : Nat} {v0 : Int32} {σ : sS} {q : Int32 × sS} (h : F_J6_numberOfTrailingZeros_0f7a4 v0 σ = some q) : s_T G (d + 1) M_J6_numberOfTrailingZeros_0f7a4 [.int v0] σ (e_I q) := by
  unfold F_J6_numberOfTrailingZeros_0f7a4 at h
  exact s_ofV rfl (by decide) (Nat.le_of_ble_eq_true rfl) rfl rfl (s_run_ind (V := fun x r => s_V G (d + 1) M_J6_numberOfTrailingZeros_0f7a4 [.int v0] σ Y_J6_numberOfTrailingZeros_0f7a4 x (e_I r)) (fun x z r hs hk => v_J6_numberOfTrailingZeros_0f7a4 hs (by cases z <;> exact hk)) h)
/-! J13_numberOfTrailingZeros_95d88 -/
noncomputable def T_J13_numberOfTrailingZeros_95d88_0 (v0 : Int64) (σ : sS) : Option (sZ Int32) :=
  if ((v0 : Int64).toInt32) = 0 then ((F_J6_numberOfTrailingZeros_0f7a4 ((((v0 : Int64).toUInt64 >>> ((32 : Int32).toInt64.toUInt64 &&& Int64.toUInt64 63)).toInt64 : Int64).toInt32) σ).bind fun q2 =>
  some (.inr ((32 + q2.1), q2.2)))
  else ((F_J6_numberOfTrailingZeros_0f7a4 ((v0 : Int64).toInt32) σ).bind fun q1 =>
  some (.inr (q1.1, q1.2)))
noncomputable def U_J13_numberOfTrailingZeros_95d88_0 (vs : List Value) (σ : sS) : Option (sZ Int32) := (g_l vs).bind fun a0 => (g_e a0.2).bind fun _ => T_J13_numberOfTrailingZeros_95d88_0 a0.1 σ
noncomputable def S_J13_numberOfTrailingZeros_95d88 (x : sL) : Option (sZ Int32) := if x.1 = 0 then U_J13_numberOfTrailingZeros_95d88_0 x.2.1 x.2.2 else none
def Y_J13_numberOfTrailingZeros_95d88 (pc : Nat) : List Nat := if pc = 0 then [0] else []
noncomputable def F_J13_numberOfTrailingZeros_95d88 (v0 : Int64) (σ : sS) : Option (Int32 × sS) := s_run S_J13_numberOfTrailingZeros_95d88 (0, [.long v0], σ)
theorem l_J13_numberOfTrailingZeros_95d88_0 {v0 : Int64} {σ : sS} {z : sZ Int32} (hf : T_J13_numberOfTrailingZeros_95d88_0 v0 σ = some z) : s_lz σ z := by
  unfold T_J13_numberOfTrailingZeros_95d88_0 at hf
  rcases s_ite hf with ⟨-, hf⟩ | ⟨-, hf⟩
  · obtain ⟨q2, hh, hf⟩ := s_bind hf
    refine s_lz.tr (l_J6_numberOfTrailingZeros_0f7a4 hh) ?_
    cases hf
    exact s_le.rf
  · obtain ⟨q1, hh, hf⟩ := s_bind hf
    refine s_lz.tr (l_J6_numberOfTrailingZeros_0f7a4 hh) ?_
    cases hf
    exact s_le.rf
theorem l_J13_numberOfTrailingZeros_95d88_s {x : sL} {z : sZ Int32} (hs : S_J13_numberOfTrailingZeros_95d88 x = some z) : s_lz x.2.2 z := by
  obtain ⟨pc, vs, σ⟩ := x
  unfold S_J13_numberOfTrailingZeros_95d88 at hs
  dsimp only at hs ⊢
  rcases s_ite hs with ⟨c, hs⟩ | ⟨-, hs⟩
  · subst c
    unfold U_J13_numberOfTrailingZeros_95d88_0 at hs
    obtain ⟨a0, g0, hs⟩ := s_bind hs
    obtain ⟨u9, ge, hs⟩ := s_bind hs
    exact l_J13_numberOfTrailingZeros_95d88_0 hs
  cases hs
theorem l_J13_numberOfTrailingZeros_95d88 {v0 : Int64} {σ : sS} {q : Int32 × sS} (h : F_J13_numberOfTrailingZeros_95d88 v0 σ = some q) : s_le σ q.2 := by
  unfold F_J13_numberOfTrailingZeros_95d88 at h
  exact s_run_ind (V := fun x r => s_le x.2.2 r.2) (fun x z r hs hk => by
    have h9 := l_J13_numberOfTrailingZeros_95d88_s hs
    cases z with
    | inl y => exact s_le.tr h9 hk
    | inr q => cases hk; exact h9) h
set_option maxRecDepth 100000 in
set_option maxHeartbeats 4000000 in
theorem v_J13_numberOfTrailingZeros_95d88_0 {G : sG} {d : Nat} {vs0 : List Value} {σ0 : sS} {v0 : Int64} {σ : sS} {z : sZ Int32} {r : Int32 × sS} (hf : T_J13_numberOfTrailingZeros_95d88_0 v0 σ = some z) (k : s_K G (d + 2) M_J13_numberOfTrailingZeros_95d88 vs0 σ0 Y_J13_numberOfTrailingZeros_95d88 e_I z r) : s_V G (d + 2) M_J13_numberOfTrailingZeros_95d88 vs0 σ0 Y_J13_numberOfTrailingZeros_95d88 (0, [.long v0], σ) (e_I r) := by
  have le0 : s_le σ (e_I r).2 := s_lek hem_I (l_J13_numberOfTrailingZeros_95d88_0 hf) k
  refine ⟨le0, ?_⟩
  intro p e s m below meth c H locs cells slots ls X I hn1 hn2 hl
  have hn : cells + σ0.2.1 ≤ σ.2.1 ∧ slots + σ0.2.2.1 ≤ σ.2.2.1 := ⟨hn1, hn2⟩
  have hl : lv_has ls 3 [(0, .long v0)] := hl
  have hx := X.1
  have hb : c.code = cJ13_numberOfTrailingZeros_95d88 := X.2.1
  have hown : s.vm.findClass RJ13 = some m.cls := X.2.2.2.2.2.1
  have hts := X.2.2.2.2.2.2.1
  refine W.eq (g2 := F0 m 0 ls []) rfl ?_
  unfold T_J13_numberOfTrailingZeros_95d88_0 at hf
  refine lv_lload_n hx hb dJ13_numberOfTrailingZeros_95d88_0 rfl (lv_at hl 0 rfl) ?_
  refine lv_l2i hx hb dJ13_numberOfTrailingZeros_95d88_1 rfl ?_
  refine lv_istore_n (lv' := [(2, .int ((v0 : Int64).toInt32)), (0, .long v0)]) hx hb dJ13_numberOfTrailingZeros_95d88_2 rfl hl (by decide) rfl (fun ls hl => ?_)
  refine lv_iload_n hx hb dJ13_numberOfTrailingZeros_95d88_3 rfl (lv_at hl 0 rfl) ?_
  rcases s_ite hf with ⟨c1, hf⟩ | ⟨c1, hf⟩
  · refine lv_if_ne (tgt := 21) hx hb dJ13_numberOfTrailingZeros_95d88_4 (by decide) (fun n => absurd c1 n) (fun _ => ?_)
    obtain ⟨q2, h2, hf⟩ := s_bind hf
    cases hf
    have k : _ = r := k
    subst k
    have le3 : s_le q2.2 q2.2 := s_le.rf
    refine lv_bipush (v := 32) hx hb dJ13_numberOfTrailingZeros_95d88_7 (by decide) ?_
    refine lv_lload_n hx hb dJ13_numberOfTrailingZeros_95d88_9 rfl (lv_at hl 1 rfl) ?_
    refine lv_bipush (v := 32) hx hb dJ13_numberOfTrailingZeros_95d88_10 (by decide) ?_
    refine lv_lushr hx hb dJ13_numberOfTrailingZeros_95d88_12 rfl ?_
    refine lv_l2i hx hb dJ13_numberOfTrailingZeros_95d88_13 rfl ?_
    refine r_callS (Y := M_J6_numberOfTrailingZeros_0f7a4) (v := some (.int q2.1)) X I w_1261 my_J6_numberOfTrailingZeros_0f7a4 (by omega) (t_J6_numberOfTrailingZeros_0f7a4 (G := G) (d := d + 0) h2) rfl rfl hl.1 rfl (Nat.le_of_ble_eq_true rfl) hn le3 dJ13_numberOfTrailingZeros_95d88_14 (fun H locs cells slots I hn1 hn2 => ?_)
    have I : s_I G q2.2 s H locs := I
    have hn : cells + σ0.2.1 ≤ q2.2.2.1 ∧ slots + σ0.2.2.1 ≤ q2.2.2.2.1 := ⟨hn1, hn2⟩
    refine lv_iadd hx hb dJ13_numberOfTrailingZeros_95d88_17 ?_
    refine lv_goto (tgt := 25) hx hb dJ13_numberOfTrailingZeros_95d88_18 (by decide) ?_
    exact r_iret X I rfl rfl rfl hn dJ13_numberOfTrailingZeros_95d88_25
  · refine lv_if_ne (tgt := 21) hx hb dJ13_numberOfTrailingZeros_95d88_4 (by decide) (fun _ => ?_) (fun n => absurd n c1)
    obtain ⟨q1, h4, hf⟩ := s_bind hf
    cases hf
    have k : _ = r := k
    subst k
    have le5 : s_le q1.2 q1.2 := s_le.rf
    refine lv_iload_n hx hb dJ13_numberOfTrailingZeros_95d88_21 rfl (lv_at hl 0 rfl) ?_
    refine r_callS (Y := M_J6_numberOfTrailingZeros_0f7a4) (v := some (.int q1.1)) X I w_1261 my_J6_numberOfTrailingZeros_0f7a4 (by omega) (t_J6_numberOfTrailingZeros_0f7a4 (G := G) (d := d + 0) h4) rfl rfl hl.1 rfl (Nat.le_of_ble_eq_true rfl) hn le5 dJ13_numberOfTrailingZeros_95d88_22 (fun H locs cells slots I hn1 hn2 => ?_)
    have I : s_I G q1.2 s H locs := I
    have hn : cells + σ0.2.1 ≤ q1.2.2.1 ∧ slots + σ0.2.2.1 ≤ q1.2.2.2.1 := ⟨hn1, hn2⟩
    exact r_iret X I rfl rfl rfl hn dJ13_numberOfTrailingZeros_95d88_25
theorem v_J13_numberOfTrailingZeros_95d88 {G : sG} {d : Nat} {vs0 : List Value} {σ0 : sS} {x : sL} {z : sZ Int32} {r : Int32 × sS} (hs : S_J13_numberOfTrailingZeros_95d88 x = some z) (k : s_K G (d + 2) M_J13_numberOfTrailingZeros_95d88 vs0 σ0 Y_J13_numberOfTrailingZeros_95d88 e_I z r) : s_V G (d + 2) M_J13_numberOfTrailingZeros_95d88 vs0 σ0 Y_J13_numberOfTrailingZeros_95d88 x (e_I r) := by
  obtain ⟨pc, vs, σ⟩ := x
  unfold S_J13_numberOfTrailingZeros_95d88 at hs
  dsimp only at hs
  rcases s_ite hs with ⟨c, hs⟩ | ⟨-, hs⟩
  · subst c
    unfold U_J13_numberOfTrailingZeros_95d88_0 at hs
    obtain ⟨a0, g0, hs⟩ := s_bind hs
    obtain ⟨u9, ge, hs⟩ := s_bind hs
    rw [g_l_to g0, g_e_to ge]
    exact v_J13_numberOfTrailingZeros_95d88_0 hs k
  cases hs
theorem t_J13_numberOfTrailingZeros_95d88 {G : sG} {d : Nat} {v0 : Int64} {σ : sS} {q : Int32 × sS} (h : F_J13_numberOfTrailingZeros_95d88 v0 σ = some q) : s_T G (d + 2) M_J13_numberOfTrailingZeros_95d88 [.long v0] σ (e_I q) := by
  unfold F_J13_numberOfTrailingZeros_95d88 at h
  exact s_ofV rfl (by decide) (Nat.le_of_ble_eq_true rfl) rfl rfl (s_run_ind (V := fun x r => s_V G (d + 2) M_J13_numberOfTrailingZeros_95d88 [.long v0] σ Y_J13_numberOfTrailingZeros_95d88 x (e_I r)) (fun x z r hs hk => v_J13_numberOfTrailingZeros_95d88 hs (by cases z <;> exact hk)) h)
/-! J6_bitCount_0f7a4 -/
noncomputable def T_J6_bitCount_0f7a4_0 (v0 : Int32) (σ : sS) : Option (sZ Int32) :=
  some (.inr (((((((((v0 - (((v0 : Int32).toUInt32 >>> ((1 : Int32).toUInt32 &&& Int32.toUInt32 31)).toInt32 &&& 1431655765)) &&& 858993459) + ((((v0 - (((v0 : Int32).toUInt32 >>> ((1 : Int32).toUInt32 &&& Int32.toUInt32 31)).toInt32 &&& 1431655765)) : Int32).toUInt32 >>> ((2 : Int32).toUInt32 &&& Int32.toUInt32 31)).toInt32 &&& 858993459)) + (((((v0 - (((v0 : Int32).toUInt32 >>> ((1 : Int32).toUInt32 &&& Int32.toUInt32 31)).toInt32 &&& 1431655765)) &&& 858993459) + ((((v0 - (((v0 : Int32).toUInt32 >>> ((1 : Int32).toUInt32 &&& Int32.toUInt32 31)).toInt32 &&& 1431655765)) : Int32).toUInt32 >>> ((2 : Int32).toUInt32 &&& Int32.toUInt32 31)).toInt32 &&& 858993459)) : Int32).toUInt32 >>> ((4 : Int32).toUInt32 &&& Int32.toUInt32 31)).toInt32) &&& 252645135) + (((((((v0 - (((v0 : Int32).toUInt32 >>> ((1 : Int32).toUInt32 &&& Int32.toUInt32 31)).toInt32 &&& 1431655765)) &&& 858993459) + ((((v0 - (((v0 : Int32).toUInt32 >>> ((1 : Int32).toUInt32 &&& Int32.toUInt32 31)).toInt32 &&& 1431655765)) : Int32).toUInt32 >>> ((2 : Int32).toUInt32 &&& Int32.toUInt32 31)).toInt32 &&& 858993459)) + (((((v0 - (((v0 : Int32).toUInt32 >>> ((1 : Int32).toUInt32 &&& Int32.toUInt32 31)).toInt32 &&& 1431655765)) &&& 858993459) + ((((v0 - (((v0 : Int32).toUInt32 >>> ((1 : Int32).toUInt32 &&& Int32.toUInt32 31)).toInt32 &&& 1431655765)) : Int32).toUInt32 >>> ((2 : Int32).toUInt32 &&& Int32.toUInt32 31)).toInt32 &&& 858993459)) : Int32).toUInt32 >>> ((4 : Int32).toUInt32 &&& Int32.toUInt32 31)).toInt32) &&& 252645135) : Int32).toUInt32 >>> ((8 : Int32).toUInt32 &&& Int32.toUInt32 31)).toInt32) + ((((((((v0 - (((v0 : Int32).toUInt32 >>> ((1 : Int32).toUInt32 &&& Int32.toUInt32 31)).toInt32 &&& 1431655765)) &&& 858993459) + ((((v0 - (((v0 : Int32).toUInt32 >>> ((1 : Int32).toUInt32 &&& Int32.toUInt32 31)).toInt32 &&& 1431655765)) : Int32).toUInt32 >>> ((2 : Int32).toUInt32 &&& Int32.toUInt32 31)).toInt32 &&& 858993459)) + (((((v0 - (((v0 : Int32).toUInt32 >>> ((1 : Int32).toUInt32 &&& Int32.toUInt32 31)).toInt32 &&& 1431655765)) &&& 858993459) + ((((v0 - (((v0 : Int32).toUInt32 >>> ((1 : Int32).toUInt32 &&& Int32.toUInt32 31)).toInt32 &&& 1431655765)) : Int32).toUInt32 >>> ((2 : Int32).toUInt32 &&& Int32.toUInt32 31)).toInt32 &&& 858993459)) : Int32).toUInt32 >>> ((4 : Int32).toUInt32 &&& Int32.toUInt32 31)).toInt32) &&& 252645135) + (((((((v0 - (((v0 : Int32).toUInt32 >>> ((1 : Int32).toUInt32 &&& Int32.toUInt32 31)).toInt32 &&& 1431655765)) &&& 858993459) + ((((v0 - (((v0 : Int32).toUInt32 >>> ((1 : Int32).toUInt32 &&& Int32.toUInt32 31)).toInt32 &&& 1431655765)) : Int32).toUInt32 >>> ((2 : Int32).toUInt32 &&& Int32.toUInt32 31)).toInt32 &&& 858993459)) + (((((v0 - (((v0 : Int32).toUInt32 >>> ((1 : Int32).toUInt32 &&& Int32.toUInt32 31)).toInt32 &&& 1431655765)) &&& 858993459) + ((((v0 - (((v0 : Int32).toUInt32 >>> ((1 : Int32).toUInt32 &&& Int32.toUInt32 31)).toInt32 &&& 1431655765)) : Int32).toUInt32 >>> ((2 : Int32).toUInt32 &&& Int32.toUInt32 31)).toInt32 &&& 858993459)) : Int32).toUInt32 >>> ((4 : Int32).toUInt32 &&& Int32.toUInt32 31)).toInt32) &&& 252645135) : Int32).toUInt32 >>> ((8 : Int32).toUInt32 &&& Int32.toUInt32 31)).toInt32) : Int32).toUInt32 >>> ((16 : Int32).toUInt32 &&& Int32.toUInt32 31)).toInt32) &&& 63), σ))
noncomputable def U_J6_bitCount_0f7a4_0 (vs : List Value) (σ : sS) : Option (sZ Int32) := (g_i vs).bind fun a0 => (g_e a0.2).bind fun _ => T_J6_bitCount_0f7a4_0 a0.1 σ
noncomputable def S_J6_bitCount_0f7a4 (x : sL) : Option (sZ Int32) := if x.1 = 0 then U_J6_bitCount_0f7a4_0 x.2.1 x.2.2 else none
def Y_J6_bitCount_0f7a4 (pc : Nat) : List Nat := if pc = 0 then [0] else []
noncomputable def F_J6_bitCount_0f7a4 (v0 : Int32) (σ : sS) : Option (Int32 × sS) := s_run S_J6_bitCount_0f7a4 (0, [.int v0], σ)
theorem l_J6_bitCount_0f7a4_0 {v0 : Int32} {σ : sS} {z : sZ Int32} (hf : T_J6_bitCount_0f7a4_0 v0 σ = some z) : s_lz σ z := by
  unfold T_J6_bitCount_0f7a4_0 at hf
  cases hf
  exact s_le.rf
theorem l_J6_bitCount_0f7a4_s {x : sL} {z : sZ Int32} (hs : S_J6_bitCount_0f7a4 x = some z) : s_lz x.2.2 z := by
  obtain ⟨pc, vs, σ⟩ := x
  unfold S_J6_bitCount_0f7a4 at hs
  dsimp only at hs ⊢
  rcases s_ite hs with ⟨c, hs⟩ | ⟨-, hs⟩
  · subst c
    unfold U_J6_bitCount_0f7a4_0 at hs
    obtain ⟨a0, g0, hs⟩ := s_bind hs
    obtain ⟨u9, ge, hs⟩ := s_bind hs
    exact l_J6_bitCount_0f7a4_0 hs
  cases hs
theorem l_J6_bitCount_0f7a4 {v0 : Int32} {σ : sS} {q : Int32 × sS} (h : F_J6_bitCount_0f7a4 v0 σ = some q) : s_le σ q.2 := by
  unfold F_J6_bitCount_0f7a4 at h
  exact s_run_ind (V := fun x r => s_le x.2.2 r.2) (fun x z r hs hk => by
    have h9 := l_J6_bitCount_0f7a4_s hs
    cases z with
    | inl y => exact s_le.tr h9 hk
    | inr q => cases hk; exact h9) h
set_option maxRecDepth 100000 in
set_option maxHeartbeats 4000000 in
theorem v_J6_bitCount_0f7a4_0 {G : sG} {d : Nat} {vs0 : List Value} {σ0 : sS} {v0 : Int32} {σ : sS} {z : sZ Int32} {r : Int32 × sS} (hf : T_J6_bitCount_0f7a4_0 v0 σ = some z) (k : s_K G (d + 1) M_J6_bitCount_0f7a4 vs0 σ0 Y_J6_bitCount_0f7a4 e_I z r) : s_V G (d + 1) M_J6_bitCount_0f7a4 vs0 σ0 Y_J6_bitCount_0f7a4 (0, [.int v0], σ) (e_I r) := by
  have le0 : s_le σ (e_I r).2 := s_lek hem_I (l_J6_bitCount_0f7a4_0 hf) k
  refine ⟨le0, ?_⟩
  intro p e s m below meth c H locs cells slots ls X I hn1 hn2 hl
  have hn : cells + σ0.2.1 ≤ σ.2.1 ∧ slots + σ0.2.2.1 ≤ σ.2.2.1 := ⟨hn1, hn2⟩
  have hl : lv_has ls 1 [(0, .int v0)] := hl
  have hx := X.1
  have hb : c.code = cJ6_bitCount_0f7a4 := X.2.1
  have hown : s.vm.findClass RJ6 = some m.cls := X.2.2.2.2.2.1
  have hts := X.2.2.2.2.2.2.1
  refine W.eq (g2 := F0 m 0 ls []) rfl ?_
  unfold T_J6_bitCount_0f7a4_0 at hf
  cases hf
  have k : _ = r := k
  subst k
  refine lv_iload_n hx hb dJ6_bitCount_0f7a4_0 rfl (lv_at hl 0 rfl) ?_
  refine lv_iload_n hx hb dJ6_bitCount_0f7a4_1 rfl (lv_at hl 0 rfl) ?_
  refine lv_iconst (v := 1) hx hb dJ6_bitCount_0f7a4_2 (by decide) ?_
  refine lv_iushr hx hb dJ6_bitCount_0f7a4_3 rfl ?_
  refine lv_ldcw (own := RJ6) hx hb hown (hts _ w_671) dJ6_bitCount_0f7a4_4 ?_
  refine lv_iand hx hb dJ6_bitCount_0f7a4_7 ?_
  refine lv_isub hx hb dJ6_bitCount_0f7a4_8 ?_
  refine lv_istore_n (lv' := [(0, .int (v0 - (((v0 : Int32).toUInt32 >>> ((1 : Int32).toUInt32 &&& Int32.toUInt32 31)).toInt32 &&& 1431655765)))]) hx hb dJ6_bitCount_0f7a4_9 rfl hl (by decide) rfl (fun ls hl => ?_)
  refine lv_iload_n hx hb dJ6_bitCount_0f7a4_10 rfl (lv_at hl 0 rfl) ?_
  refine lv_ldcw (own := RJ6) hx hb hown (hts _ w_672) dJ6_bitCount_0f7a4_11 ?_
  refine lv_iand hx hb dJ6_bitCount_0f7a4_14 ?_
  refine lv_iload_n hx hb dJ6_bitCount_0f7a4_15 rfl (lv_at hl 0 rfl) ?_
  refine lv_iconst (v := 2) hx hb dJ6_bitCount_0f7a4_16 (by decide) ?_
  refine lv_iushr hx hb dJ6_bitCount_0f7a4_17 rfl ?_
  refine lv_ldcw (own := RJ6) hx hb hown (hts _ w_672) dJ6_bitCount_0f7a4_18 ?_
  refine lv_iand hx hb dJ6_bitCount_0f7a4_21 ?_
  refine lv_iadd hx hb dJ6_bitCount_0f7a4_22 ?_
  refine lv_istore_n (lv' := [(0, .int (((v0 - (((v0 : Int32).toUInt32 >>> ((1 : Int32).toUInt32 &&& Int32.toUInt32 31)).toInt32 &&& 1431655765)) &&& 858993459) + ((((v0 - (((v0 : Int32).toUInt32 >>> ((1 : Int32).toUInt32 &&& Int32.toUInt32 31)).toInt32 &&& 1431655765)) : Int32).toUInt32 >>> ((2 : Int32).toUInt32 &&& Int32.toUInt32 31)).toInt32 &&& 858993459)))]) hx hb dJ6_bitCount_0f7a4_23 rfl hl (by decide) rfl (fun ls hl => ?_)
  refine lv_iload_n hx hb dJ6_bitCount_0f7a4_24 rfl (lv_at hl 0 rfl) ?_
  refine lv_iload_n hx hb dJ6_bitCount_0f7a4_25 rfl (lv_at hl 0 rfl) ?_
  refine lv_iconst (v := 4) hx hb dJ6_bitCount_0f7a4_26 (by decide) ?_
  refine lv_iushr hx hb dJ6_bitCount_0f7a4_27 rfl ?_
  refine lv_iadd hx hb dJ6_bitCount_0f7a4_28 ?_
  refine lv_ldcw (own := RJ6) hx hb hown (hts _ w_673) dJ6_bitCount_0f7a4_29 ?_
  refine lv_iand hx hb dJ6_bitCount_0f7a4_32 ?_
  refine lv_istore_n (lv' := [(0, .int (((((v0 - (((v0 : Int32).toUInt32 >>> ((1 : Int32).toUInt32 &&& Int32.toUInt32 31)).toInt32 &&& 1431655765)) &&& 858993459) + ((((v0 - (((v0 : Int32).toUInt32 >>> ((1 : Int32).toUInt32 &&& Int32.toUInt32 31)).toInt32 &&& 1431655765)) : Int32).toUInt32 >>> ((2 : Int32).toUInt32 &&& Int32.toUInt32 31)).toInt32 &&& 858993459)) + (((((v0 - (((v0 : Int32).toUInt32 >>> ((1 : Int32).toUInt32 &&& Int32.toUInt32 31)).toInt32 &&& 1431655765)) &&& 858993459) + ((((v0 - (((v0 : Int32).toUInt32 >>> ((1 : Int32).toUInt32 &&& Int32.toUInt32 31)).toInt32 &&& 1431655765)) : Int32).toUInt32 >>> ((2 : Int32).toUInt32 &&& Int32.toUInt32 31)).toInt32 &&& 858993459)) : Int32).toUInt32 >>> ((4 : Int32).toUInt32 &&& Int32.toUInt32 31)).toInt32) &&& 252645135))]) hx hb dJ6_bitCount_0f7a4_33 rfl hl (by decide) rfl (fun ls hl => ?_)
  refine lv_iload_n hx hb dJ6_bitCount_0f7a4_34 rfl (lv_at hl 0 rfl) ?_
  refine lv_iload_n hx hb dJ6_bitCount_0f7a4_35 rfl (lv_at hl 0 rfl) ?_
  refine lv_bipush (v := 8) hx hb dJ6_bitCount_0f7a4_36 (by decide) ?_
  refine lv_iushr hx hb dJ6_bitCount_0f7a4_38 rfl ?_
  refine lv_iadd hx hb dJ6_bitCount_0f7a4_39 ?_
  refine lv_istore_n (lv' := [(0, .int ((((((v0 - (((v0 : Int32).toUInt32 >>> ((1 : Int32).toUInt32 &&& Int32.toUInt32 31)).toInt32 &&& 1431655765)) &&& 858993459) + ((((v0 - (((v0 : Int32).toUInt32 >>> ((1 : Int32).toUInt32 &&& Int32.toUInt32 31)).toInt32 &&& 1431655765)) : Int32).toUInt32 >>> ((2 : Int32).toUInt32 &&& Int32.toUInt32 31)).toInt32 &&& 858993459)) + (((((v0 - (((v0 : Int32).toUInt32 >>> ((1 : Int32).toUInt32 &&& Int32.toUInt32 31)).toInt32 &&& 1431655765)) &&& 858993459) + ((((v0 - (((v0 : Int32).toUInt32 >>> ((1 : Int32).toUInt32 &&& Int32.toUInt32 31)).toInt32 &&& 1431655765)) : Int32).toUInt32 >>> ((2 : Int32).toUInt32 &&& Int32.toUInt32 31)).toInt32 &&& 858993459)) : Int32).toUInt32 >>> ((4 : Int32).toUInt32 &&& Int32.toUInt32 31)).toInt32) &&& 252645135) + (((((((v0 - (((v0 : Int32).toUInt32 >>> ((1 : Int32).toUInt32 &&& Int32.toUInt32 31)).toInt32 &&& 1431655765)) &&& 858993459) + ((((v0 - (((v0 : Int32).toUInt32 >>> ((1 : Int32).toUInt32 &&& Int32.toUInt32 31)).toInt32 &&& 1431655765)) : Int32).toUInt32 >>> ((2 : Int32).toUInt32 &&& Int32.toUInt32 31)).toInt32 &&& 858993459)) + (((((v0 - (((v0 : Int32).toUInt32 >>> ((1 : Int32).toUInt32 &&& Int32.toUInt32 31)).toInt32 &&& 1431655765)) &&& 858993459) + ((((v0 - (((v0 : Int32).toUInt32 >>> ((1 : Int32).toUInt32 &&& Int32.toUInt32 31)).toInt32 &&& 1431655765)) : Int32).toUInt32 >>> ((2 : Int32).toUInt32 &&& Int32.toUInt32 31)).toInt32 &&& 858993459)) : Int32).toUInt32 >>> ((4 : Int32).toUInt32 &&& Int32.toUInt32 31)).toInt32) &&& 252645135) : Int32).toUInt32 >>> ((8 : Int32).toUInt32 &&& Int32.toUInt32 31)).toInt32))]) hx hb dJ6_bitCount_0f7a4_40 rfl hl (by decide) rfl (fun ls hl => ?_)
  refine lv_iload_n hx hb dJ6_bitCount_0f7a4_41 rfl (lv_at hl 0 rfl) ?_
  refine lv_iload_n hx hb dJ6_bitCount_0f7a4_42 rfl (lv_at hl 0 rfl) ?_
  refine lv_bipush (v := 16) hx hb dJ6_bitCount_0f7a4_43 (by decide) ?_
  refine lv_iushr hx hb dJ6_bitCount_0f7a4_45 rfl ?_
  refine lv_iadd hx hb dJ6_bitCount_0f7a4_46 ?_
  refine lv_istore_n (lv' := [(0, .int (((((((v0 - (((v0 : Int32).toUInt32 >>> ((1 : Int32).toUInt32 &&& Int32.toUInt32 31)).toInt32 &&& 1431655765)) &&& 858993459) + ((((v0 - (((v0 : Int32).toUInt32 >>> ((1 : Int32).toUInt32 &&& Int32.toUInt32 31)).toInt32 &&& 1431655765)) : Int32).toUInt32 >>> ((2 : Int32).toUInt32 &&& Int32.toUInt32 31)).toInt32 &&& 858993459)) + (((((v0 - (((v0 : Int32).toUInt32 >>> ((1 : Int32).toUInt32 &&& Int32.toUInt32 31)).toInt32 &&& 1431655765)) &&& 858993459) + ((((v0 - (((v0 : Int32).toUInt32 >>> ((1 : Int32).toUInt32 &&& Int32.toUInt32 31)).toInt32 &&& 1431655765)) : Int32).toUInt32 >>> ((2 : Int32).toUInt32 &&& Int32.toUInt32 31)).toInt32 &&& 858993459)) : Int32).toUInt32 >>> ((4 : Int32).toUInt32 &&& Int32.toUInt32 31)).toInt32) &&& 252645135) + (((((((v0 - (((v0 : Int32).toUInt32 >>> ((1 : Int32).toUInt32 &&& Int32.toUInt32 31)).toInt32 &&& 1431655765)) &&& 858993459) + ((((v0 - (((v0 : Int32).toUInt32 >>> ((1 : Int32).toUInt32 &&& Int32.toUInt32 31)).toInt32 &&& 1431655765)) : Int32).toUInt32 >>> ((2 : Int32).toUInt32 &&& Int32.toUInt32 31)).toInt32 &&& 858993459)) + (((((v0 - (((v0 : Int32).toUInt32 >>> ((1 : Int32).toUInt32 &&& Int32.toUInt32 31)).toInt32 &&& 1431655765)) &&& 858993459) + ((((v0 - (((v0 : Int32).toUInt32 >>> ((1 : Int32).toUInt32 &&& Int32.toUInt32 31)).toInt32 &&& 1431655765)) : Int32).toUInt32 >>> ((2 : Int32).toUInt32 &&& Int32.toUInt32 31)).toInt32 &&& 858993459)) : Int32).toUInt32 >>> ((4 : Int32).toUInt32 &&& Int32.toUInt32 31)).toInt32) &&& 252645135) : Int32).toUInt32 >>> ((8 : Int32).toUInt32 &&& Int32.toUInt32 31)).toInt32) + ((((((((v0 - (((v0 : Int32).toUInt32 >>> ((1 : Int32).toUInt32 &&& Int32.toUInt32 31)).toInt32 &&& 1431655765)) &&& 858993459) + ((((v0 - (((v0 : Int32).toUInt32 >>> ((1 : Int32).toUInt32 &&& Int32.toUInt32 31)).toInt32 &&& 1431655765)) : Int32).toUInt32 >>> ((2 : Int32).toUInt32 &&& Int32.toUInt32 31)).toInt32 &&& 858993459)) + (((((v0 - (((v0 : Int32).toUInt32 >>> ((1 : Int32).toUInt32 &&& Int32.toUInt32 31)).toInt32 &&& 1431655765)) &&& 858993459) + ((((v0 - (((v0 : Int32).toUInt32 >>> ((1 : Int32).toUInt32 &&& Int32.toUInt32 31)).toInt32 &&& 1431655765)) : Int32).toUInt32 >>> ((2 : Int32).toUInt32 &&& Int32.toUInt32 31)).toInt32 &&& 858993459)) : Int32).toUInt32 >>> ((4 : Int32).toUInt32 &&& Int32.toUInt32 31)).toInt32) &&& 252645135) + (((((((v0 - (((v0 : Int32).toUInt32 >>> ((1 : Int32).toUInt32 &&& Int32.toUInt32 31)).toInt32 &&& 1431655765)) &&& 858993459) + ((((v0 - (((v0 : Int32).toUInt32 >>> ((1 : Int32).toUInt32 &&& Int32.toUInt32 31)).toInt32 &&& 1431655765)) : Int32).toUInt32 >>> ((2 : Int32).toUInt32 &&& Int32.toUInt32 31)).toInt32 &&& 858993459)) + (((((v0 - (((v0 : Int32).toUInt32 >>> ((1 : Int32).toUInt32 &&& Int32.toUInt32 31)).toInt32 &&& 1431655765)) &&& 858993459) + ((((v0 - (((v0 : Int32).toUInt32 >>> ((1 : Int32).toUInt32 &&& Int32.toUInt32 31)).toInt32 &&& 1431655765)) : Int32).toUInt32 >>> ((2 : Int32).toUInt32 &&& Int32.toUInt32 31)).toInt32 &&& 858993459)) : Int32).toUInt32 >>> ((4 : Int32).toUInt32 &&& Int32.toUInt32 31)).toInt32) &&& 252645135) : Int32).toUInt32 >>> ((8 : Int32).toUInt32 &&& Int32.toUInt32 31)).toInt32) : Int32).toUInt32 >>> ((16 : Int32).toUInt32 &&& Int32.toUInt32 31)).toInt32))]) hx hb dJ6_bitCount_0f7a4_47 rfl hl (by decide) rfl (fun ls hl => ?_)
  refine lv_iload_n hx hb dJ6_bitCount_0f7a4_48 rfl (lv_at hl 0 rfl) ?_
  refine lv_bipush (v := 63) hx hb dJ6_bitCount_0f7a4_49 (by decide) ?_
  refine lv_iand hx hb dJ6_bitCount_0f7a4_51 ?_
  exact r_iret X I rfl rfl rfl hn dJ6_bitCount_0f7a4_52
theorem v_J6_bitCount_0f7a4 {G : sG} {d : Nat} {vs0 : List Value} {σ0 : sS} {x : sL} {z : sZ Int32} {r : Int32 × sS} (hs : S_J6_bitCount_0f7a4 x = some z) (k : s_K G (d + 1) M_J6_bitCount_0f7a4 vs0 σ0 Y_J6_bitCount_0f7a4 e_I z r) : s_V G (d + 1) M_J6_bitCount_0f7a4 vs0 σ0 Y_J6_bitCount_0f7a4 x (e_I r) := by
  obtain ⟨pc, vs, σ⟩ := x
  unfold S_J6_bitCount_0f7a4 at hs
  dsimp only at hs
  rcases s_ite hs with ⟨c, hs⟩ | ⟨-, hs⟩
  · subst c
    unfold U_J6_bitCount_0f7a4_0 at hs
    obtain ⟨a0, g0, hs⟩ := s_bind hs
    obtain ⟨u9, ge, hs⟩ := s_bind hs
    rw [g_i_to g0, g_e_to ge]
    exact v_J6_bitCount_0f7a4_0 hs k
  cases hs
theorem t_J6_bitCount_0f7a4 {G : sG} {d : Nat} {v0 : Int32} {σ : sS} {q : Int32 × sS} (h : F_J6_bitCount_0f7a4 v0 σ = some q) : s_T G (d + 1) M_J6_bitCount_0f7a4 [.int v0] σ (e_I q) := by
  unfold F_J6_bitCount_0f7a4 at h
  exact s_ofV rfl (by decide) (Nat.le_of_ble_eq_true rfl) rfl rfl (s_run_ind (V := fun x r => s_V G (d + 1) M_J6_bitCount_0f7a4 [.int v0] σ Y_J6_bitCount_0f7a4 x (e_I r)) (fun x z r hs hk => v_J6_bitCount_0f7a4 hs (by cases z <;> exact hk)) h)
