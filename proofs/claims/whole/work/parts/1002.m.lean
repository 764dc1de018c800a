/-! X3_alikeTo -/
noncomputable def T_X3_alikeTo_0 (v0 : Nat) (v1 : Int32) (σ : sS) : Option (sZ Int32) :=
  some (.inl (4, [.ref v0, .int v1, .int 0, .int 0], σ))
noncomputable def U_X3_alikeTo_0 (vs : List Value) (σ : sS) : Option (sZ Int32) := (g_r vs).bind fun a0 => (g_i a0.2).bind fun a1 => (g_e a1.2).bind fun _ => T_X3_alikeTo_0 a0.1 a1.1 σ
noncomputable def T_X3_alikeTo_4 (v0 : Nat) (v1 : Int32) (v2 : Int32) (v3 : Int32) (σ : sS) : Option (sZ Int32) :=
  (s_fr σ v0 3 0).bind fun x1 =>
  (s_fi σ x1 1 2).bind fun x2 =>
  if x2 ≤ v3 then (some (.inr (v2, σ)))
  else ((F_X3_holdAlike v0 v1 v3 σ).bind fun q3 =>
  if q3.1 = 0 then (some (.inl (30, [.ref v0, .int v1, .int v2, .int v3], q3.2)))
  else (some (.inl (30, [.ref v0, .int v1, .int (v2 ||| (1 <<< (v3 &&& 31))), .int v3], q3.2))))
noncomputable def U_X3_alikeTo_4 (vs : List Value) (σ : sS) : Option (sZ Int32) := (g_r vs).bind fun a0 => (g_i a0.2).bind fun a1 => (g_i a1.2).bind fun a2 => (g_i a2.2).bind fun a3 => (g_e a3.2).bind fun _ => T_X3_alikeTo_4 a0.1 a1.1 a2.1 a3.1 σ
noncomputable def T_X3_alikeTo_30 (v0 : Nat) (v1 : Int32) (v2 : Int32) (v3 : Int32) (σ : sS) : Option (sZ Int32) :=
  some (.inl (4, [.ref v0, .int v1, .int v2, .int (v3 + 1)], σ))
noncomputable def U_X3_alikeTo_30 (vs : List Value) (σ : sS) : Option (sZ Int32) := (g_r vs).bind fun a0 => (g_i a0.2).bind fun a1 => (g_i a1.2).bind fun a2 => (g_i a2.2).bind fun a3 => (g_e a3.2).bind fun _ => T_X3_alikeTo_30 a0.1 a1.1 a2.1 a3.1 σ
noncomputable def S_X3_alikeTo (x : sL) : Option (sZ Int32) := if x.1 = 0 then U_X3_alikeTo_0 x.2.1 x.2.2 else if x.1 = 4 then U_X3_alikeTo_4 x.2.1 x.2.2 else if x.1 = 30 then U_X3_alikeTo_30 x.2.1 x.2.2 else none
def Y_X3_alikeTo (pc : Nat) : List Nat := if pc = 0 then [0, 1] else if pc = 4 then [0, 1, 2, 3] else if pc = 30 then [0, 1, 2, 3] else []
noncomputable def F_X3_alikeTo (v0 : Nat) (v1 : Int32) (σ : sS) : Option (Int32 × sS) := (s_is σ v0 3).bind fun _ => s_run S_X3_alikeTo (0, [.ref v0, .int v1], σ)
theorem l_X3_alikeTo_0 {v0 : Nat} {v1 : Int32} {σ : sS} {z : sZ Int32} (hf : T_X3_alikeTo_0 v0 v1 σ = some z) : s_lz σ z := by
  unfold T_X3_alikeTo_0 at hf
  cases hf
  exact s_le.rf
theorem l_X3_alikeTo_4 {v0 : Nat} {v1 : Int32} {v2 : Int32} {v3 : Int32} {σ : sS} {z : sZ Int32} (hf : T_X3_alikeTo_4 v0 v1 v2 v3 σ = some z) : s_lz σ z := by
  unfold T_X3_alikeTo_4 at hf
  obtain ⟨x1, -, hf⟩ := s_bind hf
  obtain ⟨x2, -, hf⟩ := s_bind hf
  rcases s_ite hf with ⟨-, hf⟩ | ⟨-, hf⟩
  · cases hf
    exact s_le.rf
  · obtain ⟨q3, hh, hf⟩ := s_bind hf
    refine s_lz.tr (l_X3_holdAlike hh) ?_
    rcases s_ite hf with ⟨-, hf⟩ | ⟨-, hf⟩
    · cases hf
      exact s_le.rf
    · cases hf
      exact s_le.rf
theorem l_X3_alikeTo_30 {v0 : Nat} {v1 : Int32} {v2 : Int32} {v3 : Int32} {σ : sS} {z : sZ Int32} (hf : T_X3_alikeTo_30 v0 v1 v2 v3 σ = some z) : s_lz σ z := by
  unfold T_X3_alikeTo_30 at hf
  cases hf
  exact s_le.rf
theorem l_X3_alikeTo_s {x : sL} {z : sZ Int32} (hs : S_X3_alikeTo x = some z) : s_lz x.2.2 z := by
  obtain ⟨pc, vs, σ⟩ := x
  unfold S_X3_alikeTo at hs
  dsimp only at hs ⊢
  rcases s_ite hs with ⟨c, hs⟩ | ⟨-, hs⟩
  · subst c
    unfold U_X3_alikeTo_0 at hs
    obtain ⟨a0, g0, hs⟩ := s_bind hs
    obtain ⟨a1, g1, hs⟩ := s_bind hs
    obtain ⟨u9, ge, hs⟩ := s_bind hs
    exact l_X3_alikeTo_0 hs
  rcases s_ite hs with ⟨c, hs⟩ | ⟨-, hs⟩
  · subst c
    unfold U_X3_alikeTo_4 at hs
    obtain ⟨a0, g0, hs⟩ := s_bind hs
    obtain ⟨a1, g1, hs⟩ := s_bind hs
    obtain ⟨a2, g2, hs⟩ := s_bind hs
    obtain ⟨a3, g3, hs⟩ := s_bind hs
    obtain ⟨u9, ge, hs⟩ := s_bind hs
    exact l_X3_alikeTo_4 hs
  rcases s_ite hs with ⟨c, hs⟩ | ⟨-, hs⟩
  · subst c
    unfold U_X3_alikeTo_30 at hs
    obtain ⟨a0, g0, hs⟩ := s_bind hs
    obtain ⟨a1, g1, hs⟩ := s_bind hs
    obtain ⟨a2, g2, hs⟩ := s_bind hs
    obtain ⟨a3, g3, hs⟩ := s_bind hs
    obtain ⟨u9, ge, hs⟩ := s_bind hs
    exact l_X3_alikeTo_30 hs
  cases hs
theorem l_X3_alikeTo {v0 : Nat} {v1 : Int32} {σ : sS} {q : Int32 × sS} (h : F_X3_alikeTo v0 v1 σ = some q) : s_le σ q.2 := by
  unfold F_X3_alikeTo at h
  obtain ⟨-, -, h⟩ := s_bind h
  exact s_run_ind (V := fun x r => s_le x.2.2 r.2) (fun x z r hs hk => by
    have h9 := l_X3_alikeTo_s hs
    cases z with
    | inl y => exact s_le.tr h9 hk
    | inr q => cases hk; exact h9) h
theorem b_X3_alikeTo {v0 : Nat} {v1 : Int32} {σ : sS} {q : Int32 × sS} (h : F_X3_alikeTo v0 v1 σ = some q) : ∃ fs, σ.1 v0 = some (.inr (3, fs)) := by
  unfold F_X3_alikeTo at h
  obtain ⟨u, hu, -⟩ := s_bind h
  exact s_is_to hu
set_option maxRecDepth 100000 in
set_option maxHeartbeats 4000000 in
theorem v_X3_alikeTo_0 {G : sG} {d : Nat} {vs0 : List Value} {σ0 : sS} {v0 : Nat} {v1 : Int32} {σ : sS} {z : sZ Int32} {r : Int32 × sS} (hf : T_X3_alikeTo_0 v0 v1 σ = some z) (k : s_K G (d + 4) M_X3_alikeTo vs0 σ0 Y_X3_alikeTo e_I z r) : s_V G (d + 4) M_X3_alikeTo vs0 σ0 Y_X3_alikeTo (0, [.ref v0, .int v1], σ) (e_I r) := by
  have le0 : s_le σ (e_I r).2 := s_lek hem_I (l_X3_alikeTo_0 hf) k
  refine ⟨le0, ?_⟩
  intro p e s m below meth c H locs cells slots ls X I hn1 hn2 hl
  have hn : cells + σ0.2.1 ≤ σ.2.1 ∧ slots + σ0.2.2.1 ≤ σ.2.2.1 := ⟨hn1, hn2⟩
  have hl : lv_has ls 4 [(0, .ref v0), (1, .int v1)] := hl
  have hx := X.1
  have hb : c.code = cX3_alikeTo := X.2.1
  have hown : s.vm.findClass RX3 = some m.cls := X.2.2.2.2.2.1
  have hts := X.2.2.2.2.2.2.1
  refine W.eq (g2 := F0 m 0 ls []) rfl ?_
  unfold T_X3_alikeTo_0 at hf
  cases hf
  have k : s_V G (d + 4) M_X3_alikeTo vs0 σ0 Y_X3_alikeTo (4, [.ref v0, .int v1, .int 0, .int 0], σ) (e_I r) := k
  refine lv_iconst (v := 0) hx hb dX3_alikeTo_0 (by decide) ?_
  refine lv_istore_n (lv' := [(2, .int 0), (0, .ref v0), (1, .int v1)]) hx hb dX3_alikeTo_1 rfl hl (by decide) rfl (fun ls hl => ?_)
  refine lv_iconst (v := 0) hx hb dX3_alikeTo_2 (by decide) ?_
  refine lv_istore_n (lv' := [(3, .int 0), (2, .int 0), (0, .ref v0), (1, .int v1)]) hx hb dX3_alikeTo_3 rfl hl (by decide) rfl (fun ls hl => ?_)
  exact k.2 p e s m below meth c _ _ _ _ _ X I hn.1 hn.2 (lv_sub hl [2, 3, 1, 0] rfl)
set_option maxRecDepth 100000 in
set_option maxHeartbeats 4000000 in
theorem v_X3_alikeTo_4 {G : sG} {d : Nat} {vs0 : List Value} {σ0 : sS} {v0 : Nat} {v1 : Int32} {v2 : Int32} {v3 : Int32} {σ : sS} {z : sZ Int32} {r : Int32 × sS} (hf : T_X3_alikeTo_4 v0 v1 v2 v3 σ = some z) (k : s_K G (d + 4) M_X3_alikeTo vs0 σ0 Y_X3_alikeTo e_I z r) : s_V G (d + 4) M_X3_alikeTo vs0 σ0 Y_X3_alikeTo (4, [.ref v0, .int v1, .int v2, .int v3], σ) (e_I r) := by
  have le0 : s_le σ (e_I r).2 := s_lek hem_I (l_X3_alikeTo_4 hf) k
  refine ⟨le0, ?_⟩
  intro p e s m below meth c H locs cells slots ls X I hn1 hn2 hl
  have hn : cells + σ0.2.1 ≤ σ.2.1 ∧ slots + σ0.2.2.1 ≤ σ.2.2.1 := ⟨hn1, hn2⟩
  have hl : lv_has ls 4 [(0, .ref v0), (1, .int v1), (2, .int v2), (3, .int v3)] := hl
  have hx := X.1
  have hb : c.code = cX3_alikeTo := X.2.1
  have hown : s.vm.findClass RX3 = some m.cls := X.2.2.2.2.2.1
  have hts := X.2.2.2.2.2.2.1
  refine W.eq (g2 := F0 m 4 ls []) rfl ?_
  unfold T_X3_alikeTo_4 at hf
  obtain ⟨x1, h1, hf⟩ := s_bind hf
  obtain ⟨x2, h2, hf⟩ := s_bind hf
  refine lv_iload_n hx hb dX3_alikeTo_4 rfl (lv_at hl 3 rfl) ?_
  refine lv_aload_n hx hb dX3_alikeTo_5 rfl (lv_at hl 0 rfl) ?_
  refine r_gr X I fl_X3_30 h1 dX3_alikeTo_6 ?_
  refine r_gi X I fl_X3_48 h2 dX3_alikeTo_9 ?_
  rcases s_ite hf with ⟨c3, hf⟩ | ⟨c3, hf⟩
  · refine lv_icmp_ge (tgt := 36) hx hb dX3_alikeTo_12 (by decide) (fun _ => ?_) (fun n => absurd c3 n)
    cases hf
    have k : _ = r := k
    subst k
    refine lv_iload_n hx hb dX3_alikeTo_36 rfl (lv_at hl 2 rfl) ?_
    exact r_iret X I rfl rfl rfl hn dX3_alikeTo_37
  · refine lv_icmp_ge (tgt := 36) hx hb dX3_alikeTo_12 (by decide) (fun n => absurd n c3) (fun _ => ?_)
    obtain ⟨q3, h4, hf⟩ := s_bind hf
    have le5 : s_le q3.2 (e_I r).2 := by
      refine s_lek hem_I ?_ k
      rcases s_ite hf with ⟨-, hf⟩ | ⟨-, hf⟩
      · cases hf
        exact s_le.rf
      · cases hf
        exact s_le.rf
    refine lv_aload_n hx hb dX3_alikeTo_15 rfl (lv_at hl 0 rfl) ?_
    refine lv_iload_n hx hb dX3_alikeTo_16 rfl (lv_at hl 1 rfl) ?_
    refine lv_iload_n hx hb dX3_alikeTo_17 rfl (lv_at hl 3 rfl) ?_
    refine r_callV (Y := M_X3_holdAlike) (v := some (.int q3.1)) X I w_1516 my_X3_holdAlike (by omega) (t_X3_holdAlike (G := G) (d := d + 0) h4) (b_X3_holdAlike h4) rfl rfl hl.1 rfl (Nat.le_of_ble_eq_true rfl) hn le5 dX3_alikeTo_18 (fun H locs cells slots I hn1 hn2 => ?_)
    have I : s_I G q3.2 s H locs := I
    have hn : cells + σ0.2.1 ≤ q3.2.2.1 ∧ slots + σ0.2.2.1 ≤ q3.2.2.2.1 := ⟨hn1, hn2⟩
    rcases s_ite hf with ⟨c6, hf⟩ | ⟨c6, hf⟩
    · refine lv_if_eq (tgt := 30) hx hb dX3_alikeTo_21 (by decide) (fun _ => ?_) (fun n => absurd c6 n)
      cases hf
      have k : s_V G (d + 4) M_X3_alikeTo vs0 σ0 Y_X3_alikeTo (30, [.ref v0, .int v1, .int v2, .int v3], q3.2) (e_I r) := k
      exact k.2 p e s m below meth c _ _ _ _ _ X I hn.1 hn.2 (lv_sub hl [0, 1, 2, 3] rfl)
    · refine lv_if_eq (tgt := 30) hx hb dX3_alikeTo_21 (by decide) (fun n => absurd n c6) (fun _ => ?_)
      cases hf
      have k : s_V G (d + 4) M_X3_alikeTo vs0 σ0 Y_X3_alikeTo (30, [.ref v0, .int v1, .int (v2 ||| (1 <<< (v3 &&& 31))), .int v3], q3.2) (e_I r) := k
      refine lv_iload_n hx hb dX3_alikeTo_24 rfl (lv_at hl 2 rfl) ?_
      refine lv_iconst (v := 1) hx hb dX3_alikeTo_25 (by decide) ?_
      refine lv_iload_n hx hb dX3_alikeTo_26 rfl (lv_at hl 3 rfl) ?_
      refine lv_ishl hx hb dX3_alikeTo_27 ?_
      refine lv_ior hx hb dX3_alikeTo_28 ?_
      refine lv_istore_n (lv' := [(2, .int (v2 ||| (1 <<< (v3 &&& 31)))), (0, .ref v0), (1, .int v1), (3, .int v3)]) hx hb dX3_alikeTo_29 rfl hl (by decide) rfl (fun ls hl => ?_)
      exact k.2 p e s m below meth c _ _ _ _ _ X I hn.1 hn.2 (lv_sub hl [1, 2, 0, 3] rfl)
set_option maxRecDepth 100000 in
set_option maxHeartbeats 4000000 in
theorem v_X3_alikeTo_30 {G : sG} {d : Nat} {vs0 : List Value} {σ0 : sS} {v0 : Nat} {v1 : Int32} {v2 : Int32} {v3 : Int32} {σ : sS} {z : sZ Int32} {r : Int32 × sS} (hf : T_X3_alikeTo_30 v0 v1 v2 v3 σ = some z) (k : s_K G (d + 4) M_X3_alikeTo vs0 σ0 Y_X3_alikeTo e_I z r) : s_V G (d + 4) M_X3_alikeTo vs0 σ0 Y_X3_alikeTo (30, [.ref v0, .int v1, .int v2, .int v3], σ) (e_I r) := by
  have le0 : s_le σ (e_I r).2 := s_lek hem_I (l_X3_alikeTo_30 hf) k
  refine ⟨le0, ?_⟩
  intro p e s m below meth c H locs cells slots ls X I hn1 hn2 hl
  have hn : cells + σ0.2.1 ≤ σ.2.1 ∧ slots + σ0.2.2.1 ≤ σ.2.2.1 := ⟨hn1, hn2⟩
  have hl : lv_has ls 4 [(0, .ref v0), (1, .int v1), (2, .int v2), (3, .int v3)] := hl
  have hx := X.1
  have hb : c.code = cX3_alikeTo := X.2.1
  have hown : s.vm.findClass RX3 = some m.cls := X.2.2.2.2.2.1
  have hts := X.2.2.2.2.2.2.1
  refine W.eq (g2 := F0 m 30 ls []) rfl ?_
  unfold T_X3_alikeTo_30 at hf
  cases hf
  have k : s_V G (d + 4) M_X3_alikeTo vs0 σ0 Y_X3_alikeTo (4, [.ref v0, .int v1, .int v2, .int (v3 + 1)], σ) (e_I r) := k
  refine lv_iinc (v := (v3 + 1)) (lv' := [(3, .int (v3 + 1)), (0, .ref v0), (1, .int v1), (2, .int v2)]) hx hb dX3_alikeTo_30 hl (k := 3) rfl rfl (by decide) rfl (fun ls hl => ?_)
  refine lv_goto (tgt := 4) hx hb dX3_alikeTo_33 (by decide) ?_
  exact k.2 p e s m below meth c _ _ _ _ _ X I hn.1 hn.2 (lv_sub hl [1, 2, 3, 0] rfl)
theorem v_X3_alikeTo {G : sG} {d : Nat} {vs0 : List Value} {σ0 : sS} {x : sL} {z : sZ Int32} {r : Int32 × sS} (hs : S_X3_alikeTo x = some z) (k : s_K G (d + 4) M_X3_alikeTo vs0 σ0 Y_X3_alikeTo e_I z r) : s_V G (d + 4) M_X3_alikeTo vs0 σ0 Y_X3_alikeTo x (e_I r) := by
  obtain ⟨pc, vs, σ⟩ := x
  unfold S_X3_alikeTo at hs
  dsimp only at hs
  rcases s_ite hs with ⟨c, hs⟩ | ⟨-, hs⟩
  · subst c
    unfold U_X3_alikeTo_0 at hs
    obtain ⟨a0, g0, hs⟩ := s_bind hs
    obtain ⟨a1, g1, hs⟩ := s_bind hs
    obtain ⟨u9, ge, hs⟩ := s_bind hs
    rw [g_r_to g0, g_i_to g1, g_e_to ge]
    exact v_X3_alikeTo_0 hs k
  rcases s_ite hs with ⟨c, hs⟩ | ⟨-, hs⟩
  · subst c
    unfold U_X3_alikeTo_4 at hs
    obtain ⟨a0, g0, hs⟩ := s_bind hs
    obtain ⟨a1, g1, hs⟩ := s_bind hs
    obtain ⟨a2, g2, hs⟩ := s_bind hs
    obtain ⟨a3, g3, hs⟩ := s_bind hs
    obtain ⟨u9, ge, hs⟩ := s_bind hs
    rw [g_r_to g0, g_i_to g1, g_i_to g2, g_i_to g3, g_e_to ge]
    exact v_X3_alikeTo_4 hs k
  rcases s_ite hs with ⟨c, hs⟩ | ⟨-, hs⟩
  · subst c
    unfold U_X3_alikeTo_30 at hs
    obtain ⟨a0, g0, hs⟩ := s_bind hs
    obtain ⟨a1, g1, hs⟩ := s_bind hs
    obtain ⟨a2, g2, hs⟩ := s_bind hs
    obtain ⟨a3, g3, hs⟩ := s_bind hs
    obtain ⟨u9, ge, hs⟩ := s_bind hs
    rw [g_r_to g0, g_i_to g1, g_i_to g2, g_i_to g3, g_e_to ge]
    exact v_X3_alikeTo_30 hs k
  cases hs
theorem t_X3_alikeTo {G : sG} {d : Nat} {v0 : Nat} {v1 : Int32} {σ : sS} {q : Int32 × sS} (h : F_X3_alikeTo v0 v1 σ = some q) : s_T G (d + 4) M_X3_alikeTo [.ref v0, .int v1] σ (e_I q) := by
  unfold F_X3_alikeTo at h
  obtain ⟨-, -, h⟩ := s_bind h
  exact s_ofV rfl (by decide) (Nat.le_of_ble_eq_true rfl) rfl rfl (s_run_ind (V := fun x r => s_V G (d + 4) M_X3_alikeTo [.ref v0, .int v1] σ Y_X3_alikeTo x (e_I r)) (fun x z r hs hk => v_X3_alikeTo hs (by cases z <;> exact hk)) h)
/-! X7_alike -/
noncomputable def T_X7_alike_0 (v0 : Nat) (v1 : Int32) (σ : sS) : Option (sZ (Int32 ⊕ String)) :=
  (F_X7_needFormula v0 v1 σ).bind fun q1 => s_sum q1.1 (fun x2 => (s_fr q1.2 v0 7 4).bind fun x4 =>
  (F_X3_alikeTo x4 v1 q1.2).bind fun q5 =>
  some (.inr (.inl q5.1, q5.2))) (fun E3 => some (.inr (.inr E3, q1.2)))
noncomputable def U_X7_alike_0 (vs : List Value) (σ : sS) : Option (sZ (Int32 ⊕ String)) := (g_r vs).bind fun a0 => (g_i a0.2).bind fun a1 => (g_e a1.2).bind fun _ => T_X7_alike_0 a0.1 a1.1 σ
noncomputable def S_X7_alike (x : sL) : Option (sZ (Int32 ⊕ String)) := if x.1 = 0 then U_X7_alike_0 x.2.1 x.2.2 else none
def Y_X7_alike (pc : Nat) : List Nat := if pc = 0 then [0, 1] else []
noncomputable def F_X7_alike (v0 : Nat) (v1 : Int32) (σ : sS) : Option ((Int32 ⊕ String) × sS) := (s_is σ v0 7).bind fun _ => s_run S_X7_alike (0, [.ref v0, .int v1], σ)
theorem l_X7_alike_0 {v0 : Nat} {v1 : Int32} {σ : sS} {z : sZ (Int32 ⊕ String)} (hf : T_X7_alike_0 v0 v1 σ = some z) : s_lz σ z := by
  unfold T_X7_alike_0 at hf
  obtain ⟨q1, hh, hf⟩ := s_bind hf
  refine s_lz.tr (l_X7_needFormula hh) ?_
  rcases s_sum_some hf with ⟨x2, -, hf⟩ | ⟨E3, -, hf⟩
  · obtain ⟨x4, -, hf⟩ := s_bind hf
    obtain ⟨q5, hh, hf⟩ := s_bind hf
    refine s_lz.tr (l_X3_alikeTo hh) ?_
    cases hf
    exact s_le.rf
  · cases hf
    exact s_le.rf
theorem l_X7_alike_s {x : sL} {z : sZ (Int32 ⊕ String)} (hs : S_X7_alike x = some z) : s_lz x.2.2 z := by
  obtain ⟨pc, vs, σ⟩ := x
  unfold S_X7_alike at hs
  dsimp only at hs ⊢
  rcases s_ite hs with ⟨c, hs⟩ | ⟨-, hs⟩
  · subst c
    unfold U_X7_alike_0 at hs
    obtain ⟨a0, g0, hs⟩ := s_bind hs
    obtain ⟨a1, g1, hs⟩ := s_bind hs
    obtain ⟨u9, ge, hs⟩ := s_bind hs
    exact l_X7_alike_0 hs
  cases hs
theorem l_X7_alike {v0 : Nat} {v1 : Int32} {σ : sS} {q : (Int32 ⊕ String) × sS} (h : F_X7_alike v0 v1 σ = some q) : s_le σ q.2 := by
  unfold F_X7_alike at h
  obtain ⟨-, -, h⟩ := s_bind h
  exact s_run_ind (V := fun x r => s_le x.2.2 r.2) (fun x z r hs hk => by
    have h9 := l_X7_alike_s hs
    cases z with
    | inl y => exact s_le.tr h9 hk
    | inr q => cases hk; exact h9) h
theorem b_X7_alike {v0 : Nat} {v1 : Int32} {σ : sS} {q : (Int32 ⊕ String) × sS} (h : F_X7_alike v0 v1 σ = some q) : ∃ fs, σ.1 v0 = some (.inr (7, fs)) := by
  unfold F_X7_alike at h
  obtain ⟨u, hu, -⟩ := s_bind h
  exact s_is_to hu
set_option maxRecDepth 100000 in
set_option maxHeartbeats 4000000 in
theorem v_X7_alike_0 {G : sG} {d : Nat} {vs0 : List Value} {σ0 : sS} {v0 : Nat} {v1 : Int32} {σ : sS} {z : sZ (Int32 ⊕ String)} {r : (Int32 ⊕ String) × sS} (hf : T_X7_alike_0 v0 v1 σ = some z) (k : s_K G (d + 5) M_X7_alike vs0 σ0 Y_X7_alike e_IX z r) : s_V G (d + 5) M_X7_alike vs0 σ0 Y_X7_alike (0, [.ref v0, .int v1], σ) (e_IX r) := by
  have le0 : s_le σ (e_IX r).2 := s_lek hem_IX (l_X7_alike_0 hf) k
  refine ⟨le0, ?_⟩
  intro p e s m below meth c H locs cells slots ls X I hn1 hn2 hl
  have hn : cells + σ0.2.1 ≤ σ.2.1 ∧ slots + σ0.2.2.1 ≤ σ.2.2.1 := ⟨hn1, hn2⟩
  have hl : lv_has ls 2 [(0, .ref v0), (1, .int v1)] := hl
  have hx := X.1
  have hb : c.code = cX7_alike := X.2.1
  have hown : s.vm.findClass RX7 = some m.cls := X.2.2.2.2.2.1
  have hts := X.2.2.2.2.2.2.1
  refine W.eq (g2 := F0 m 0 ls []) rfl ?_
  unfold T_X7_alike_0 at hf
  obtain ⟨q1, h1, hf⟩ := s_bind hf
  refine lv_aload_n hx hb dX7_alike_0 rfl (lv_at hl 0 rfl) ?_
  refine lv_iload_n hx hb dX7_alike_1 rfl (lv_at hl 1 rfl) ?_
  rcases s_sum_some hf with ⟨x2, hq2, hf⟩ | ⟨E3, hq2, hf⟩
  · have le3 : s_le q1.2 (e_IX r).2 := by
      refine s_lek hem_IX ?_ k
      obtain ⟨x4, -, hf⟩ := s_bind hf
      obtain ⟨q5, hh, hf⟩ := s_bind hf
      refine s_lz.tr (l_X3_alikeTo hh) ?_
      cases hf
      exact s_le.rf
    refine r_callV (Y := M_X7_needFormula) (v := none) X I w_1016 my_X7_needFormula (by omega) (t_X7_needFormula (G := G) (d := d + 3) h1) (b_X7_needFormula h1) (e_VX_l hq2) rfl hl.1 rfl (Nat.le_of_ble_eq_true rfl) hn le3 dX7_alike_2 (fun H locs cells slots I hn1 hn2 => ?_)
    have I : s_I G q1.2 s H locs := I
    have hn : cells + σ0.2.1 ≤ q1.2.2.1 ∧ slots + σ0.2.2.1 ≤ q1.2.2.2.1 := ⟨hn1, hn2⟩
    obtain ⟨x4, h4, hf⟩ := s_bind hf
    obtain ⟨q5, h5, hf⟩ := s_bind hf
    cases hf
    have k : _ = r := k
    subst k
    have le6 : s_le q5.2 q5.2 := s_le.rf
    refine lv_aload_n hx hb dX7_alike_5 rfl (lv_at hl 0 rfl) ?_
    refine r_gr X I fl_X7_40 h4 dX7_alike_6 ?_
    refine lv_iload_n hx hb dX7_alike_9 rfl (lv_at hl 1 rfl) ?_
    refine r_callV (Y := M_X3_alikeTo) (v := some (.int q5.1)) X I w_1512 my_X3_alikeTo (by omega) (t_X3_alikeTo (G := G) (d := d + 0) h5) (b_X3_alikeTo h5) rfl rfl hl.1 rfl (Nat.le_of_ble_eq_true rfl) hn le6 dX7_alike_10 (fun H locs cells slots I hn1 hn2 => ?_)
    have I : s_I G q5.2 s H locs := I
    have hn : cells + σ0.2.1 ≤ q5.2.2.1 ∧ slots + σ0.2.2.1 ≤ q5.2.2.2.1 := ⟨hn1, hn2⟩
    exact r_iret X I rfl rfl rfl hn dX7_alike_13
  · cases hf
    have k : _ = r := k
    subst k
    exact r_callVx (Y := M_X7_needFormula) X I rfl w_1016 my_X7_needFormula (by omega) (t_X7_needFormula (G := G) (d := d + 3) h1) (b_X7_needFormula h1) (e_VX_r hq2) rfl hl.1 rfl (Nat.le_of_ble_eq_true rfl) hn rfl dX7_alike_2
theorem v_X7_alike {G : sG} {d : Nat} {vs0 : List Value} {σ0 : sS} {x : sL} {z : sZ (Int32 ⊕ String)} {r : (Int32 ⊕ String) × sS} (hs : S_X7_alike x = some z) (k : s_K G (d + 5) M_X7_alike vs0 σ0 Y_X7_alike e_IX z r) : s_V G (d + 5) M_X7_alike vs0 σ0 Y_X7_alike x (e_IX r) := by
  obtain ⟨pc, vs, σ⟩ := x
  unfold S_X7_alike at hs
  dsimp only at hs
  rcases s_ite hs with ⟨c, hs⟩ | ⟨-, hs⟩
  · subst c
    unfold U_X7_alike_0 at hs
    obtain ⟨a0, g0, hs⟩ := s_bind hs
    obtain ⟨a1, g1, hs⟩ := s_bind hs
    obtain ⟨u9, ge, hs⟩ := s_bind hs
    rw [g_r_to g0, g_i_to g1, g_e_to ge]
    exact v_X7_alike_0 hs k
  cases hs
theorem t_X7_alike {G : sG} {d : Nat} {v0 : Nat} {v1 : Int32} {σ : sS} {q : (Int32 ⊕ String) × sS} (h : F_X7_alike v0 v1 σ = some q) : s_T G (d + 5) M_X7_alike [.ref v0, .int v1] σ (e_IX q) := by
  unfold F_X7_alike at h
  obtain ⟨-, -, h⟩ := s_bind h
  exact s_ofV rfl (by decide) (Nat.le_of_ble_eq_true rfl) rfl rfl (s_run_ind (V := fun x r => s_V G (d + 5) M_X7_alike [.ref v0, .int v1] σ Y_X7_alike x (e_IX r)) (fun x z r hs hk => v_X7_alike hs (by cases z <;> exact hk)) h)
/-! L_alike -/
noncomputable def T_L_alike_0 (v0 : Nat) (v1 : Int32) (v2 : Nat) (σ : sS) : Option (sZ Int32) :=
  (F_X7_alike v0 v1 σ).bind fun q1 => s_sum q1.1 (fun x2 => (s_sl q1.2 v2 0 ((x2 : Int32).toInt64)).bind fun σ4 =>
  some (.inr (0, σ4))) (fun E3 => if E3 = "java/lang/IndexOutOfBoundsException" then (some (.inr (1, q1.2))) else none)
noncomputable def U_L_alike_0 (vs : List Value) (σ : sS) : Option (sZ Int32) := (g_r vs).bind fun a0 => (g_i a0.2).bind fun a1 => (g_r a1.2).bind fun a2 => (g_e a2.2).bind fun _ => T_L_alike_0 a0.1 a1.1 a2.1 σ
noncomputable def S_L_alike (x : sL) : Option (sZ Int32) := if x.1 = 0 then U_L_alike_0 x.2.1 x.2.2 else none
def Y_L_alike (pc : Nat) : List Nat := if pc = 0 then [0, 1, 2] else []
noncomputable def F_L_alike (v0 : Nat) (v1 : Int32) (v2 : Nat) (σ : sS) : Option (Int32 × sS) := s_run S_L_alike (0, [.ref v0, .int v1, .ref v2], σ)
theorem l_L_alike_0 {v0 : Nat} {v1 : Int32} {v2 : Nat} {σ : sS} {z : sZ Int32} (hf : T_L_alike_0 v0 v1 v2 σ = some z) : s_lz σ z := by
  unfold T_L_alike_0 at hf
  obtain ⟨q1, hh, hf⟩ := s_bind hf
  refine s_lz.tr (l_X7_alike hh) ?_
  rcases s_sum_some hf with ⟨x2, -, hf⟩ | ⟨E3, -, hf⟩
  · obtain ⟨σ4, hh, hf⟩ := s_bind hf
    refine s_lz.tr (s_le2 (s_sl_2 hh)) ?_
    cases hf
    exact s_le.rf
  · rcases s_ite hf with ⟨-, hf⟩ | ⟨-, hf⟩
    · cases hf
      exact s_le.rf
    cases hf
theorem l_L_alike_s {x : sL} {z : sZ Int32} (hs : S_L_alike x = some z) : s_lz x.2.2 z := by
  obtain ⟨pc, vs, σ⟩ := x
  unfold S_L_alike at hs
  dsimp only at hs ⊢
  rcases s_ite hs with ⟨c, hs⟩ | ⟨-, hs⟩
  · subst c
    unfold U_L_alike_0 at hs
    obtain ⟨a0, g0, hs⟩ := s_bind hs
    obtain ⟨a1, g1, hs⟩ := s_bind hs
    obtain ⟨a2, g2, hs⟩ := s_bind hs
    obtain ⟨u9, ge, hs⟩ := s_bind hs
    exact l_L_alike_0 hs
  cases hs
theorem l_L_alike {v0 : Nat} {v1 : Int32} {v2 : Nat} {σ : sS} {q : Int32 × sS} (h : F_L_alike v0 v1 v2 σ = some q) : s_le σ q.2 := by
  unfold F_L_alike at h
  exact s_run_ind (V := fun x r => s_le x.2.2 r.2) (fun x z r hs hk => by
    have h9 := l_L_alike_s hs
    cases z with
    | inl y => exact s_le.tr h9 hk
    | inr q => cases hk; exact h9) h
set_option maxRecDepth 100000 in
set_option maxHeartbeats 4000000 in
theorem v_L_alike_0 {G : sG} {d : Nat} {vs0 : List Value} {σ0 : sS} {v0 : Nat} {v1 : Int32} {v2 : Nat} {σ : sS} {z : sZ Int32} {r : Int32 × sS} (hf : T_L_alike_0 v0 v1 v2 σ = some z) (k : s_K G (d + 6) M_L_alike vs0 σ0 Y_L_alike e_I z r) : s_V G (d + 6) M_L_alike vs0 σ0 Y_L_alike (0, [.ref v0, .int v1, .ref v2], σ) (e_I r) := by
  have le0 : s_le σ (e_I r).2 := s_lek hem_I (l_L_alike_0 hf) k
  refine ⟨le0, ?_⟩
  intro p e s m below meth c H locs cells slots ls X I hn1 hn2 hl
  have hn : cells + σ0.2.1 ≤ σ.2.1 ∧ slots + σ0.2.2.1 ≤ σ.2.2.1 := ⟨hn1, hn2⟩
  have hl : lv_has ls 4 [(0, .ref v0), (1, .int v1), (2, .ref v2)] := hl
  have hx := X.1
  have hb : c.code = cL_alike := X.2.1
  have hown : s.vm.findClass RL = some m.cls := X.2.2.2.2.2.1
  have hts := X.2.2.2.2.2.2.1
  refine W.eq (g2 := F0 m 0 ls []) rfl ?_
  unfold T_L_alike_0 at hf
  obtain ⟨q1, h1, hf⟩ := s_bind hf
  refine lv_aload_n hx hb dL_alike_0 rfl (lv_at hl 2 rfl) ?_
  refine lv_iconst (v := 0) hx hb dL_alike_1 (by decide) ?_
  refine lv_aload_n hx hb dL_alike_2 rfl (lv_at hl 0 rfl) ?_
  refine lv_iload_n hx hb dL_alike_3 rfl (lv_at hl 1 rfl) ?_
  rcases s_sum_some hf with ⟨x2, hq2, hf⟩ | ⟨E3, hq2, hf⟩
  · have le3 : s_le q1.2 (e_I r).2 := by
      refine s_lek hem_I ?_ k
      obtain ⟨σ4, hh, hf⟩ := s_bind hf
      refine s_lz.tr (s_le2 (s_sl_2 hh)) ?_
      cases hf
      exact s_le.rf
    refine r_callV (Y := M_X7_alike) (v := some (.int x2)) X I w_1508 my_X7_alike (by omega) (t_X7_alike (G := G) (d := d + 0) h1) (b_X7_alike h1) (e_IX_l hq2) rfl hl.1 rfl (Nat.le_of_ble_eq_true rfl) hn le3 dL_alike_4 (fun H locs cells slots I hn1 hn2 => ?_)
    have I : s_I G q1.2 s H locs := I
    have hn : cells + σ0.2.1 ≤ q1.2.2.1 ∧ slots + σ0.2.2.1 ≤ q1.2.2.2.1 := ⟨hn1, hn2⟩
    obtain ⟨σ4, h4, hf⟩ := s_bind hf
    cases hf
    have k : _ = r := k
    subst k
    have le5 : s_le σ4 σ4 := s_le.rf
    refine lv_i2l hx hb dL_alike_7 rfl ?_
    refine r_last X I h4 dL_alike_8 (fun H locs I => ?_)
    have hn := s_k2 (s_sl_2 h4) hn
    refine lv_goto (tgt := 15) hx hb dL_alike_9 (by decide) ?_
    refine lv_iconst (v := 0) hx hb dL_alike_15 (by decide) ?_
    exact r_iret X I rfl rfl rfl hn dL_alike_16
  · rcases s_ite hf with ⟨c6, hf⟩ | ⟨c6, hf⟩
    · subst c6
      have le7 : s_le q1.2 (e_I r).2 := by
        refine s_lek hem_I ?_ k
        cases hf
        exact s_le.rf
      refine r_callVh (x := (0, 9, 12, 27)) (Y := M_X7_alike) (E := "java/lang/IndexOutOfBoundsException") (name := "java/lang/IndexOutOfBoundsException") X I [] [] rfl (fun z hz => by cases hz) rfl (by decide) w_1011 (by decide +kernel) w_1508 my_X7_alike (by omega) (t_X7_alike (G := G) (d := d + 0) h1) (b_X7_alike h1) (e_IX_r hq2) rfl hl.1 rfl (Nat.le_of_ble_eq_true rfl) hn le7 dL_alike_4 (fun a5 H locs cells slots I hn1 hn2 => ?_)
      have I : s_I G q1.2 s H locs := I
      have hn : cells + σ0.2.1 ≤ q1.2.2.1 ∧ slots + σ0.2.2.1 ≤ q1.2.2.2.1 := ⟨hn1, hn2⟩
      cases hf
      have k : _ = r := k
      subst k
      refine lv_astore_n (lv' := [(3, .ref a5), (0, .ref v0), (1, .int v1), (2, .ref v2)]) hx hb dL_alike_12 rfl hl (by decide) rfl (fun ls hl => ?_)
      refine lv_iconst (v := 1) hx hb dL_alike_13 (by decide) ?_
      exact r_iret X I rfl rfl rfl hn dL_alike_14
    cases hf
theorem v_L_alike {G : sG} {d : Nat} {vs0 : List Value} {σ0 : sS} {x : sL} {z : sZ Int32} {r : Int32 × sS} (hs : S_L_alike x = some z) (k : s_K G (d + 6) M_L_alike vs0 σ0 Y_L_alike e_I z r) : s_V G (d + 6) M_L_alike vs0 σ0 Y_L_alike x (e_I r) := by
  obtain ⟨pc, vs, σ⟩ := x
  unfold S_L_alike at hs
  dsimp only at hs
  rcases s_ite hs with ⟨c, hs⟩ | ⟨-, hs⟩
  · subst c
    unfold U_L_alike_0 at hs
    obtain ⟨a0, g0, hs⟩ := s_bind hs
    obtain ⟨a1, g1, hs⟩ := s_bind hs
    obtain ⟨a2, g2, hs⟩ := s_bind hs
    obtain ⟨u9, ge, hs⟩ := s_bind hs
    rw [g_r_to g0, g_i_to g1, g_r_to g2, g_e_to ge]
    exact v_L_alike_0 hs k
  cases hs
theorem t_L_alike {G : sG} {d : Nat} {v0 : Nat} {v1 : Int32} {v2 : Nat} {σ : sS} {q : Int32 × sS} (h : F_L_alike v0 v1 v2 σ = some q) : s_T G (d + 6) M_L_alike [.ref v0, .int v1, .ref v2] σ (e_I q) := by
  unfold F_L_alike at h
  exact s_ofVH rfl (by decide) (Nat.le_of_ble_eq_true rfl) rfl rfl (s_run_ind (V := fun x r => s_V G (d + 6) M_L_alike [.ref v0, .int v1, .ref v2] σ Y_L_alike x (e_I r)) (fun x z r hs hk => v_L_alike hs (by cases z <;> exact hk)) h)
/-! X7_beliefs -/
noncomputable def T_X7_beliefs_0 (v0 : Nat) (v1 : Int32) (σ : sS) : Option (sZ (Int32 ⊕ String)) :=
  (F_X7_needCustomer v0 v1 σ).bind fun q1 => s_sum q1.1 (fun x2 => (s_fr q1.2 v0 7 1).bind fun x4 =>
  (s_fr q1.2 x4 1 5).bind fun x5 =>
  (s_ai q1.2 x5 v1).bind fun x6 =>
  some (.inr (.inl x6, q1.2))) (fun E3 => some (.inr (.inr E3, q1.2)))
noncomputable def U_X7_beliefs_0 (vs : List Value) (σ : sS) : Option (sZ (Int32 ⊕ String)) := (g_r vs).bind fun a0 => (g_i a0.2).bind fun a1 => (g_e a1.2).bind fun _ => T_X7_beliefs_0 a0.1 a1.1 σ
noncomputable def S_X7_beliefs (x : sL) : Option (sZ (Int32 ⊕ String)) := if x.1 = 0 then U_X7_beliefs_0 x.2.1 x.2.2 else none
def Y_X7_beliefs (pc : Nat) : List Nat := if pc = 0 then [0, 1] else []
noncomputable def F_X7_beliefs (v0 : Nat) (v1 : Int32) (σ : sS) : Option ((Int32 ⊕ String) × sS) := (s_is σ v0 7).bind fun _ => s_run S_X7_beliefs (0, [.ref v0, .int v1], σ)
theorem l_X7_beliefs_0 {v0 : Nat} {v1 : Int32} {σ : sS} {z : sZ (Int32 ⊕ String)} (hf : T_X7_beliefs_0 v0 v1 σ = some z) : s_lz σ z := by
  unfold T_X7_beliefs_0 at hf
  obtain ⟨q1, hh, hf⟩ := s_bind hf
  refine s_lz.tr (l_X7_needCustomer hh) ?_
  rcases s_sum_some hf with ⟨x2, -, hf⟩ | ⟨E3, -, hf⟩
  · obtain ⟨x4, -, hf⟩ := s_bind hf
    obtain ⟨x5, -, hf⟩ := s_bind hf
    obtain ⟨x6, -, hf⟩ := s_bind hf
    cases hf
    exact s_le.rf
  · cases hf
    exact s_le.rf
theorem l_X7_beliefs_s {x : sL} {z : sZ (Int32 ⊕ String)} (hs : S_X7_beliefs x = some z) : s_lz x.2.2 z := by
  obtain ⟨pc, vs, σ⟩ := x
  unfold S_X7_beliefs at hs
  dsimp only at hs ⊢
  rcases s_ite hs with ⟨c, hs⟩ | ⟨-, hs⟩
  · subst c
    unfold U_X7_beliefs_0 at hs
    obtain ⟨a0, g0, hs⟩ := s_bind hs
    obtain ⟨a1, g1, hs⟩ := s_bind hs
    obtain ⟨u9, ge, hs⟩ := s_bind hs
    exact l_X7_beliefs_0 hs
  cases hs
theorem l_X7_beliefs {v0 : Nat} {v1 : Int32} {σ : sS} {q : (Int32 ⊕ String) × sS} (h : F_X7_beliefs v0 v1 σ = some q) : s_le σ q.2 := by
  unfold F_X7_beliefs at h
  obtain ⟨-, -, h⟩ := s_bind h
  exact s_run_ind (V := fun x r => s_le x.2.2 r.2) (fun x z r hs hk => by
    have h9 := l_X7_beliefs_s hs
    cases z with
    | inl y => exact s_le.tr h9 hk
    | inr q => cases hk; exact h9) h
theorem b_X7_beliefs {v0 : Nat} {v1 : Int32} {σ : sS} {q : (Int32 ⊕ String) × sS} (h : F_X7_beliefs v0 v1 σ = some q) : ∃ fs, σ.1 v0 = some (.inr (7, fs)) := by
  unfold F_X7_beliefs at h
  obtain ⟨u, hu, -⟩ := s_bind h
  exact s_is_to hu
set_option maxRecDepth 100000 in
set_option maxHeartbeats 4000000 in
theorem v_X7_beliefs_0 {G : sG} {d : Nat} {vs0 : List Value} {σ0 : sS} {v0 : Nat} {v1 : Int32} {σ : sS} {z : sZ (Int32 ⊕ String)} {r : (Int32 ⊕ String) × sS} (hf : T_X7_beliefs_0 v0 v1 σ = some z) (k : s_K G (d + 2) M_X7_beliefs vs0 σ0 Y_X7_beliefs e_IX z r) : s_V G (d + 2) M_X7_beliefs vs0 σ0 Y_X7_beliefs (0, [.ref v0, .int v1], σ) (e_IX r) := by
  have le0 : s_le σ (e_IX r).2 := s_lek hem_IX (l_X7_beliefs_0 hf) k
  refine ⟨le0, ?_⟩
  intro p e s m below meth c H locs cells slots ls X I hn1 hn2 hl
  have hn : cells + σ0.2.1 ≤ σ.2.1 ∧ slots + σ0.2.2.1 ≤ σ.2.2.1 := ⟨hn1, hn2⟩
  have hl : lv_has ls 2 [(0, .ref v0), (1, .int v1)] := hl
  have hx := X.1
  have hb : c.code = cX7_beliefs := X.2.1
  have hown : s.vm.findClass RX7 = some m.cls := X.2.2.2.2.2.1
  have hts := X.2.2.2.2.2.2.1
  refine W.eq (g2 := F0 m 0 ls []) rfl ?_
  unfold T_X7_beliefs_0 at hf
  obtain ⟨q1, h1, hf⟩ := s_bind hf
  refine lv_aload_n hx hb dX7_beliefs_0 rfl (lv_at hl 0 rfl) ?_
  refine lv_iload_n hx hb dX7_beliefs_1 rfl (lv_at hl 1 rfl) ?_
  rcases s_sum_some hf with ⟨x2, hq2, hf⟩ | ⟨E3, hq2, hf⟩
  · have le3 : s_le q1.2 (e_IX r).2 := by
      refine s_lek hem_IX ?_ k
      obtain ⟨x4, -, hf⟩ := s_bind hf
      obtain ⟨x5, -, hf⟩ := s_bind hf
      obtain ⟨x6, -, hf⟩ := s_bind hf
      cases hf
      exact s_le.rf
    refine r_callV (Y := M_X7_needCustomer) (v := none) X I w_1115 my_X7_needCustomer (by omega) (t_X7_needCustomer (G := G) (d := d + 0) h1) (b_X7_needCustomer h1) (e_VX_l hq2) rfl hl.1 rfl (Nat.le_of_ble_eq_true rfl) hn le3 dX7_beliefs_2 (fun H locs cells slots I hn1 hn2 => ?_)
    have I : s_I G q1.2 s H locs := I
    have hn : cells + σ0.2.1 ≤ q1.2.2.1 ∧ slots + σ0.2.2.1 ≤ q1.2.2.2.1 := ⟨hn1, hn2⟩
    obtain ⟨x4, h4, hf⟩ := s_bind hf
    obtain ⟨x5, h5, hf⟩ := s_bind hf
    obtain ⟨x6, h6, hf⟩ := s_bind hf
    cases hf
    have k : _ = r := k
    subst k
    refine lv_aload_n hx hb dX7_beliefs_5 rfl (lv_at hl 0 rfl) ?_
    refine r_gr X I fl_X7_19 h4 dX7_beliefs_6 ?_
    refine r_gr X I fl_X7_174 h5 dX7_beliefs_9 ?_
    refine lv_iload_n hx hb dX7_beliefs_12 rfl (lv_at hl 1 rfl) ?_
    refine r_iald X I h6 dX7_beliefs_13 ?_
    exact r_iret X I rfl rfl rfl hn dX7_beliefs_14
  · cases hf
    have k : _ = r := k
    subst k
    exact r_callVx (Y := M_X7_needCustomer) X I rfl w_1115 my_X7_needCustomer (by omega) (t_X7_needCustomer (G := G) (d := d + 0) h1) (b_X7_needCustomer h1) (e_VX_r hq2) rfl hl.1 rfl (Nat.le_of_ble_eq_true rfl) hn rfl dX7_beliefs_2
theorem v_X7_beliefs {G : sG} {d : Nat} {vs0 : List Value} {σ0 : sS} {x : sL} {z : sZ (Int32 ⊕ String)} {r : (Int32 ⊕ String) × sS} (hs : S_X7_beliefs x = some z) (k : s_K G (d + 2) M_X7_beliefs vs0 σ0 Y_X7_beliefs e_IX z r) : s_V G (d + 2) M_X7_beliefs vs0 σ0 Y_X7_beliefs x (e_IX r) := by
  obtain ⟨pc, vs, σ⟩ := x
  unfold S_X7_beliefs at hs
  dsimp only at hs
  rcases s_ite hs with ⟨c, hs⟩ | ⟨-, hs⟩
  · subst c
    unfold U_X7_beliefs_0 at hs
    obtain ⟨a0, g0, hs⟩ := s_bind hs
    obtain ⟨a1, g1, hs⟩ := s_bind hs
    obtain ⟨u9, ge, hs⟩ := s_bind hs
    rw [g_r_to g0, g_i_to g1, g_e_to ge]
    exact v_X7_beliefs_0 hs k
  cases hs
theorem t_X7_beliefs {G : sG} {d : Nat} {v0 : Nat} {v1 : Int32} {σ : sS} {q : (Int32 ⊕ String) × sS} (h : F_X7_beliefs v0 v1 σ = some q) : s_T G (d + 2) M_X7_beliefs [.ref v0, .int v1] σ (e_IX q) := by
  unfold F_X7_beliefs at h
  obtain ⟨-, -, h⟩ := s_bind h
  exact s_ofV rfl (by decide) (Nat.le_of_ble_eq_true rfl) rfl rfl (s_run_ind (V := fun x r => s_V G (d + 2) M_X7_beliefs [.ref v0, .int v1] σ Y_X7_beliefs x (e_IX r)) (fun x z r hs hk => v_X7_beliefs hs (by cases z <;> exact hk)) h)
/-! L_beliefs -/
noncomputable def T_L_beliefs_0 (v0 : Nat) (v1 : Int32) (v2 : Nat) (σ : sS) : Option (sZ Int32) :=
  (F_X7_beliefs v0 v1 σ).bind fun q1 => s_sum q1.1 (fun x2 => (s_sl q1.2 v2 0 ((x2 : Int32).toInt64)).bind fun σ4 =>
  some (.inr (0, σ4))) (fun E3 => if E3 = "java/lang/IndexOutOfBoundsException" then (some (.inr (1, q1.2))) else none)
noncomputable def U_L_beliefs_0 (vs : List Value) (σ : sS) : Option (sZ Int32) := (g_r vs).bind fun a0 => (g_i a0.2).bind fun a1 => (g_r a1.2).bind fun a2 => (g_e a2.2).bind fun _ => T_L_beliefs_0 a0.1 a1.1 a2.1 σ
noncomputable def S_L_beliefs (x : sL) : Option (sZ Int32) := if x.1 = 0 then U_L_beliefs_0 x.2.1 x.2.2 else none
def Y_L_beliefs (pc : Nat) : List Nat := if pc = 0 then [0, 1, 2] else []
noncomputable def F_L_beliefs (v0 : Nat) (v1 : Int32) (v2 : Nat) (σ : sS) : Option (Int32 × sS) := s_run S_L_beliefs (0, [.ref v0, .int v1, .ref v2], σ)
theorem l_L_beliefs_0 {v0 : Nat} {v1 : Int32} {v2 : Nat} {σ : sS} {z : sZ Int32} (hf : T_L_beliefs_0 v0 v1 v2 σ = some z) : s_lz σ z := by
  unfold T_L_beliefs_0 at hf
  obtain ⟨q1, hh, hf⟩ := s_bind hf
  refine s_lz.tr (l_X7_beliefs hh) ?_
  rcases s_sum_some hf with ⟨x2, -, hf⟩ | ⟨E3, -, hf⟩
  · obtain ⟨σ4, hh, hf⟩ := s_bind hf
    refine s_lz.tr (s_le2 (s_sl_2 hh)) ?_
    cases hf
    exact s_le.rf
  · rcases s_ite hf with ⟨-, hf⟩ | ⟨-, hf⟩
    · cases hf
      exact s_le.rf
    cases hf
theorem l_L_beliefs_s {x : sL} {z : sZ Int32} (hs : S_L_beliefs x = some z) : s_lz x.2.2 z := by
  obtain ⟨pc, vs, σ⟩ := x
  unfold S_L_beliefs at hs
  dsimp only at hs ⊢
  rcases s_ite hs with ⟨c, hs⟩ | ⟨-, hs⟩
  · subst c
    unfold U_L_beliefs_0 at hs
    obtain ⟨a0, g0, hs⟩ := s_bind hs
    obtain ⟨a1, g1, hs⟩ := s_bind hs
    obtain ⟨a2, g2, hs⟩ := s_bind hs
    obtain ⟨u9, ge, hs⟩ := s_bind hs
    exact l_L_beliefs_0 hs
  cases hs
theorem l_L_beliefs {v0 : Nat} {v1 : Int32} {v2 : Nat} {σ : sS} {q : Int32 × sS} (h : F_L_beliefs v0 v1 v2 σ = some q) : s_le σ q.2 := by
  unfold F_L_beliefs at h
  exact s_run_ind (V := fun x r => s_le x.2.2 r.2) (fun x z r hs hk => by
    have h9 := l_L_beliefs_s hs
    cases z with
    | inl y => exact s_le.tr h9 hk
    | inr q => cases hk; exact h9) h
set_option maxRecDepth 100000 in
set_option maxHeartbeats 4000000 in
theorem v_L_beliefs_0 {G : sG} {d : Nat} {vs0 : List Value} {σ0 : sS} {v0 : Nat} {v1 : Int32} {v2 : Nat} {σ : sS} {z : sZ Int32} {r : Int32 × sS} (hf : T_L_beliefs_0 v0 v1 v2 σ = some z) (k : s_K G (d + 3) M_L_beliefs vs0 σ0 Y_L_beliefs e_I z r) : s_V G (d + 3) M_L_beliefs vs0 σ0 Y_L_beliefs (0, [.ref v0, .int v1, .ref v2], σ) (e_I r) := by
  have le0 : s_le σ (e_I r).2 := s_lek hem_I (l_L_beliefs_0 hf) k
  refine ⟨le0, ?_⟩
  intro p e s m below meth c H locs cells slots ls X I hn1 hn2 hl
  have hn : cells + σ0.2.1 ≤ σ.2.1 ∧ slots + σ0.2.2.1 ≤ σ.2.2.1 := ⟨hn1, hn2⟩
  have hl : lv_has ls 4 [(0, .ref v0), (1, .int v1), (2, .ref v2)] := hl
  have hx := X.1
  have hb : c.code = cL_beliefs := X.2.1
  have hown : s.vm.findClass RL = some m.cls := X.2.2.2.2.2.1
  have hts := X.2.2.2.2.2.2.1
  refine W.eq (g2 := F0 m 0 ls []) rfl ?_
  unfold T_L_beliefs_0 at hf
  obtain ⟨q1, h1, hf⟩ := s_bind hf
  refine lv_aload_n hx hb dL_beliefs_0 rfl (lv_at hl 2 rfl) ?_
  refine lv_iconst (v := 0) hx hb dL_beliefs_1 (by decide) ?_
  refine lv_aload_n hx hb dL_beliefs_2 rfl (lv_at hl 0 rfl) ?_
  refine lv_iload_n hx hb dL_beliefs_3 rfl (lv_at hl 1 rfl) ?_
  rcases s_sum_some hf with ⟨x2, hq2, hf⟩ | ⟨E3, hq2, hf⟩
  · have le3 : s_le q1.2 (e_I r).2 := by
      refine s_lek hem_I ?_ k
      obtain ⟨σ4, hh, hf⟩ := s_bind hf
      refine s_lz.tr (s_le2 (s_sl_2 hh)) ?_
      cases hf
      exact s_le.rf
    refine r_callV (Y := M_X7_beliefs) (v := some (.int x2)) X I w_1123 my_X7_beliefs (by omega) (t_X7_beliefs (G := G) (d := d + 0) h1) (b_X7_beliefs h1) (e_IX_l hq2) rfl hl.1 rfl (Nat.le_of_ble_eq_true rfl) hn le3 dL_beliefs_4 (fun H locs cells slots I hn1 hn2 => ?_)
    have I : s_I G q1.2 s H locs := I
    have hn : cells + σ0.2.1 ≤ q1.2.2.1 ∧ slots + σ0.2.2.1 ≤ q1.2.2.2.1 := ⟨hn1, hn2⟩
    obtain ⟨σ4, h4, hf⟩ := s_bind hf
    cases hf
    have k : _ = r := k
    subst k
    have le5 : s_le σ4 σ4 := s_le.rf
    refine lv_i2l hx hb dL_beliefs_7 rfl ?_
    refine r_last X I h4 dL_beliefs_8 (fun H locs I => ?_)
    have hn := s_k2 (s_sl_2 h4) hn
    refine lv_goto (tgt := 15) hx hb dL_beliefs_9 (by decide) ?_
    refine lv_iconst (v := 0) hx hb dL_beliefs_15 (by decide) ?_
    exact r_iret X I rfl rfl rfl hn dL_beliefs_16
  · rcases s_ite hf with ⟨c6, hf⟩ | ⟨c6, hf⟩
    · subst c6
      have le7 : s_le q1.2 (e_I r).2 := by
        refine s_lek hem_I ?_ k
        cases hf
        exact s_le.rf
      refine r_callVh (x := (0, 9, 12, 27)) (Y := M_X7_beliefs) (E := "java/lang/IndexOutOfBoundsException") (name := "java/lang/IndexOutOfBoundsException") X I [] [] rfl (fun z hz => by cases hz) rfl (by decide) w_1011 (by decide +kernel) w_1123 my_X7_beliefs (by omega) (t_X7_beliefs (G := G) (d := d + 0) h1) (b_X7_beliefs h1) (e_IX_r hq2) rfl hl.1 rfl (Nat.le_of_ble_eq_true rfl) hn le7 dL_beliefs_4 (fun a5 H locs cells slots I hn1 hn2 => ?_)
      have I : s_I G q1.2 s H locs := I
      have hn : cells + σ0.2.1 ≤ q1.2.2.1 ∧ slots + σ0.2.2.1 ≤ q1.2.2.2.1 := ⟨hn1, hn2⟩
      cases hf
      have k : _ = r := k
      subst k
      refine lv_astore_n (lv' := [(3, .ref a5), (0, .ref v0), (1, .int v1), (2, .ref v2)]) hx hb dL_beliefs_12 rfl hl (by decide) rfl (fun ls hl => ?_)
      refine lv_iconst (v := 1) hx hb dL_beliefs_13 (by decide) ?_
      exact r_iret X I rfl rfl rfl hn dL_beliefs_14
    cases hf
theorem v_L_beliefs {G : sG} {d : Nat} {vs0 : List Value} {σ0 : sS} {x : sL} {z : sZ Int32} {r : Int32 × sS} (hs : S_L_beliefs x = some z) (k : s_K G (d + 3) M_L_beliefs vs0 σ0 Y_L_beliefs e_I z r) : s_V G (d + 3) M_L_beliefs vs0 σ0 Y_L_beliefs x (e_I r) := by
  obtain ⟨pc, vs, σ⟩ := x
  unfold S_L_beliefs at hs
  dsimp only at hs
  rcases s_ite hs with ⟨c, hs⟩ | ⟨-, hs⟩
  · subst c
    unfold U_L_beliefs_0 at hs
    obtain ⟨a0, g0, hs⟩ := s_bind hs
    obtain ⟨a1, g1, hs⟩ := s_bind hs
    obtain ⟨a2, g2, hs⟩ := s_bind hs
    obtain ⟨u9, ge, hs⟩ := s_bind hs
    rw [g_r_to g0, g_i_to g1, g_r_to g2, g_e_to ge]
    exact v_L_beliefs_0 hs k
  cases hs
theorem t_L_beliefs {G : sG} {d : Nat} {v0 : Nat} {v1 : Int32} {v2 : Nat} {σ : sS} {q : Int32 × sS} (h : F_L_beliefs v0 v1 v2 σ = some q) : s_T G (d + 3) M_L_beliefs [.ref v0, .int v1, .ref v2] σ (e_I q) := by
  unfold F_L_beliefs at h
  exact s_ofVH rfl (by decide) (Nat.le_of_ble_eq_true rfl) rfl rfl (s_run_ind (V := fun x r => s_V G (d + 3) M_L_beliefs [.ref v0, .int v1, .ref v2] σ Y_L_beliefs x (e_I r)) (fun x z r hs hk => v_L_beliefs hs (by cases z <;> exact hk)) h)
/-! X7_believe -/
noncomputable def T_X7_believe_0 (v0 : Nat) (v1 : Int32) (v2 : Int32) (v3 : Int32) (σ : sS) : Option (sZ (Int32 ⊕ String)) :=
  (F_X7_needCustomer v0 v1 σ).bind fun q1 => s_sum q1.1 (fun x2 => (F_X7_needFormula v0 v2 q1.2).bind fun q4 => s_sum q4.1 (fun x5 => (s_fr q4.2 v0 7 1).bind fun x7 =>
  (s_fr q4.2 x7 1 5).bind fun x8 =>
  (s_ai q4.2 x8 v1).bind fun x9 =>
  (s_fr q4.2 v0 7 1).bind fun x10 =>
  (s_fr q4.2 x10 1 5).bind fun x11 =>
  if v3 = 0 then (some (.inl (53, [.ref v0, .int v1, .int x9, .int (x9 &&& ((1 <<< (v2 &&& 31)) ^^^ (-1))), .int v1, .ref x11], q4.2)))
  else (some (.inl (53, [.ref v0, .int v1, .int x9, .int (x9 ||| (1 <<< (v2 &&& 31))), .int v1, .ref x11], q4.2)))) (fun E6 => some (.inr (.inr E6, q4.2)))) (fun E3 => some (.inr (.inr E3, q1.2)))
noncomputable def U_X7_believe_0 (vs : List Value) (σ : sS) : Option (sZ (Int32 ⊕ String)) := (g_r vs).bind fun a0 => (g_i a0.2).bind fun a1 => (g_i a1.2).bind fun a2 => (g_i a2.2).bind fun a3 => (g_e a3.2).bind fun _ => T_X7_believe_0 a0.1 a1.1 a2.1 a3.1 σ
noncomputable def T_X7_believe_53 (v0 : Nat) (v1 : Int32) (v4 : Int32) (w0 : Int32) (w1 : Int32) (w2 : Nat) (σ : sS) : Option (sZ (Int32 ⊕ String)) :=
  (s_si σ w2 w1 w0).bind fun σ1 =>
  (s_fr σ1 v0 7 1).bind fun x2 =>
  (s_fr σ1 x2 1 5).bind fun x3 =>
  (s_ai σ1 x3 v1).bind fun x4 =>
  if x4 = v4 then (some (.inr (.inl 0, σ1)))
  else (some (.inr (.inl 1, σ1)))
noncomputable def U_X7_believe_53 (vs : List Value) (σ : sS) : Option (sZ (Int32 ⊕ String)) := (g_r vs).bind fun a0 => (g_i a0.2).bind fun a1 => (g_i a1.2).bind fun a2 => (g_i a2.2).bind fun a3 => (g_i a3.2).bind fun a4 => (g_r a4.2).bind fun a5 => (g_e a5.2).bind fun _ => T_X7_believe_53 a0.1 a1.1 a2.1 a3.1 a4.1 a5.1 σ
noncomputable def S_X7_believe (x : sL) : Option (sZ (Int32 ⊕ String)) := if x.1 = 0 then U_X7_believe_0 x.2.1 x.2.2 else if x.1 = 53 then U_X7_believe_53 x.2.1 x.2.2 else none
def Y_X7_believe (pc : Nat) : List Nat := if pc = 0 then [0, 1, 2, 3] else if pc = 53 then [0, 1, 4] else []
noncomputable def F_X7_believe (v0 : Nat) (v1 : Int32) (v2 : Int32) (v3 : Int32) (σ : sS) : Option ((Int32 ⊕ String) × sS) := (s_is σ v0 7).bind fun _ => s_run S_X7_believe (0, [.ref v0, .int v1, .int v2, .int v3], σ)
theorem l_X7_believe_0 {v0 : Nat} {v1 : Int32} {v2 : Int32} {v3 : Int32} {σ : sS} {z : sZ (Int32 ⊕ String)} (hf : T_X7_believe_0 v0 v1 v2 v3 σ = some z) : s_lz σ z := by
  unfold T_X7_believe_0 at hf
  obtain ⟨q1, hh, hf⟩ := s_bind hf
  refine s_lz.tr (l_X7_needCustomer hh) ?_
  rcases s_sum_some hf with ⟨x2, -, hf⟩ | ⟨E3, -, hf⟩
  · obtain ⟨q4, hh, hf⟩ := s_bind hf
    refine s_lz.tr (l_X7_needFormula hh) ?_
    rcases s_sum_some hf with ⟨x5, -, hf⟩ | ⟨E6, -, hf⟩
    · obtain ⟨x7, -, hf⟩ := s_bind hf
      obtain ⟨x8, -, hf⟩ := s_bind hf
      obtain ⟨x9, -, hf⟩ := s_bind hf
      obtain ⟨x10, -, hf⟩ := s_bind hf
      obtain ⟨x11, -, hf⟩ := s_bind hf
      rcases s_ite hf with ⟨-, hf⟩ | ⟨-, hf⟩
      · cases hf
        exact s_le.rf
      · cases hf
        exact s_le.rf
    · cases hf
      exact s_le.rf
  · cases hf
    exact s_le.rf
theorem l_X7_believe_53 {v0 : Nat} {v1 : Int32} {v4 : Int32} {w0 : Int32} {w1 : Int32} {w2 : Nat} {σ : sS} {z : sZ (Int32 ⊕ String)} (hf : T_X7_believe_53 v0 v1 v4 w0 w1 w2 σ = some z) : s_lz σ z := by
  unfold T_X7_believe_53 at hf
  obtain ⟨σ1, hh, hf⟩ := s_bind hf
  refine s_lz.tr (s_le2 (s_si_2 hh)) ?_
  obtain ⟨x2, -, hf⟩ := s_bind hf
  obtain ⟨x3, -, hf⟩ := s_bind hf
  obtain ⟨x4, -, hf⟩ := s_bind hf
  rcases s_ite hf with ⟨-, hf⟩ | ⟨-, hf⟩
  · cases hf
    exact s_le.rf
  · cases hf
    exact s_le.rf
theorem l_X7_believe_s {x : sL} {z : sZ (Int32 ⊕ String)} (hs : S_X7_believe x = some z) : s_lz x.2.2 z := by
  obtain ⟨pc, vs, σ⟩ := x
  unfold S_X7_believe at hs
  dsimp only at hs ⊢
  rcases s_ite hs with ⟨c, hs⟩ | ⟨-, hs⟩
  · subst c
    unfold U_X7_believe_0 at hs
    obtain ⟨a0, g0, hs⟩ := s_bind hs
    obtain ⟨a1, g1, hs⟩ := s_bind hs
    obtain ⟨a2, g2, hs⟩ := s_bind hs
    obtain ⟨a3, g3, hs⟩ := s_bind hs
    obtain ⟨u9, ge, hs⟩ := s_bind hs
    exact l_X7_believe_0 hs
  rcases s_ite hs with ⟨c, hs⟩ | ⟨-, hs⟩
  · subst c
    unfold U_X7_believe_53 at hs
    obtain ⟨a0, g0, hs⟩ := s_bind hs
    obtain ⟨a1, g1, hs⟩ := s_bind hs
    obtain ⟨a2, g2, hs⟩ := s_bind hs
    obtain ⟨a3, g3, hs⟩ := s_bind hs
    obtain ⟨a4, g4, hs⟩ := s_bind hs
    obtain ⟨a5, g5, hs⟩ := s_bind hs
    obtain ⟨u9, ge, hs⟩ := s_bind hs
    exact l_X7_believe_53 hs
  cases hs
theorem l_X7_believe {v0 : Nat} {v1 : Int32} {v2 : Int32} {v3 : Int32} {σ : sS} {q : (Int32 ⊕ String) × sS} (h : F_X7_believe v0 v1 v2 v3 σ = some q) : s_le σ q.2 := by
  unfold F_X7_believe at h
  obtain ⟨-, -, h⟩ := s_bind h
  exact s_run_ind (V := fun x r => s_le x.2.2 r.2) (fun x z r hs hk => by
    have h9 := l_X7_believe_s hs
    cases z with
    | inl y => exact s_le.tr h9 hk
    | inr q => cases hk; exact h9) h
theorem b_X7_believe {v0 : Nat} {v1 : Int32} {v2 : Int32} {v3 : Int32} {σ : sS} {q : (Int32 ⊕ String) × sS} (h : F_X7_believe v0 v1 v2 v3 σ = some q) : ∃ fs, σ.1 v0 = some (.inr (7, fs)) := by
  unfold F_X7_believe at h
  obtain ⟨u, hu, -⟩ := s_bind h
  exact s_is_to hu
set_option maxRecDepth 100000 in
set_option maxHeartbeats 4000000 in
theorem v_X7_believe_0 {G : sG} {d : Nat} {vs0 : List Value} {σ0 : sS} {v0 : Nat} {v1 : Int32} {v2 : Int32} {v3 : Int32} {σ : sS} {z : sZ (Int32 ⊕ String)} {r : (Int32 ⊕ String) × sS} (hf : T_X7_believe_0 v0 v1 v2 v3 σ = some z) (k : s_K G (d + 2) M_X7_believe vs0 σ0 Y_X7_believe e_IX z r) : s_V G (d + 2) M_X7_believe vs0 σ0 Y_X7_believe (0, [.ref v0, .int v1, .int v2, .int v3], σ) (e_IX r) := by
  have le0 : s_le σ (e_IX r).2 := s_lek hem_IX (l_X7_believe_0 hf) k
  refine ⟨le0, ?_⟩
  intro p e s m below meth c H locs cells slots ls X I hn1 hn2 hl
  have hn : cells + σ0.2.1 ≤ σ.2.1 ∧ slots + σ0.2.2.1 ≤ σ.2.2.1 := ⟨hn1, hn2⟩
  have hl : lv_has ls 6 [(0, .ref v0), (1, .int v1), (2, .int v2), (3, .int v3)] := hl
  have hx := X.1
  have hb : c.code = cX7_believe := X.2.1
  have hown : s.vm.findClass RX7 = some m.cls := X.2.2.2.2.2.1
  have hts := X.2.2.2.2.2.2.1
  refine W.eq (g2 := F0 m 0 ls []) rfl ?_
  unfold T_X7_believe_0 at hf
  obtain ⟨q1, h1, hf⟩ := s_bind hf
  refine lv_aload_n hx hb dX7_believe_0 rfl (lv_at hl 0 rfl) ?_
  refine lv_iload_n hx hb dX7_believe_1 rfl (lv_at hl 1 rfl) ?_
  rcases s_sum_some hf with ⟨x2, hq2, hf⟩ | ⟨E3, hq2, hf⟩
  · have le3 : s_le q1.2 (e_IX r).2 := by
      refine s_lek hem_IX ?_ k
      obtain ⟨q4, hh, hf⟩ := s_bind hf
      refine s_lz.tr (l_X7_needFormula hh) ?_
      rcases s_sum_some hf with ⟨x5, -, hf⟩ | ⟨E6, -, hf⟩
      · obtain ⟨x7, -, hf⟩ := s_bind hf
        obtain ⟨x8, -, hf⟩ := s_bind hf
        obtain ⟨x9, -, hf⟩ := s_bind hf
        obtain ⟨x10, -, hf⟩ := s_bind hf
        obtain ⟨x11, -, hf⟩ := s_bind hf
        rcases s_ite hf with ⟨-, hf⟩ | ⟨-, hf⟩
        · cases hf
          exact s_le.rf
        · cases hf
          exact s_le.rf
      · cases hf
        exact s_le.rf
    refine r_callV (Y := M_X7_needCustomer) (v := none) X I w_1115 my_X7_needCustomer (by omega) (t_X7_needCustomer (G := G) (d := d + 0) h1) (b_X7_needCustomer h1) (e_VX_l hq2) rfl hl.1 rfl (Nat.le_of_ble_eq_true rfl) hn le3 dX7_believe_2 (fun H locs cells slots I hn1 hn2 => ?_)
    have I : s_I G q1.2 s H locs := I
    have hn : cells + σ0.2.1 ≤ q1.2.2.1 ∧ slots + σ0.2.2.1 ≤ q1.2.2.2.1 := ⟨hn1, hn2⟩
    obtain ⟨q4, h4, hf⟩ := s_bind hf
    refine lv_aload_n hx hb dX7_believe_5 rfl (lv_at hl 0 rfl) ?_
    refine lv_iload_n hx hb dX7_believe_6 rfl (lv_at hl 2 rfl) ?_
    rcases s_sum_some hf with ⟨x5, hq5, hf⟩ | ⟨E6, hq5, hf⟩
    · have le6 : s_le q4.2 (e_IX r).2 := by
        refine s_lek hem_IX ?_ k
        obtain ⟨x7, -, hf⟩ := s_bind hf
        obtain ⟨x8, -, hf⟩ := s_bind hf
        obtain ⟨x9, -, hf⟩ := s_bind hf
        obtain ⟨x10, -, hf⟩ := s_bind hf
        obtain ⟨x11, -, hf⟩ := s_bind hf
        rcases s_ite hf with ⟨-, hf⟩ | ⟨-, hf⟩
        · cases hf
          exact s_le.rf
        · cases hf
          exact s_le.rf
      refine r_callV (Y := M_X7_needFormula) (v := none) X I w_1016 my_X7_needFormula (by omega) (t_X7_needFormula (G := G) (d := d + 0) h4) (b_X7_needFormula h4) (e_VX_l hq5) rfl hl.1 rfl (Nat.le_of_ble_eq_true rfl) hn le6 dX7_believe_7 (fun H locs cells slots I hn1 hn2 => ?_)
      have I : s_I G q4.2 s H locs := I
      have hn : cells + σ0.2.1 ≤ q4.2.2.1 ∧ slots + σ0.2.2.1 ≤ q4.2.2.2.1 := ⟨hn1, hn2⟩
      obtain ⟨x7, h7, hf⟩ := s_bind hf
      obtain ⟨x8, h8, hf⟩ := s_bind hf
      obtain ⟨x9, h9, hf⟩ := s_bind hf
      obtain ⟨x10, h10, hf⟩ := s_bind hf
      obtain ⟨x11, h11, hf⟩ := s_bind hf
      refine lv_aload_n hx hb dX7_believe_10 rfl (lv_at hl 0 rfl) ?_
      refine r_gr X I fl_X7_19 h7 dX7_believe_11 ?_
      refine r_gr X I fl_X7_174 h8 dX7_believe_14 ?_
      refine lv_iload_n hx hb dX7_believe_17 rfl (lv_at hl 1 rfl) ?_
      refine r_iald X I h9 dX7_believe_18 ?_
      refine lv_istore (lv' := [(4, .int x9), (0, .ref v0), (1, .int v1), (2, .int v2), (3, .int v3)]) hx hb dX7_believe_19 hl (by decide) rfl (fun ls hl => ?_)
      refine lv_iconst (v := 1) hx hb dX7_believe_21 (by decide) ?_
      refine lv_iload_n hx hb dX7_believe_22 rfl (lv_at hl 3 rfl) ?_
      refine lv_ishl hx hb dX7_believe_23 ?_
      refine lv_istore (lv' := [(5, .int (1 <<< (v2 &&& 31))), (4, .int x9), (0, .ref v0), (1, .int v1), (2, .int v2), (3, .int v3)]) hx hb dX7_believe_24 hl (by decide) rfl (fun ls hl => ?_)
      refine lv_aload_n hx hb dX7_believe_26 rfl (lv_at hl 2 rfl) ?_
      refine r_gr X I fl_X7_19 h10 dX7_believe_27 ?_
      refine r_gr X I fl_X7_174 h11 dX7_believe_30 ?_
      refine lv_iload_n hx hb dX7_believe_33 rfl (lv_at hl 3 rfl) ?_
      refine lv_iload_n hx hb dX7_believe_34 rfl (lv_at hl 5 rfl) ?_
      rcases s_ite hf with ⟨c12, hf⟩ | ⟨c12, hf⟩
      · refine lv_if_eq (tgt := 46) hx hb dX7_believe_35 (by decide) (fun _ => ?_) (fun n => absurd c12 n)
        cases hf
        have k : s_V G (d + 2) M_X7_believe vs0 σ0 Y_X7_believe (53, [.ref v0, .int v1, .int x9, .int (x9 &&& ((1 <<< (v2 &&& 31)) ^^^ (-1))), .int v1, .ref x11], q4.2) (e_IX r) := k
        refine lv_iload hx hb dX7_believe_46 (lv_at hl 1 rfl) ?_
        refine lv_iload hx hb dX7_believe_48 (lv_at hl 0 rfl) ?_
        refine lv_iconst (v := (-1)) hx hb dX7_believe_50 (by decide) ?_
        refine lv_ixor hx hb dX7_believe_51 ?_
        refine lv_iand hx hb dX7_believe_52 ?_
        exact k.2 p e s m below meth c _ _ _ _ _ X I hn.1 hn.2 (lv_sub hl [2, 3, 1] rfl)
      · refine lv_if_eq (tgt := 46) hx hb dX7_believe_35 (by decide) (fun n => absurd n c12) (fun _ => ?_)
        cases hf
        have k : s_V G (d + 2) M_X7_believe vs0 σ0 Y_X7_believe (53, [.ref v0, .int v1, .int x9, .int (x9 ||| (1 <<< (v2 &&& 31))), .int v1, .ref x11], q4.2) (e_IX r) := k
        refine lv_iload hx hb dX7_believe_38 (lv_at hl 1 rfl) ?_
        refine lv_iload hx hb dX7_believe_40 (lv_at hl 0 rfl) ?_
        refine lv_ior hx hb dX7_believe_42 ?_
        refine lv_goto (tgt := 53) hx hb dX7_believe_43 (by decide) ?_
        exact k.2 p e s m below meth c _ _ _ _ _ X I hn.1 hn.2 (lv_sub hl [2, 3, 1] rfl)
    · cases hf
      have k : _ = r := k
      subst k
      exact r_callVx (Y := M_X7_needFormula) X I rfl w_1016 my_X7_needFormula (by omega) (t_X7_needFormula (G := G) (d := d + 0) h4) (b_X7_needFormula h4) (e_VX_r hq5) rfl hl.1 rfl (Nat.le_of_ble_eq_true rfl) hn rfl dX7_believe_7
  · cases hf
    have k : _ = r := k
    subst k
    exact r_callVx (Y := M_X7_needCustomer) X I rfl w_1115 my_X7_needCustomer (by omega) (t_X7_needCustomer (G := G) (d := d + 0) h1) (b_X7_needCustomer h1) (e_VX_r hq2) rfl hl.1 rfl (Nat.le_of_ble_eq_true rfl) hn rfl dX7_believe_2
set_option maxRecDepth 100000 in
set_option maxHeartbeats 4000000 in
theorem v_X7_believe_53 {G : sG} {d : Nat} {vs0 : List Value} {σ0 : sS} {v0 : Nat} {v1 : Int32} {v4 : Int32} {w0 : Int32} {w1 : Int32} {w2 : Nat} {σ : sS} {z : sZ (Int32 ⊕ String)} {r : (Int32 ⊕ String) × sS} (hf : T_X7_believe_53 v0 v1 v4 w0 w1 w2 σ = some z) (k : s_K G (d + 2) M_X7_believe vs0 σ0 Y_X7_believe e_IX z r) : s_V G (d + 2) M_X7_believe vs0 σ0 Y_X7_believe (53, [.ref v0, .int v1, .int v4, .int w0, .int w1, .ref w2], σ) (e_IX r) := by
  have le0 : s_le σ (e_IX r).2 := s_lek hem_IX (l_X7_believe_53 hf) k
  refine ⟨le0, ?_⟩
  intro p e s m below meth c H locs cells slots ls X I hn1 hn2 hl
  have hn : cells + σ0.2.1 ≤ σ.2.1 ∧ slots + σ0.2.2.1 ≤ σ.2.2.1 := ⟨hn1, hn2⟩
  have hl : lv_has ls 6 [(0, .ref v0), (1, .int v1), (4, .int v4)] := hl
  have hx := X.1
  have hb : c.code = cX7_believe := X.2.1
  have hown : s.vm.findClass RX7 = some m.cls := X.2.2.2.2.2.1
  have hts := X.2.2.2.2.2.2.1
  refine W.eq (g2 := F0 m 53 ls [.int w0, .int w1, .ref w2]) rfl ?_
  unfold T_X7_believe_53 at hf
  obtain ⟨σ1, h1, hf⟩ := s_bind hf
  obtain ⟨x2, h2, hf⟩ := s_bind hf
  obtain ⟨x3, h3, hf⟩ := s_bind hf
  obtain ⟨x4, h4, hf⟩ := s_bind hf
  have le5 : s_le σ1 (e_IX r).2 := by
    refine s_lek hem_IX ?_ k
    rcases s_ite hf with ⟨-, hf⟩ | ⟨-, hf⟩
    · cases hf
      exact s_le.rf
    · cases hf
      exact s_le.rf
  refine r_iast X I h1 dX7_believe_53 (fun H locs I => ?_)
  have hn := s_k2 (s_si_2 h1) hn
  refine lv_aload_n hx hb dX7_believe_54 rfl (lv_at hl 0 rfl) ?_
  refine r_gr X I fl_X7_19 h2 dX7_believe_55 ?_
  refine r_gr X I fl_X7_174 h3 dX7_believe_58 ?_
  refine lv_iload_n hx hb dX7_believe_61 rfl (lv_at hl 1 rfl) ?_
  refine r_iald X I h4 dX7_believe_62 ?_
  refine lv_iload hx hb dX7_believe_63 (lv_at hl 2 rfl) ?_
  rcases s_ite hf with ⟨c6, hf⟩ | ⟨c6, hf⟩
  · refine lv_icmp_eq (tgt := 72) hx hb dX7_believe_65 (by decide) (fun _ => ?_) (fun n => absurd c6 n)
    cases hf
    have k : _ = r := k
    subst k
    refine lv_iconst (v := 0) hx hb dX7_believe_72 (by decide) ?_
    exact r_iret X I rfl rfl rfl hn dX7_believe_73
  · refine lv_icmp_eq (tgt := 72) hx hb dX7_believe_65 (by decide) (fun n => absurd n c6) (fun _ => ?_)
    cases hf
    have k : _ = r := k
    subst k
    refine lv_iconst (v := 1) hx hb dX7_believe_68 (by decide) ?_
    refine lv_goto (tgt := 73) hx hb dX7_believe_69 (by decide) ?_
    exact r_iret X I rfl rfl rfl hn dX7_believe_73
theorem v_X7_believe {G : sG} {d : Nat} {vs0 : List Value} {σ0 : sS} {x : sL} {z : sZ (Int32 ⊕ String)} {r : (Int32 ⊕ String) × sS} (hs : S_X7_believe x = some z) (k : s_K G (d + 2) M_X7_believe vs0 σ0 Y_X7_believe e_IX z r) : s_V G (d + 2) M_X7_believe vs0 σ0 Y_X7_believe x (e_IX r) := by
  obtain ⟨pc, vs, σ⟩ := x
  unfold S_X7_believe at hs
  dsimp only at hs
  rcases s_ite hs with ⟨c, hs⟩ | ⟨-, hs⟩
  · subst c
    unfold U_X7_believe_0 at hs
    obtain ⟨a0, g0, hs⟩ := s_bind hs
    obtain ⟨a1, g1, hs⟩ := s_bind hs
    obtain ⟨a2, g2, hs⟩ := s_bind hs
    obtain ⟨a3, g3, hs⟩ := s_bind hs
    obtain ⟨u9, ge, hs⟩ := s_bind hs
    rw [g_r_to g0, g_i_to g1, g_i_to g2, g_i_to g3, g_e_to ge]
    exact v_X7_believe_0 hs k
  rcases s_ite hs with ⟨c, hs⟩ | ⟨-, hs⟩
  · subst c
    unfold U_X7_believe_53 at hs
    obtain ⟨a0, g0, hs⟩ := s_bind hs
    obtain ⟨a1, g1, hs⟩ := s_bind hs
    obtain ⟨a2, g2, hs⟩ := s_bind hs
    obtain ⟨a3, g3, hs⟩ := s_bind hs
    obtain ⟨a4, g4, hs⟩ := s_bind hs
    obtain ⟨a5, g5, hs⟩ := s_bind hs
    obtain ⟨u9, ge, hs⟩ := s_bind hs
    rw [g_r_to g0, g_i_to g1, g_i_to g2, g_i_to g3, g_i_to g4, g_r_to g5, g_e_to ge]
    exact v_X7_believe_53 hs k
  cases hs
theorem t_X7_believe {G : sG} {d : Nat} {v0 : Nat} {v1 : Int32} {v2 : Int32} {v3 : Int32} {σ : sS} {q : (Int32 ⊕ String) × sS} (h : F_X7_believe v0 v1 v2 v3 σ = some q) : s_T G (d + 2) M_X7_believe [.ref v0, .int v1, .int v2, .int v3] σ (e_IX q) := by
  unfold F_X7_believe at h
  obtain ⟨-, -, h⟩ := s_bind h
  exact s_ofV rfl (by decide) (Nat.le_of_ble_eq_true rfl) rfl rfl (s_run_ind (V := fun x r => s_V G (d + 2) M_X7_believe [.ref v0, .int v1, .int v2, .int v3] σ Y_X7_believe x (e_IX r)) (fun x z r hs hk => v_X7_believe hs (by cases z <;> exact hk)) h)
/-! L_believe -/
noncomputable def T_L_believe_0 (v0 : Nat) (v1 : Int32) (v2 : Int32) (v3 : Int32) (v4 : Nat) (σ : sS) : Option (sZ Int32) :=
  (F_X7_believe v0 v1 v2 v3 σ).bind fun q1 => s_sum q1.1 (fun x2 => if x2 = 0 then (some (.inl (18, [.long 0, .int 0, .ref v4], q1.2)))
  else (some (.inl (18, [.long 1, .int 0, .ref v4], q1.2)))) (fun E3 => if E3 = "java/lang/IndexOutOfBoundsException" then (some (.inr (1, q1.2))) else none)
noncomputable def U_L_believe_0 (vs : List Value) (σ : sS) : Option (sZ Int32) := (g_r vs).bind fun a0 => (g_i a0.2).bind fun a1 => (g_i a1.2).bind fun a2 => (g_i a2.2).bind fun a3 => (g_r a3.2).bind fun a4 => (g_e a4.2).bind fun _ => T_L_believe_0 a0.1 a1.1 a2.1 a3.1 a4.1 σ
noncomputable def T_L_believe_18 (w0 : Int64) (w1 : Int32) (w2 : Nat) (σ : sS) : Option (sZ Int32) :=
  (s_sl σ w2 w1 w0).bind fun σ1 =>
  some (.inr (0, σ1))
noncomputable def U_L_believe_18 (vs : List Value) (σ : sS) : Option (sZ Int32) := (g_l vs).bind fun a0 => (g_i a0.2).bind fun a1 => (g_r a1.2).bind fun a2 => (g_e a2.2).bind fun _ => T_L_believe_18 a0.1 a1.1 a2.1 σ
noncomputable def S_L_believe (x : sL) : Option (sZ Int32) := if x.1 = 0 then U_L_believe_0 x.2.1 x.2.2 else if x.1 = 18 then U_L_believe_18 x.2.1 x.2.2 else none
def Y_L_believe (pc : Nat) : List Nat := if pc = 0 then [0, 1, 2, 3, 4] else if pc = 18 then [] else []
noncomputable def F_L_believe (v0 : Nat) (v1 : Int32) (v2 : Int32) (v3 : Int32) (v4 : Nat) (σ : sS) : Option (Int32 × sS) := s_run S_L_believe (0, [.ref v0, .int v1, .int v2, .int v3, .ref v4], σ)
theorem l_L_believe_0 {v0 : Nat} {v1 : Int32} {v2 : Int32} {v3 : Int32} {v4 : Nat} {σ : sS} {z : sZ Int32} (hf : T_L_believe_0 v0 v1 v2 v3 v4 σ = some z) : s_lz σ z := by
  unfold T_L_believe_0 at hf
  obtain ⟨q1, hh, hf⟩ := s_bind hf
  refine s_lz.tr (l_X7_believe hh) ?_
  rcases s_sum_some hf with ⟨x2, -, hf⟩ | ⟨E3, -, hf⟩
  · rcases s_ite hf with ⟨-, hf⟩ | ⟨-, hf⟩
    · cases hf
      exact s_le.rf
    · cases hf
      exact s_le.rf
  · rcases s_ite hf with ⟨-, hf⟩ | ⟨-, hf⟩
    · cases hf
      exact s_le.rf
    cases hf
theorem l_L_believe_18 {w0 : Int64} {w1 : Int32} {w2 : Nat} {σ : sS} {z : sZ Int32} (hf : T_L_believe_18 w0 w1 w2 σ = some z) : s_lz σ z := by
  unfold T_L_believe_18 at hf
  obtain ⟨σ1, hh, hf⟩ := s_bind hf
  refine s_lz.tr (s_le2 (s_sl_2 hh)) ?_
  cases hf
  exact s_le.rf
theorem l_L_believe_s {x : sL} {z : sZ Int32} (hs : S_L_believe x = some z) : s_lz x.2.2 z := by
  obtain ⟨pc, vs, σ⟩ := x
  unfold S_L_believe at hs
  dsimp only at hs ⊢
  rcases s_ite hs with ⟨c, hs⟩ | ⟨-, hs⟩
  · subst c
    unfold U_L_believe_0 at hs
    obtain ⟨a0, g0, hs⟩ := s_bind hs
    obtain ⟨a1, g1, hs⟩ := s_bind hs
    obtain ⟨a2, g2, hs⟩ := s_bind hs
    obtain ⟨a3, g3, hs⟩ := s_bind hs
    obtain ⟨a4, g4, hs⟩ := s_bind hs
    obtain ⟨u9, ge, hs⟩ := s_bind hs
    exact l_L_believe_0 hs
  rcases s_ite hs with ⟨c, hs⟩ | ⟨-, hs⟩
  · subst c
    unfold U_L_believe_18 at hs
    obtain ⟨a0, g0, hs⟩ := s_bind hs
    obtain ⟨a1, g1, hs⟩ := s_bind hs
    obtain ⟨a2, g2, hs⟩ := s_bind hs
    obtain ⟨u9, ge, hs⟩ := s_bind hs
    exact l_L_believe_18 hs
  cases hs
theorem l_L_believe {v0 : Nat} {v1 : Int32} {v2 : Int32} {v3 : Int32} {v4 : Nat} {σ : sS} {q : Int32 × sS} (h : F_L_believe v0 v1 v2 v3 v4 σ = some q) : s_le σ q.2 := by
  unfold F_L_believe at h
  exact s_run_ind (V := fun x r => s_le x.2.2 r.2) (fun x z r hs hk => by
    have h9 := l_L_believe_s hs
    cases z with
    | inl y => exact s_le.tr h9 hk
    | inr q => cases hk; exact h9) h
set_option maxRecDepth 100000 in
set_option maxHeartbeats 4000000 in
theorem v_L_believe_0 {G : sG} {d : Nat} {vs0 : List Value} {σ0 : sS} {v0 : Nat} {v1 : Int32} {v2 : Int32} {v3 : Int32} {v4 : Nat} {σ : sS} {z : sZ Int32} {r : Int32 × sS} (hf : T_L_believe_0 v0 v1 v2 v3 v4 σ = some z) (k : s_K G (d + 3) M_L_believe vs0 σ0 Y_L_believe e_I z r) : s_V G (d + 3) M_L_believe vs0 σ0 Y_L_believe (0, [.ref v0, .int v1, .int v2, .int v3, .ref v4], σ) (e_I r) := by
  have le0 : s_le σ (e_I r).2 := s_lek hem_I (l_L_believe_0 hf) k
  refine ⟨le0, ?_⟩
  intro p e s m below meth c H locs cells slots ls X I hn1 hn2 hl
  have hn : cells + σ0.2.1 ≤ σ.2.1 ∧ slots + σ0.2.2.1 ≤ σ.2.2.1 := ⟨hn1, hn2⟩
  have hl : lv_has ls 6 [(0, .ref v0), (1, .int v1), (2, .int v2), (3, .int v3), (4, .ref v4)] := hl
  have hx := X.1
  have hb : c.code = cL_believe := X.2.1
  have hown : s.vm.findClass RL = some m.cls := X.2.2.2.2.2.1
  have hts := X.2.2.2.2.2.2.1
  refine W.eq (g2 := F0 m 0 ls []) rfl ?_
  unfold T_L_believe_0 at hf
  obtain ⟨q1, h1, hf⟩ := s_bind hf
  refine lv_aload hx hb dL_believe_0 (lv_at hl 4 rfl) ?_
  refine lv_iconst (v := 0) hx hb dL_believe_2 (by decide) ?_
  refine lv_aload_n hx hb dL_believe_3 rfl (lv_at hl 0 rfl) ?_
  refine lv_iload_n hx hb dL_believe_4 rfl (lv_at hl 1 rfl) ?_
  refine lv_iload_n hx hb dL_believe_5 rfl (lv_at hl 2 rfl) ?_
  refine lv_iload_n hx hb dL_believe_6 rfl (lv_at hl 3 rfl) ?_
  rcases s_sum_some hf with ⟨x2, hq2, hf⟩ | ⟨E3, hq2, hf⟩
  · have le3 : s_le q1.2 (e_I r).2 := by
      refine s_lek hem_I ?_ k
      rcases s_ite hf with ⟨-, hf⟩ | ⟨-, hf⟩
      · cases hf
        exact s_le.rf
      · cases hf
        exact s_le.rf
    refine r_callV (Y := M_X7_believe) (v := some (.int x2)) X I w_1111 my_X7_believe (by omega) (t_X7_believe (G := G) (d := d + 0) h1) (b_X7_believe h1) (e_IX_l hq2) rfl hl.1 rfl (Nat.le_of_ble_eq_true rfl) hn le3 dL_believe_7 (fun H locs cells slots I hn1 hn2 => ?_)
    have I : s_I G q1.2 s H locs := I
    have hn : cells + σ0.2.1 ≤ q1.2.2.1 ∧ slots + σ0.2.2.1 ≤ q1.2.2.2.1 := ⟨hn1, hn2⟩
    rcases s_ite hf with ⟨c4, hf⟩ | ⟨c4, hf⟩
    · refine lv_if_eq (tgt := 17) hx hb dL_believe_10 (by decide) (fun _ => ?_) (fun n => absurd c4 n)
      cases hf
      have k : s_V G (d + 3) M_L_believe vs0 σ0 Y_L_believe (18, [.long 0, .int 0, .ref v4], q1.2) (e_I r) := k
      refine lv_lconst (v := 0) hx hb dL_believe_17 (by decide) ?_
      exact k.2 p e s m below meth c _ _ _ _ _ X I hn.1 hn.2 (lv_sub hl [] rfl)
    · refine lv_if_eq (tgt := 17) hx hb dL_believe_10 (by decide) (fun n => absurd n c4) (fun _ => ?_)
      cases hf
      have k : s_V G (d + 3) M_L_believe vs0 σ0 Y_L_believe (18, [.long 1, .int 0, .ref v4], q1.2) (e_I r) := k
      refine lv_lconst (v := 1) hx hb dL_believe_13 (by decide) ?_
      refine lv_goto (tgt := 18) hx hb dL_believe_14 (by decide) ?_
      exact k.2 p e s m below meth c _ _ _ _ _ X I hn.1 hn.2 (lv_sub hl [] rfl)
  · rcases s_ite hf with ⟨c5, hf⟩ | ⟨c5, hf⟩
    · subst c5
      have le6 : s_le q1.2 (e_I r).2 := by
        refine s_lek hem_I ?_ k
        cases hf
        exact s_le.rf
      refine r_callVh (x := (0, 19, 22, 27)) (Y := M_X7_believe) (E := "java/lang/IndexOutOfBoundsException") (name := "java/lang/IndexOutOfBoundsException") X I [] [] rfl (fun z hz => by cases hz) rfl (by decide) w_1011 (by decide +kernel) w_1111 my_X7_believe (by omega) (t_X7_believe (G := G) (d := d + 0) h1) (b_X7_believe h1) (e_IX_r hq2) rfl hl.1 rfl (Nat.le_of_ble_eq_true rfl) hn le6 dL_believe_7 (fun a4 H locs cells slots I hn1 hn2 => ?_)
      have I : s_I G q1.2 s H locs := I
      have hn : cells + σ0.2.1 ≤ q1.2.2.1 ∧ slots + σ0.2.2.1 ≤ q1.2.2.2.1 := ⟨hn1, hn2⟩
      cases hf
      have k : _ = r := k
      subst k
      refine lv_astore (lv' := [(5, .ref a4), (0, .ref v0), (1, .int v1), (2, .int v2), (3, .int v3), (4, .ref v4)]) hx hb dL_believe_22 hl (by decide) rfl (fun ls hl => ?_)
      refine lv_iconst (v := 1) hx hb dL_believe_24 (by decide) ?_
      exact r_iret X I rfl rfl rfl hn dL_believe_25
    cases hf
set_option maxRecDepth 100000 in
set_option maxHeartbeats 4000000 in
theorem v_L_believe_18 {G : sG} {d : Nat} {vs0 : List Value} {σ0 : sS} {w0 : Int64} {w1 : Int32} {w2 : Nat} {σ : sS} {z : sZ Int32} {r : Int32 × sS} (hf : T_L_believe_18 w0 w1 w2 σ = some z) (k : s_K G (d + 3) M_L_believe vs0 σ0 Y_L_believe e_I z r) : s_V G (d + 3) M_L_believe vs0 σ0 Y_L_believe (18, [.long w0, .int w1, .ref w2], σ) (e_I r) := by
  have le0 : s_le σ (e_I r).2 := s_lek hem_I (l_L_believe_18 hf) k
  refine ⟨le0, ?_⟩
  intro p e s m below meth c H locs cells slots ls X I hn1 hn2 hl
  have hn : cells + σ0.2.1 ≤ σ.2.1 ∧ slots + σ0.2.2.1 ≤ σ.2.2.1 := ⟨hn1, hn2⟩
  have hl : lv_has ls 6 [] := hl
  have hx := X.1
  have hb : c.code = cL_believe := X.2.1
  have hown : s.vm.findClass RL = some m.cls := X.2.2.2.2.2.1
  have hts := X.2.2.2.2.2.2.1
  refine W.eq (g2 := F0 m 18 ls [.long w0, .int w1, .ref w2]) rfl ?_
  unfold T_L_believe_18 at hf
  obtain ⟨σ1, h1, hf⟩ := s_bind hf
  cases hf
  have k : _ = r := k
  subst k
  have le2 : s_le σ1 σ1 := s_le.rf
  refine r_last X I h1 dL_believe_18 (fun H locs I => ?_)
  have hn := s_k2 (s_sl_2 h1) hn
  refine lv_goto (tgt := 26) hx hb dL_believe_19 (by decide) ?_
  refine lv_iconst (v := 0) hx hb dL_believe_26 (by decide) ?_
  exact r_iret X I rfl rfl rfl hn dL_believe_27
theorem v_L_believe {G : sG} {d : Nat} {vs0 : List Value} {σ0 : sS} {x : sL} {z : sZ Int32} {r : Int32 × sS} (hs : S_L_believe x = some z) (k : s_K G (d + 3) M_L_believe vs0 σ0 Y_L_believe e_I z r) : s_V G (d + 3) M_L_believe vs0 σ0 Y_L_believe x (e_I r) := by
  obtain ⟨pc, vs, σ⟩ := x
  unfold S_L_believe at hs
  dsimp only at hs
  rcases s_ite hs with ⟨c, hs⟩ | ⟨-, hs⟩
  · subst c
    unfold U_L_believe_0 at hs
    obtain ⟨a0, g0, hs⟩ := s_bind hs
    obtain ⟨a1, g1, hs⟩ := s_bind hs
    obtain ⟨a2, g2, hs⟩ := s_bind hs
    obtain ⟨a3, g3, hs⟩ := s_bind hs
    obtain ⟨a4, g4, hs⟩ := s_bind hs
    obtain ⟨u9, ge, hs⟩ := s_bind hs
    rw [g_r_to g0, g_i_to g1, g_i_to g2, g_i_to g3, g_r_to g4, g_e_to ge]
    exact v_L_believe_0 hs k
  rcases s_ite hs with ⟨c, hs⟩ | ⟨-, hs⟩
  · subst c
    unfold U_L_believe_18 at hs
    obtain ⟨a0, g0, hs⟩ := s_bind hs
    obtain ⟨a1, g1, hs⟩ := s_bind hs
    obtain ⟨a2, g2, hs⟩ := s_bind hs
    obtain ⟨u9, ge, hs⟩ := s_bind hs
    rw [g_l_to g0, g_i_to g1, g_r_to g2, g_e_to ge]
    exact v_L_believe_18 hs k
  cases hs
theorem t_L_believe {G : sG} {d : Nat} {v0 : Nat} {v1 : Int32} {v2 : Int32} {v3 : Int32} {v4 : Nat} {σ : sS} {q : Int32 × sS} (h : F_L_believe v0 v1 v2 v3 v4 σ = some q) : s_T G (d + 3) M_L_believe [.ref v0, .int v1, .int v2, .int v3, .ref v4] σ (e_I q) := by
  unfold F_L_believe at h
  exact s_ofVH rfl (by decide) (Nat.le_of_ble_eq_true rfl) rfl rfl (s_run_ind (V := fun x r => s_V G (d + 3) M_L_believe [.ref v0, .int v1, .int v2, .int v3, .ref v4] σ Y_L_believe x (e_I r)) (fun x z r hs hk => v_L_believe hs (by cases z <;> exact hk)) h)
/-! X7_needLine -/
noncomputable def T_X7_needLine_0 (v0 : Nat) (v1 : Int32) (σ : sS) : Option (sZ (Unit ⊕ String)) :=
  if v1 < 0 then (some (.inr (.inr "java/lang/IndexOutOfBoundsException", s_ex σ)))
  else ((s_fr σ v0 7 1).bind fun x1 =>
  (s_fi σ x1 1 6).bind fun x2 =>
  if v1 < x2 then (some (.inr (.inl (), σ)))
  else (some (.inr (.inr "java/lang/IndexOutOfBoundsException", s_ex σ))))
noncomputable def U_X7_needLine_0 (vs : List Value) (σ : sS) : Option (sZ (Unit ⊕ String)) := (g_r vs).bind fun a0 => (g_i a0.2).bind fun a1 => (g_e a1.2).bind fun _ => T_X7_needLine_0 a0.1 a1.1 σ
noncomputable def S_X7_needLine (x : sL) : Option (sZ (Unit ⊕ String)) := if x.1 = 0 then U_X7_needLine_0 x.2.1 x.2.2 else none
def Y_X7_needLine (pc : Nat) : List Nat := if pc = 0 then [0, 1] else []
noncomputable def F_X7_needLine (v0 : Nat) (v1 : Int32) (σ : sS) : Option ((Unit ⊕ String) × sS) := (s_is σ v0 7).bind fun _ => s_run S_X7_needLine (0, [.ref v0, .int v1], σ)
theorem l_X7_needLine_0 {v0 : Nat} {v1 : Int32} {σ : sS} {z : sZ (Unit ⊕ String)} (hf : T_X7_needLine_0 v0 v1 σ = some z) : s_lz σ z := by
  unfold T_X7_needLine_0 at hf
  rcases s_ite hf with ⟨-, hf⟩ | ⟨-, hf⟩
  · cases hf
    exact s_ex_le
  · obtain ⟨x1, -, hf⟩ := s_bind hf
    obtain ⟨x2, -, hf⟩ := s_bind hf
    rcases s_ite hf with ⟨-, hf⟩ | ⟨-, hf⟩
    · cases hf
      exact s_le.rf
    · cases hf
      exact s_ex_le
theorem l_X7_needLine_s {x : sL} {z : sZ (Unit ⊕ String)} (hs : S_X7_needLine x = some z) : s_lz x.2.2 z := by
  obtain ⟨pc, vs, σ⟩ := x
  unfold S_X7_needLine at hs
  dsimp only at hs ⊢
  rcases s_ite hs with ⟨c, hs⟩ | ⟨-, hs⟩
  · subst c
    unfold U_X7_needLine_0 at hs
    obtain ⟨a0, g0, hs⟩ := s_bind hs
    obtain ⟨a1, g1, hs⟩ := s_bind hs
    obtain ⟨u9, ge, hs⟩ := s_bind hs
    exact l_X7_needLine_0 hs
  cases hs
theorem l_X7_needLine {v0 : Nat} {v1 : Int32} {σ : sS} {q : (Unit ⊕ String) × sS} (h : F_X7_needLine v0 v1 σ = some q) : s_le σ q.2 := by
  unfold F_X7_needLine at h
  obtain ⟨-, -, h⟩ := s_bind h
  exact s_run_ind (V := fun x r => s_le x.2.2 r.2) (fun x z r hs hk => by
    have h9 := l_X7_needLine_s hs
    cases z with
    | inl y => exact s_le.tr h9 hk
    | inr q => cases hk; exact h9) h
theorem b_X7_needLine {v0 : Nat} {v1 : Int32} {σ : sS} {q : (Unit ⊕ String) × sS} (h : F_X7_needLine v0 v1 σ = some q) : ∃ fs, σ.1 v0 = some (.inr (7, fs)) := by
  unfold F_X7_needLine at h
  obtain ⟨u, hu, -⟩ := s_bind h
  exact s_is_to hu
set_option maxRecDepth 100000 in
set_option maxHeartbeats 4000000 in
theorem v_X7_needLine_0 {G : sG} {d : Nat} {vs0 : List Value} {σ0 : sS} {v0 : Nat} {v1 : Int32} {σ : sS} {z : sZ (Unit ⊕ String)} {r : (Unit ⊕ String) × sS} (hf : T_X7_needLine_0 v0 v1 σ = some z) (k : s_K G (d + 1) M_X7_needLine vs0 σ0 Y_X7_needLine e_VX z r) : s_V G (d + 1) M_X7_needLine vs0 σ0 Y_X7_needLine (0, [.ref v0, .int v1], σ) (e_VX r) := by
  have le0 : s_le σ (e_VX r).2 := s_lek hem_VX (l_X7_needLine_0 hf) k
  refine ⟨le0, ?_⟩
  intro p e s m below meth c H locs cells slots ls X I hn1 hn2 hl
  have hn : cells + σ0.2.1 ≤ σ.2.1 ∧ slots + σ0.2.2.1 ≤ σ.2.2.1 := ⟨hn1, hn2⟩
  have hl : lv_has ls 2 [(0, .ref v0), (1, .int v1)] := hl
  have hx := X.1
  have hb : c.code = cX7_needLine := X.2.1
  have hown : s.vm.findClass RX7 = some m.cls := X.2.2.2.2.2.1
  have hts := X.2.2.2.2.2.2.1
  refine W.eq (g2 := F0 m 0 ls []) rfl ?_
  unfold T_X7_needLine_0 at hf
  refine lv_iload_n hx hb dX7_needLine_0 rfl (lv_at hl 1 rfl) ?_
  rcases s_ite hf with ⟨c1, hf⟩ | ⟨c1, hf⟩
  · refine lv_if_lt (tgt := 15) hx hb dX7_needLine_1 (by decide) (fun _ => ?_) (fun n => absurd c1 n)
    cases hf
    have k : _ = r := k
    subst k
    exact r_throwW X I rfl th_X7_156_352 hl.1 (Nat.le_of_ble_eq_true rfl) hn rfl dX7_needLine_15 dX7_needLine_18 dX7_needLine_19 dX7_needLine_22 dX7_needLine_25
  · refine lv_if_lt (tgt := 15) hx hb dX7_needLine_1 (by decide) (fun n => absurd n c1) (fun _ => ?_)
    obtain ⟨x1, h2, hf⟩ := s_bind hf
    obtain ⟨x2, h3, hf⟩ := s_bind hf
    refine lv_iload_n hx hb dX7_needLine_4 rfl (lv_at hl 1 rfl) ?_
    refine lv_aload_n hx hb dX7_needLine_5 rfl (lv_at hl 0 rfl) ?_
    refine r_gr X I fl_X7_19 h2 dX7_needLine_6 ?_
    refine r_gi X I fl_X7_186 h3 dX7_needLine_9 ?_
    rcases s_ite hf with ⟨c4, hf⟩ | ⟨c4, hf⟩
    · refine lv_icmp_lt (tgt := 26) hx hb dX7_needLine_12 (by decide) (fun _ => ?_) (fun n => absurd c4 n)
      cases hf
      have k : _ = r := k
      subst k
      exact r_vret X I rfl rfl hn dX7_needLine_26
    · refine lv_icmp_lt (tgt := 26) hx hb dX7_needLine_12 (by decide) (fun n => absurd n c4) (fun _ => ?_)
      cases hf
      have k : _ = r := k
      subst k
      exact r_throwW X I rfl th_X7_156_352 hl.1 (Nat.le_of_ble_eq_true rfl) hn rfl dX7_needLine_15 dX7_needLine_18 dX7_needLine_19 dX7_needLine_22 dX7_needLine_25
theorem v_X7_needLine {G : sG} {d : Nat} {vs0 : List Value} {σ0 : sS} {x : sL} {z : sZ (Unit ⊕ String)} {r : (Unit ⊕ String) × sS} (hs : S_X7_needLine x = some z) (k : s_K G (d + 1) M_X7_needLine vs0 σ0 Y_X7_needLine e_VX z r) : s_V G (d + 1) M_X7_needLine vs0 σ0 Y_X7_needLine x (e_VX r) := by
  obtain ⟨pc, vs, σ⟩ := x
  unfold S_X7_needLine at hs
  dsimp only at hs
  rcases s_ite hs with ⟨c, hs⟩ | ⟨-, hs⟩
  · subst c
    unfold U_X7_needLine_0 at hs
    obtain ⟨a0, g0, hs⟩ := s_bind hs
    obtain ⟨a1, g1, hs⟩ := s_bind hs
    obtain ⟨u9, ge, hs⟩ := s_bind hs
    rw [g_r_to g0, g_i_to g1, g_e_to ge]
    exact v_X7_needLine_0 hs k
  cases hs
theorem t_X7_needLine {G : sG} {d : Nat} {v0 : Nat} {v1 : Int32} {σ : sS} {q : (Unit ⊕ String) × sS} (h : F_X7_needLine v0 v1 σ = some q) : s_T G (d + 1) M_X7_needLine [.ref v0, .int v1] σ (e_VX q) := by
  unfold F_X7_needLine at h
  obtain ⟨-, -, h⟩ := s_bind h
  exact s_ofV rfl (by decide) (Nat.le_of_ble_eq_true rfl) rfl rfl (s_run_ind (V := fun x r => s_V G (d + 1) M_X7_needLine [.ref v0, .int v1] σ Y_X7_needLine x (e_VX r)) (fun x z r hs hk => v_X7_needLine hs (by cases z <;> exact hk)) h)
/-! X1_ofLine -/
noncomputable def T_X1_ofLine_0 (v0 : Nat) (v1 : Int32) (v2 : Int32) (σ : sS) : Option (sZ Int32) :=
  if v1 < 0 then (some (.inl (26, [.ref v0, .int v1, .int v2], σ)))
  else ((s_fi σ v0 1 6).bind fun x1 =>
  if x1 ≤ v1 then (some (.inl (26, [.ref v0, .int v1, .int v2], σ)))
  else (if v2 < 0 then (some (.inl (26, [.ref v0, .int v1, .int v2], σ)))
  else (if (6 : Int32) ≤ v2 then (some (.inl (26, [.ref v0, .int v1, .int v2], σ)))
  else (some (.inl (27, [.ref v0, .int v1, .int v2, .int 1], σ))))))
noncomputable def U_X1_ofLine_0 (vs : List Value) (σ : sS) : Option (sZ Int32) := (g_r vs).bind fun a0 => (g_i a0.2).bind fun a1 => (g_i a1.2).bind fun a2 => (g_e a2.2).bind fun _ => T_X1_ofLine_0 a0.1 a1.1 a2.1 σ
noncomputable def T_X1_ofLine_26 (v0 : Nat) (v1 : Int32) (v2 : Int32) (σ : sS) : Option (sZ Int32) :=
  some (.inl (27, [.ref v0, .int v1, .int v2, .int 0], σ))
noncomputable def U_X1_ofLine_26 (vs : List Value) (σ : sS) : Option (sZ Int32) := (g_r vs).bind fun a0 => (g_i a0.2).bind fun a1 => (g_i a1.2).bind fun a2 => (g_e a2.2).bind fun _ => T_X1_ofLine_26 a0.1 a1.1 a2.1 σ
noncomputable def T_X1_ofLine_27 (v0 : Nat) (v1 : Int32) (v2 : Int32) (w0 : Int32) (σ : sS) : Option (sZ Int32) :=
  if w0 = 0 then (some (.inr ((-1), σ)))
  else ((s_fr σ v0 1 13).bind fun x1 =>
  (s_ai σ x1 ((v1 * 6) + v2)).bind fun x2 =>
  some (.inr (x2, σ)))
noncomputable def U_X1_ofLine_27 (vs : List Value) (σ : sS) : Option (sZ Int32) := (g_r vs).bind fun a0 => (g_i a0.2).bind fun a1 => (g_i a1.2).bind fun a2 => (g_i a2.2).bind fun a3 => (g_e a3.2).bind fun _ => T_X1_ofLine_27 a0.1 a1.1 a2.1 a3.1 σ
noncomputable def S_X1_ofLine (x : sL) : Option (sZ Int32) := if x.1 = 0 then U_X1_ofLine_0 x.2.1 x.2.2 else if x.1 = 26 then U_X1_ofLine_26 x.2.1 x.2.2 else if x.1 = 27 then U_X1_ofLine_27 x.2.1 x.2.2 else none
def Y_X1_ofLine (pc : Nat) : List Nat := if pc = 0 then [0, 1, 2] else if pc = 26 then [0, 1, 2] else if pc = 27 then [0, 1, 2] else []
noncomputable def F_X1_ofLine (v0 : Nat) (v1 : Int32) (v2 : Int32) (σ : sS) : Option (Int32 × sS) := (s_is σ v0 1).bind fun _ => s_run S_X1_ofLine (0, [.ref v0, .int v1, .int v2], σ)
theorem l_X1_ofLine_0 {v0 : Nat} {v1 : Int32} {v2 : Int32} {σ : sS} {z : sZ Int32} (hf : T_X1_ofLine_0 v0 v1 v2 σ = some z) : s_lz σ z := by
  unfold T_X1_ofLine_0 at hf
  rcases s_ite hf with ⟨-, hf⟩ | ⟨-, hf⟩
  · cases hf
    exact s_le.rf
  · obtain ⟨x1, -, hf⟩ := s_bind hf
    rcases s_ite hf with ⟨-, hf⟩ | ⟨-, hf⟩
    · cases hf
      exact s_le.rf
    · rcases s_ite hf with ⟨-, hf⟩ | ⟨-, hf⟩
      · cases hf
        exact s_le.rf
      · rcases s_ite hf with ⟨-, hf⟩ | ⟨-, hf⟩
        · cases hf
          exact s_le.rf
        · cases hf
          exact s_le.rf
theorem l_X1_ofLine_26 {v0 : Nat} {v1 : Int32} {v2 : Int32} {σ : sS} {z : sZ Int32} (hf : T_X1_ofLine_26 v0 v1 v2 σ = some z) : s_lz σ z := by
  unfold T_X1_ofLine_26 at hf
  cases hf
  exact s_le.rf
theorem l_X1_ofLine_27 {v0 : Nat} {v1 : Int32} {v2 : Int32} {w0 : Int32} {σ : sS} {z : sZ Int32} (hf : T_X1_ofLine_27 v0 v1 v2 w0 σ = some z) : s_lz σ z := by
  unfold T_X1_ofLine_27 at hf
  rcases s_ite hf with ⟨-, hf⟩ | ⟨-, hf⟩
  · cases hf
    exact s_le.rf
  · obtain ⟨x1, -, hf⟩ := s_bind hf
    obtain ⟨x2, -, hf⟩ := s_bind hf
    cases hf
    exact s_le.rf
theorem l_X1_ofLine_s {x : sL} {z : sZ Int32} (hs : S_X1_ofLine x = some z) : s_lz x.2.2 z := by
  obtain ⟨pc, vs, σ⟩ := x
  unfold S_X1_ofLine at hs
  dsimp only at hs ⊢
  rcases s_ite hs with ⟨c, hs⟩ | ⟨-, hs⟩
  · subst c
    unfold U_X1_ofLine_0 at hs
    obtain ⟨a0, g0, hs⟩ := s_bind hs
    obtain ⟨a1, g1, hs⟩ := s_bind hs
    obtain ⟨a2, g2, hs⟩ := s_bind hs
    obtain ⟨u9, ge, hs⟩ := s_bind hs
    exact l_X1_ofLine_0 hs
  rcases s_ite hs with ⟨c, hs⟩ | ⟨-, hs⟩
  · subst c
    unfold U_X1_ofLine_26 at hs
    obtain ⟨a0, g0, hs⟩ := s_bind hs
    obtain ⟨a1, g1, hs⟩ := s_bind hs
    obtain ⟨a2, g2, hs⟩ := s_bind hs
    obtain ⟨u9, ge, hs⟩ := s_bind hs
    exact l_X1_ofLine_26 hs
  rcases s_ite hs with ⟨c, hs⟩ | ⟨-, hs⟩
  · subst c
    unfold U_X1_ofLine_27 at hs
    obtain ⟨a0, g0, hs⟩ := s_bind hs
    obtain ⟨a1, g1, hs⟩ := s_bind hs
    obtain ⟨a2, g2, hs⟩ := s_bind hs
    obtain ⟨a3, g3, hs⟩ := s_bind hs
    obtain ⟨u9, ge, hs⟩ := s_bind hs
    exact l_X1_ofLine_27 hs
  cases hs
theorem l_X1_ofLine {v0 : Nat} {v1 : Int32} {v2 : Int32} {σ : sS} {q : Int32 × sS} (h : F_X1_ofLine v0 v1 v2 σ = some q) : s_le σ q.2 := by
  unfold F_X1_ofLine at h
  obtain ⟨-, -, h⟩ := s_bind h
  exact s_run_ind (V := fun x r => s_le x.2.2 r.2) (fun x z r hs hk => by
    have h9 := l_X1_ofLine_s hs
    cases z with
    | inl y => exact s_le.tr h9 hk
    | inr q => cases hk; exact h9) h
theorem b_X1_ofLine {v0 : Nat} {v1 : Int32} {v2 : Int32} {σ : sS} {q : Int32 × sS} (h : F_X1_ofLine v0 v1 v2 σ = some q) : ∃ fs, σ.1 v0 = some (.inr (1, fs)) := by
  unfold F_X1_ofLine at h
  obtain ⟨u, hu, -⟩ := s_bind h
  exact s_is_to hu
set_option maxRecDepth 100000 in
set_option maxHeartbeats 4000000 in
theorem v_X1_ofLine_0 {G : sG} {d : Nat} {vs0 : List Value} {σ0 : sS} {v0 : Nat} {v1 : Int32} {v2 : Int32} {σ : sS} {z : sZ Int32} {r : Int32 × sS} (hf : T_X1_ofLine_0 v0 v1 v2 σ = some z) (k : s_K G (d + 1) M_X1_ofLine vs0 σ0 Y_X1_ofLine e_I z r) : s_V G (d + 1) M_X1_ofLine vs0 σ0 Y_X1_ofLine (0, [.ref v0, .int v1, .int v2], σ) (e_I r) := by
  have le0 : s_le σ (e_I r).2 := s_lek hem_I (l_X1_ofLine_0 hf) k
  refine ⟨le0, ?_⟩
  intro p e s m below meth c H locs cells slots ls X I hn1 hn2 hl
  have hn : cells + σ0.2.1 ≤ σ.2.1 ∧ slots + σ0.2.2.1 ≤ σ.2.2.1 := ⟨hn1, hn2⟩
  have hl : lv_has ls 4 [(0, .ref v0), (1, .int v1), (2, .int v2)] := hl
  have hx := X.1
  have hb : c.code = cX1_ofLine := X.2.1
  have hown : s.vm.findClass RX1 = some m.cls := X.2.2.2.2.2.1
  have hts := X.2.2.2.2.2.2.1
  refine W.eq (g2 := F0 m 0 ls []) rfl ?_
  unfold T_X1_ofLine_0 at hf
  refine lv_iload_n hx hb dX1_ofLine_0 rfl (lv_at hl 1 rfl) ?_
  rcases s_ite hf with ⟨c1, hf⟩ | ⟨c1, hf⟩
  · refine lv_if_lt (tgt := 26) hx hb dX1_ofLine_1 (by decide) (fun _ => ?_) (fun n => absurd c1 n)
    cases hf
    have k : s_V G (d + 1) M_X1_ofLine vs0 σ0 Y_X1_ofLine (26, [.ref v0, .int v1, .int v2], σ) (e_I r) := k
    exact k.2 p e s m below meth c _ _ _ _ _ X I hn.1 hn.2 (lv_sub hl [0, 1, 2] rfl)
  · refine lv_if_lt (tgt := 26) hx hb dX1_ofLine_1 (by decide) (fun n => absurd n c1) (fun _ => ?_)
    obtain ⟨x1, h2, hf⟩ := s_bind hf
    refine lv_iload_n hx hb dX1_ofLine_4 rfl (lv_at hl 1 rfl) ?_
    refine lv_aload_n hx hb dX1_ofLine_5 rfl (lv_at hl 0 rfl) ?_
    refine r_gi X I fl_X1_51 h2 dX1_ofLine_6 ?_
    rcases s_ite hf with ⟨c3, hf⟩ | ⟨c3, hf⟩
    · refine lv_icmp_ge (tgt := 26) hx hb dX1_ofLine_9 (by decide) (fun _ => ?_) (fun n => absurd c3 n)
      cases hf
      have k : s_V G (d + 1) M_X1_ofLine vs0 σ0 Y_X1_ofLine (26, [.ref v0, .int v1, .int v2], σ) (e_I r) := k
      exact k.2 p e s m below meth c _ _ _ _ _ X I hn.1 hn.2 (lv_sub hl [0, 1, 2] rfl)
    · refine lv_icmp_ge (tgt := 26) hx hb dX1_ofLine_9 (by decide) (fun n => absurd n c3) (fun _ => ?_)
      refine lv_iload_n hx hb dX1_ofLine_12 rfl (lv_at hl 2 rfl) ?_
      rcases s_ite hf with ⟨c4, hf⟩ | ⟨c4, hf⟩
      · refine lv_if_lt (tgt := 26) hx hb dX1_ofLine_13 (by decide) (fun _ => ?_) (fun n => absurd c4 n)
        cases hf
        have k : s_V G (d + 1) M_X1_ofLine vs0 σ0 Y_X1_ofLine (26, [.ref v0, .int v1, .int v2], σ) (e_I r) := k
        exact k.2 p e s m below meth c _ _ _ _ _ X I hn.1 hn.2 (lv_sub hl [0, 1, 2] rfl)
      · refine lv_if_lt (tgt := 26) hx hb dX1_ofLine_13 (by decide) (fun n => absurd n c4) (fun _ => ?_)
        refine lv_iload_n hx hb dX1_ofLine_16 rfl (lv_at hl 2 rfl) ?_
        refine lv_bipush (v := 6) hx hb dX1_ofLine_17 (by decide) ?_
        rcases s_ite hf with ⟨c5, hf⟩ | ⟨c5, hf⟩
        · refine lv_icmp_ge (tgt := 26) hx hb dX1_ofLine_19 (by decide) (fun _ => ?_) (fun n => absurd c5 n)
          cases hf
          have k : s_V G (d + 1) M_X1_ofLine vs0 σ0 Y_X1_ofLine (26, [.ref v0, .int v1, .int v2], σ) (e_I r) := k
          exact k.2 p e s m below meth c _ _ _ _ _ X I hn.1 hn.2 (lv_sub hl [0, 1, 2] rfl)
        · refine lv_icmp_ge (tgt := 26) hx hb dX1_ofLine_19 (by decide) (fun n => absurd n c5) (fun _ => ?_)
          cases hf
          have k : s_V G (d + 1) M_X1_ofLine vs0 σ0 Y_X1_ofLine (27, [.ref v0, .int v1, .int v2, .int 1], σ) (e_I r) := k
          refine lv_iconst (v := 1) hx hb dX1_ofLine_22 (by decide) ?_
          refine lv_goto (tgt := 27) hx hb dX1_ofLine_23 (by decide) ?_
          exact k.2 p e s m below meth c _ _ _ _ _ X I hn.1 hn.2 (lv_sub hl [0, 1, 2] rfl)
set_option maxRecDepth 100000 in
set_option maxHeartbeats 4000000 in
theorem v_X1_ofLine_26 {G : sG} {d : Nat} {vs0 : List Value} {σ0 : sS} {v0 : Nat} {v1 : Int32} {v2 : Int32} {σ : sS} {z : sZ Int32} {r : Int32 × sS} (hf : T_X1_ofLine_26 v0 v1 v2 σ = some z) (k : s_K G (d + 1) M_X1_ofLine vs0 σ0 Y_X1_ofLine e_I z r) : s_V G (d + 1) M_X1_ofLine vs0 σ0 Y_X1_ofLine (26, [.ref v0, .int v1, .int v2], σ) (e_I r) := by
  have le0 : s_le σ (e_I r).2 := s_lek hem_I (l_X1_ofLine_26 hf) k
  refine ⟨le0, ?_⟩
  intro p e s m below meth c H locs cells slots ls X I hn1 hn2 hl
  have hn : cells + σ0.2.1 ≤ σ.2.1 ∧ slots + σ0.2.2.1 ≤ σ.2.2.1 := ⟨hn1, hn2⟩
  have hl : lv_has ls 4 [(0, .ref v0), (1, .int v1), (2, .int v2)] := hl
  have hx := X.1
  have hb : c.code = cX1_ofLine := X.2.1
  have hown : s.vm.findClass RX1 = some m.cls := X.2.2.2.2.2.1
  have hts := X.2.2.2.2.2.2.1
  refine W.eq (g2 := F0 m 26 ls []) rfl ?_
  unfold T_X1_ofLine_26 at hf
  cases hf
  have k : s_V G (d + 1) M_X1_ofLine vs0 σ0 Y_X1_ofLine (27, [.ref v0, .int v1, .int v2, .int 0], σ) (e_I r) := k
  refine lv_iconst (v := 0) hx hb dX1_ofLine_26 (by decide) ?_
  exact k.2 p e s m below meth c _ _ _ _ _ X I hn.1 hn.2 (lv_sub hl [0, 1, 2] rfl)
set_option maxRecDepth 100000 in
set_option maxHeartbeats 4000000 in
theorem v_X1_ofLine_27 {G : sG} {d : Nat} {vs0 : List Value} {σ0 : sS} {v0 : Nat} {v1 : Int32} {v2 : Int32} {w0 : Int32} {σ : sS} {z : sZ Int32} {r : Int32 × sS} (hf : T_X1_ofLine_27 v0 v1 v2 w0 σ = some z) (k : s_K G (d + 1) M_X1_ofLine vs0 σ0 Y_X1_ofLine e_I z r) : s_V G (d + 1) M_X1_ofLine vs0 σ0 Y_X1_ofLine (27, [.ref v0, .int v1, .int v2, .int w0], σ) (e_I r) := by
  have le0 : s_le σ (e_I r).2 := s_lek hem_I (l_X1_ofLine_27 hf) k
  refine ⟨le0, ?_⟩
  intro p e s m below meth c H locs cells slots ls X I hn1 hn2 hl
  have hn : cells + σ0.2.1 ≤ σ.2.1 ∧ slots + σ0.2.2.1 ≤ σ.2.2.1 := ⟨hn1, hn2⟩
  have hl : lv_has ls 4 [(0, .ref v0), (1, .int v1), (2, .int v2)] := hl
  have hx := X.1
  have hb : c.code = cX1_ofLine := X.2.1
  have hown : s.vm.findClass RX1 = some m.cls := X.2.2.2.2.2.1
  have hts := X.2.2.2.2.2.2.1
  refine W.eq (g2 := F0 m 27 ls [.int w0]) rfl ?_
  unfold T_X1_ofLine_27 at hf
  refine lv_istore_n (lv' := [(3, .int w0), (0, .ref v0), (1, .int v1), (2, .int v2)]) hx hb dX1_ofLine_27 rfl hl (by decide) rfl (fun ls hl => ?_)
  refine lv_iload_n hx hb dX1_ofLine_28 rfl (lv_at hl 0 rfl) ?_
  rcases s_ite hf with ⟨c1, hf⟩ | ⟨c1, hf⟩
  · refine lv_if_eq (tgt := 46) hx hb dX1_ofLine_29 (by decide) (fun _ => ?_) (fun n => absurd c1 n)
    cases hf
    have k : _ = r := k
    subst k
    refine lv_iconst (v := (-1)) hx hb dX1_ofLine_46 (by decide) ?_
    exact r_iret X I rfl rfl rfl hn dX1_ofLine_47
  · refine lv_if_eq (tgt := 46) hx hb dX1_ofLine_29 (by decide) (fun n => absurd n c1) (fun _ => ?_)
    obtain ⟨x1, h2, hf⟩ := s_bind hf
    obtain ⟨x2, h3, hf⟩ := s_bind hf
    cases hf
    have k : _ = r := k
    subst k
    refine lv_aload_n hx hb dX1_ofLine_32 rfl (lv_at hl 1 rfl) ?_
    refine r_gr X I fl_X1_38 h2 dX1_ofLine_33 ?_
    refine lv_iload_n hx hb dX1_ofLine_36 rfl (lv_at hl 2 rfl) ?_
    refine lv_bipush (v := 6) hx hb dX1_ofLine_37 (by decide) ?_
    refine lv_imul hx hb dX1_ofLine_39 ?_
    refine lv_iload_n hx hb dX1_ofLine_40 rfl (lv_at hl 3 rfl) ?_
    refine lv_iadd hx hb dX1_ofLine_41 ?_
    refine r_iald X I h3 dX1_ofLine_42 ?_
    refine lv_goto (tgt := 47) hx hb dX1_ofLine_43 (by decide) ?_
    exact r_iret X I rfl rfl rfl hn dX1_ofLine_47
theorem v_X1_ofLine {G : sG} {d : Nat} {vs0 : List Value} {σ0 : sS} {x : sL} {z : sZ Int32} {r : Int32 × sS} (hs : S_X1_ofLine x = some z) (k : s_K G (d + 1) M_X1_ofLine vs0 σ0 Y_X1_ofLine e_I z r) : s_V G (d + 1) M_X1_ofLine vs0 σ0 Y_X1_ofLine x (e_I r) := by
  obtain ⟨pc, vs, σ⟩ := x
  unfold S_X1_ofLine at hs
  dsimp only at hs
  rcases s_ite hs with ⟨c, hs⟩ | ⟨-, hs⟩
  · subst c
    unfold U_X1_ofLine_0 at hs
    obtain ⟨a0, g0, hs⟩ := s_bind hs
    obtain ⟨a1, g1, hs⟩ := s_bind hs
    obtain ⟨a2, g2, hs⟩ := s_bind hs
    obtain ⟨u9, ge, hs⟩ := s_bind hs
    rw [g_r_to g0, g_i_to g1, g_i_to g2, g_e_to ge]
    exact v_X1_ofLine_0 hs k
  rcases s_ite hs with ⟨c, hs⟩ | ⟨-, hs⟩
  · subst c
    unfold U_X1_ofLine_26 at hs
    obtain ⟨a0, g0, hs⟩ := s_bind hs
    obtain ⟨a1, g1, hs⟩ := s_bind hs
    obtain ⟨a2, g2, hs⟩ := s_bind hs
    obtain ⟨u9, ge, hs⟩ := s_bind hs
    rw [g_r_to g0, g_i_to g1, g_i_to g2, g_e_to ge]
    exact v_X1_ofLine_26 hs k
  rcases s_ite hs with ⟨c, hs⟩ | ⟨-, hs⟩
  · subst c
    unfold U_X1_ofLine_27 at hs
    obtain ⟨a0, g0, hs⟩ := s_bind hs
    obtain ⟨a1, g1, hs⟩ := s_bind hs
    obtain ⟨a2, g2, hs⟩ := s_bind hs
    obtain ⟨a3, g3, hs⟩ := s_bind hs
    obtain ⟨u9, ge, hs⟩ := s_bind hs
    rw [g_r_to g0, g_i_to g1, g_i_to g2, g_i_to g3, g_e_to ge]
    exact v_X1_ofLine_27 hs k
  cases hs
theorem t_X1_ofLine {G : sG} {d : Nat} {v0 : Nat} {v1 : Int32} {v2 : Int32} {σ : sS} {q : Int32 × sS} (h : F_X1_ofLine v0 v1 v2 σ = some q) : s_T G (d + 1) M_X1_ofLine [.ref v0, .int v1, .int v2] σ (e_I q) := by
  unfold F_X1_ofLine at h
  obtain ⟨-, -, h⟩ := s_bind h
  exact s_ofV rfl (by decide) (Nat.le_of_ble_eq_true rfl) rfl rfl (s_run_ind (V := fun x r => s_V G (d + 1) M_X1_ofLine [.ref v0, .int v1, .int v2] σ Y_X1_ofLine x (e_I r)) (fun x z r hs hk => v_X1_ofLine hs (by cases z <;> exact hk)) h)
/-! X1_premiseOf -/
noncomputable def T_X1_premiseOf_0 (v0 : Nat) (v1 : Int32) (v2 : Int32) (σ : sS) : Option (sZ Int32) :=
  (F_X1_ofLine v0 v1 2 σ).bind fun q1 =>
  if q1.1 = 0 then (some (.inr ((-1), q1.2)))
  else ((F_X1_ofLine v0 v1 (3 + v2) q1.2).bind fun q2 =>
  some (.inr (q2.1, q2.2)))
noncomputable def U_X1_premiseOf_0 (vs : List Value) (σ : sS) : Option (sZ Int32) := (g_r vs).bind fun a0 => (g_i a0.2).bind fun a1 => (g_i a1.2).bind fun a2 => (g_e a2.2).bind fun _ => T_X1_premiseOf_0 a0.1 a1.1 a2.1 σ
noncomputable def S_X1_premiseOf (x : sL) : Option (sZ Int32) := if x.1 = 0 then U_X1_premiseOf_0 x.2.1 x.2.2 else none
def Y_X1_premiseOf (pc : Nat) : List Nat := if pc = 0 then [0, 1, 2] else []
noncomputable def F_X1_premiseOf (v0 : Nat) (v1 : Int32) (v2 : Int32) (σ : sS) : Option (Int32 × sS) := (s_is σ v0 1).bind fun _ => s_run S_X1_premiseOf (0, [.ref v0, .int v1, .int v2], σ)
theorem l_X1_premiseOf_0 {v0 : Nat} {v1 : Int32} {v2 : Int32} {σ : sS} {z : sZ Int32} (hf : T_X1_premiseOf_0 v0 v1 v2 σ = some z) : s_lz σ z := by
  unfold T_X1_premiseOf_0 at hf
  obtain ⟨q1, hh, hf⟩ := s_bind hf
  refine s_lz.tr (l_X1_ofLine hh) ?_
  rcases s_ite hf with ⟨-, hf⟩ | ⟨-, hf⟩
  · cases hf
    exact s_le.rf
  · obtain ⟨q2, hh, hf⟩ := s_bind hf
    refine s_lz.tr (l_X1_ofLine hh) ?_
    cases hf
    exact s_le.rf
theorem l_X1_premiseOf_s {x : sL} {z : sZ Int32} (hs : S_X1_premiseOf x = some z) : s_lz x.2.2 z := by
  obtain ⟨pc, vs, σ⟩ := x
  unfold S_X1_premiseOf at hs
  dsimp only at hs ⊢
  rcases s_ite hs with ⟨c, hs⟩ | ⟨-, hs⟩
  · subst c
    unfold U_X1_premiseOf_0 at hs
    obtain ⟨a0, g0, hs⟩ := s_bind hs
    obtain ⟨a1, g1, hs⟩ := s_bind hs
    obtain ⟨a2, g2, hs⟩ := s_bind hs
    obtain ⟨u9, ge, hs⟩ := s_bind hs
    exact l_X1_premiseOf_0 hs
  cases hs
theorem l_X1_premiseOf {v0 : Nat} {v1 : Int32} {v2 : Int32} {σ : sS} {q : Int32 × sS} (h : F_X1_premiseOf v0 v1 v2 σ = some q) : s_le σ q.2 := by
  unfold F_X1_premiseOf at h
  obtain ⟨-, -, h⟩ := s_bind h
  exact s_run_ind (V := fun x r => s_le x.2.2 r.2) (fun x z r hs hk => by
    have h9 := l_X1_premiseOf_s hs
    cases z with
    | inl y => exact s_le.tr h9 hk
    | inr q => cases hk; exact h9) h
theorem b_X1_premiseOf {v0 : Nat} {v1 : Int32} {v2 : Int32} {σ : sS} {q : Int32 × sS} (h : F_X1_premiseOf v0 v1 v2 σ = some q) : ∃ fs, σ.1 v0 = some (.inr (1, fs)) := by
  unfold F_X1_premiseOf at h
  obtain ⟨u, hu, -⟩ := s_bind h
  exact s_is_to hu
set_option maxRecDepth 100000 in
set_option maxHeartbeats 4000000 in
theorem v_X1_premiseOf_0 {G : sG} {d : Nat} {vs0 : List Value} {σ0 : sS} {v0 : Nat} {v1 : Int32} {v2 : Int32} {σ : sS} {z : sZ Int32} {r : Int32 × sS} (hf : T_X1_premiseOf_0 v0 v1 v2 σ = some z) (k : s_K G (d + 2) M_X1_premiseOf vs0 σ0 Y_X1_premiseOf e_I z r) : s_V G (d + 2) M_X1_premiseOf vs0 σ0 Y_X1_premiseOf (0, [.ref v0, .int v1, .int v2], σ) (e_I r) := by
  have le0 : s_le σ (e_I r).2 := s_lek hem_I (l_X1_premiseOf_0 hf) k
  refine ⟨le0, ?_⟩
  intro p e s m below meth c H locs cells slots ls X I hn1 hn2 hl
  have hn : cells + σ0.2.1 ≤ σ.2.1 ∧ slots + σ0.2.2.1 ≤ σ.2.2.1 := ⟨hn1, hn2⟩
  have hl : lv_has ls 3 [(0, .ref v0), (1, .int v1), (2, .int v2)] := hl
  have hx := X.1
  have hb : c.code = cX1_premiseOf := X.2.1
  have hown : s.vm.findClass RX1 = some m.cls := X.2.2.2.2.2.1
  have hts := X.2.2.2.2.2.2.1
  refine W.eq (g2 := F0 m 0 ls []) rfl ?_
  unfold T_X1_premiseOf_0 at hf
  obtain ⟨q1, h1, hf⟩ := s_bind hf
  have le2 : s_le q1.2 (e_I r).2 := by
    refine s_lek hem_I ?_ k
    rcases s_ite hf with ⟨-, hf⟩ | ⟨-, hf⟩
    · cases hf
      exact s_le.rf
    · obtain ⟨q2, hh, hf⟩ := s_bind hf
      refine s_lz.tr (l_X1_ofLine hh) ?_
      cases hf
      exact s_le.rf
  refine lv_aload_n hx hb dX1_premiseOf_0 rfl (lv_at hl 0 rfl) ?_
  refine lv_iload_n hx hb dX1_premiseOf_1 rfl (lv_at hl 1 rfl) ?_
  refine lv_iconst (v := 2) hx hb dX1_premiseOf_2 (by decide) ?_
  refine r_callV (Y := M_X1_ofLine) (v := some (.int q1.1)) X I w_529 my_X1_ofLine (by omega) (t_X1_ofLine (G := G) (d := d + 0) h1) (b_X1_ofLine h1) rfl rfl hl.1 rfl (Nat.le_of_ble_eq_true rfl) hn le2 dX1_premiseOf_3 (fun H locs cells slots I hn1 hn2 => ?_)
  have I : s_I G q1.2 s H locs := I
  have hn : cells + σ0.2.1 ≤ q1.2.2.1 ∧ slots + σ0.2.2.1 ≤ q1.2.2.2.1 := ⟨hn1, hn2⟩
  rcases s_ite hf with ⟨c3, hf⟩ | ⟨c3, hf⟩
  · refine lv_if_ne (tgt := 13) hx hb dX1_premiseOf_6 (by decide) (fun n => absurd c3 n) (fun _ => ?_)
    cases hf
    have k : _ = r := k
    subst k
    refine lv_iconst (v := (-1)) hx hb dX1_premiseOf_9 (by decide) ?_
    refine lv_goto (tgt := 21) hx hb dX1_premiseOf_10 (by decide) ?_
    exact r_iret X I rfl rfl rfl hn dX1_premiseOf_21
  · refine lv_if_ne (tgt := 13) hx hb dX1_premiseOf_6 (by decide) (fun _ => ?_) (fun n => absurd n c3)
    obtain ⟨q2, h4, hf⟩ := s_bind hf
    cases hf
    have k : _ = r := k
    subst k
    have le5 : s_le q2.2 q2.2 := s_le.rf
    refine lv_aload_n hx hb dX1_premiseOf_13 rfl (lv_at hl 0 rfl) ?_
    refine lv_iload_n hx hb dX1_premiseOf_14 rfl (lv_at hl 1 rfl) ?_
    refine lv_iconst (v := 3) hx hb dX1_premiseOf_15 (by decide) ?_
    refine lv_iload_n hx hb dX1_premiseOf_16 rfl (lv_at hl 2 rfl) ?_
    refine lv_iadd hx hb dX1_premiseOf_17 ?_
    refine r_callV (Y := M_X1_ofLine) (v := some (.int q2.1)) X I w_529 my_X1_ofLine (by omega) (t_X1_ofLine (G := G) (d := d + 0) h4) (b_X1_ofLine h4) rfl rfl hl.1 rfl (Nat.le_of_ble_eq_true rfl) hn le5 dX1_premiseOf_18 (fun H locs cells slots I hn1 hn2 => ?_)
    have I : s_I G q2.2 s H locs := I
    have hn : cells + σ0.2.1 ≤ q2.2.2.1 ∧ slots + σ0.2.2.1 ≤ q2.2.2.2.1 := ⟨hn1, hn2⟩
    exact r_iret X I rfl rfl rfl hn dX1_premiseOf_21
theorem v_X1_premiseOf {G : sG} {d : Nat} {vs0 : List Value} {σ0 : sS} {x : sL} {z : sZ Int32} {r : Int32 × sS} (hs : S_X1_premiseOf x = some z) (k : s_K G (d + 2) M_X1_premiseOf vs0 σ0 Y_X1_premiseOf e_I z r) : s_V G (d + 2) M_X1_premiseOf vs0 σ0 Y_X1_premiseOf x (e_I r) := by
  obtain ⟨pc, vs, σ⟩ := x
  unfold S_X1_premiseOf at hs
  dsimp only at hs
  rcases s_ite hs with ⟨c, hs⟩ | ⟨-, hs⟩
  · subst c
    unfold U_X1_premiseOf_0 at hs
    obtain ⟨a0, g0, hs⟩ := s_bind hs
    obtain ⟨a1, g1, hs⟩ := s_bind hs
    obtain ⟨a2, g2, hs⟩ := s_bind hs
    obtain ⟨u9, ge, hs⟩ := s_bind hs
    rw [g_r_to g0, g_i_to g1, g_i_to g2, g_e_to ge]
    exact v_X1_premiseOf_0 hs k
  cases hs
theorem t_X1_premiseOf {G : sG} {d : Nat} {v0 : Nat} {v1 : Int32} {v2 : Int32} {σ : sS} {q : Int32 × sS} (h : F_X1_premiseOf v0 v1 v2 σ = some q) : s_T G (d + 2) M_X1_premiseOf [.ref v0, .int v1, .int v2] σ (e_I q) := by
  unfold F_X1_premiseOf at h
  obtain ⟨-, -, h⟩ := s_bind h
  exact s_ofV rfl (by decide) (Nat.le_of_ble_eq_true rfl) rfl rfl (s_run_ind (V := fun x r => s_V G (d + 2) M_X1_premiseOf [.ref v0, .int v1, .int v2] σ Y_X1_premiseOf x (e_I r)) (fun x z r hs hk => v_X1_premiseOf hs (by cases z <;> exact hk)) h)
/-! X0_boughtInRow -/
noncomputable def T_X0_boughtInRow_0 (v0 : Nat) (v1 : Int32) (σ : sS) : Option (sZ Int32) :=
  some (.inl (7, [.ref v0, .int 0, .int v1, .int 0], σ))
noncomputable def U_X0_boughtInRow_0 (vs : List Value) (σ : sS) : Option (sZ Int32) := (g_r vs).bind fun a0 => (g_i a0.2).bind fun a1 => (g_e a1.2).bind fun _ => T_X0_boughtInRow_0 a0.1 a1.1 σ
noncomputable def T_X0_boughtInRow_7 (v0 : Nat) (v2 : Int32) (v3 : Int32) (v4 : Int32) (σ : sS) : Option (sZ Int32) :=
  if (40 : Int32) ≤ v4 then (some (.inr (v2, σ)))
  else ((s_fr σ v0 0 5).bind fun x1 =>
  (F_X1_ofLine x1 v3 2 σ).bind fun q2 =>
  if q2.1 = 15 then ((s_fr q2.2 v0 0 5).bind fun x3 =>
  (F_X1_premiseOf x3 v3 0 q2.2).bind fun q4 =>
  some (.inl (7, [.ref v0, .int (v2 + 1), .int q4.1, .int (v4 + 1)], q4.2)))
  else (some (.inr (v2, q2.2))))
noncomputable def U_X0_boughtInRow_7 (vs : List Value) (σ : sS) : Option (sZ Int32) := (g_r vs).bind fun a0 => (g_i a0.2).bind fun a1 => (g_i a1.2).bind fun a2 => (g_i a2.2).bind fun a3 => (g_e a3.2).bind fun _ => T_X0_boughtInRow_7 a0.1 a1.1 a2.1 a3.1 σ
noncomputable def S_X0_boughtInRow (x : sL) : Option (sZ Int32) := if x.1 = 0 then U_X0_boughtInRow_0 x.2.1 x.2.2 else if x.1 = 7 then U_X0_boughtInRow_7 x.2.1 x.2.2 else none
def Y_X0_boughtInRow (pc : Nat) : List Nat := if pc = 0 then [0, 1] else if pc = 7 then [0, 2, 3, 4] else []
noncomputable def F_X0_boughtInRow (v0 : Nat) (v1 : Int32) (σ : sS) : Option (Int32 × sS) := (s_is σ v0 0).bind fun _ => s_run S_X0_boughtInRow (0, [.ref v0, .int v1], σ)
theorem l_X0_boughtInRow_0 {v0 : Nat} {v1 : Int32} {σ : sS} {z : sZ Int32} (hf : T_X0_boughtInRow_0 v0 v1 σ = some z) : s_lz σ z := by
  unfold T_X0_boughtInRow_0 at hf
  cases hf
  exact s_le.rf
theorem l_X0_boughtInRow_7 {v0 : Nat} {v2 : Int32} {v3 : Int32} {v4 : Int32} {σ : sS} {z : sZ Int32} (hf : T_X0_boughtInRow_7 v0 v2 v3 v4 σ = some z) : s_lz σ z := by
  unfold T_X0_boughtInRow_7 at hf
  rcases s_ite hf with ⟨-, hf⟩ | ⟨-, hf⟩
  · cases hf
    exact s_le.rf
  · obtain ⟨x1, -, hf⟩ := s_bind hf
    obtain ⟨q2, hh, hf⟩ := s_bind hf
    refine s_lz.tr (l_X1_ofLine hh) ?_
    rcases s_ite hf with ⟨-, hf⟩ | ⟨-, hf⟩
    · obtain ⟨x3, -, hf⟩ := s_bind hf
      obtain ⟨q4, hh, hf⟩ := s_bind hf
      refine s_lz.tr (l_X1_premiseOf hh) ?_
      cases hf
      exact s_le.rf
    · cases hf
      exact s_le.rf
theorem l_X0_boughtInRow_s {x : sL} {z : sZ Int32} (hs : S_X0_boughtInRow x = some z) : s_lz x.2.2 z := by
  obtain ⟨pc, vs, σ⟩ := x
  unfold S_X0_boughtInRow at hs
  dsimp only at hs ⊢
  rcases s_ite hs with ⟨c, hs⟩ | ⟨-, hs⟩
  · subst c
    unfold U_X0_boughtInRow_0 at hs
    obtain ⟨a0, g0, hs⟩ := s_bind hs
    obtain ⟨a1, g1, hs⟩ := s_bind hs
    obtain ⟨u9, ge, hs⟩ := s_bind hs
    exact l_X0_boughtInRow_0 hs
  rcases s_ite hs with ⟨c, hs⟩ | ⟨-, hs⟩
  · subst c
    unfold U_X0_boughtInRow_7 at hs
    obtain ⟨a0, g0, hs⟩ := s_bind hs
    obtain ⟨a1, g1, hs⟩ := s_bind hs
    obtain ⟨a2, g2, hs⟩ := s_bind hs
    obtain ⟨a3, g3, hs⟩ := s_bind hs
    obtain ⟨u9, ge, hs⟩ := s_bind hs
    exact l_X0_boughtInRow_7 hs
  cases hs
theorem l_X0_boughtInRow {v0 : Nat} {v1 : Int32} {σ : sS} {q : Int32 × sS} (h : F_X0_boughtInRow v0 v1 σ = some q) : s_le σ q.2 := by
  unfold F_X0_boughtInRow at h
  obtain ⟨-, -, h⟩ := s_bind h
  exact s_run_ind (V := fun x r => s_le x.2.2 r.2) (fun x z r hs hk => by
    have h9 := l_X0_boughtInRow_s hs
    cases z with
    | inl y => exact s_le.tr h9 hk
    | inr q => cases hk; exact h9) h
theorem b_X0_boughtInRow {v0 : Nat} {v1 : Int32} {σ : sS} {q : Int32 × sS} (h : F_X0_boughtInRow v0 v1 σ = some q) : ∃ fs, σ.1 v0 = some (.inr (0, fs)) := by
  unfold F_X0_boughtInRow at h
  obtain ⟨u, hu, -⟩ := s_bind h
  exact s_is_to hu
set_option maxRecDepth 100000 in
set_option maxHeartbeats 4000000 in
theorem v_X0_boughtInRow_0 {G : sG} {d : Nat} {vs0 : List Value} {σ0 : sS} {v0 : Nat} {v1 : Int32} {σ : sS} {z : sZ Int32} {r : Int32 × sS} (hf : T_X0_boughtInRow_0 v0 v1 σ = some z) (k : s_K G (d + 3) M_X0_boughtInRow vs0 σ0 Y_X0_boughtInRow e_I z r) : s_V G (d + 3) M_X0_boughtInRow vs0 σ0 Y_X0_boughtInRow (0, [.ref v0, .int v1], σ) (e_I r) := by
  have le0 : s_le σ (e_I r).2 := s_lek hem_I (l_X0_boughtInRow_0 hf) k
  refine ⟨le0, ?_⟩
  intro p e s m below meth c H locs cells slots ls X I hn1 hn2 hl
  have hn : cells + σ0.2.1 ≤ σ.2.1 ∧ slots + σ0.2.2.1 ≤ σ.2.2.1 := ⟨hn1, hn2⟩
  have hl : lv_has ls 5 [(0, .ref v0), (1, .int v1)] := hl
  have hx := X.1
  have hb : c.code = cX0_boughtInRow := X.2.1
  have hown : s.vm.findClass RX0 = some m.cls := X.2.2.2.2.2.1
  have hts := X.2.2.2.2.2.2.1
  refine W.eq (g2 := F0 m 0 ls []) rfl ?_
  unfold T_X0_boughtInRow_0 at hf
  cases hf
  have k : s_V G (d + 3) M_X0_boughtInRow vs0 σ0 Y_X0_boughtInRow (7, [.ref v0, .int 0, .int v1, .int 0], σ) (e_I r) := k
  refine lv_iconst (v := 0) hx hb dX0_boughtInRow_0 (by decide) ?_
  refine lv_istore_n (lv' := [(2, .int 0), (0, .ref v0), (1, .int v1)]) hx hb dX0_boughtInRow_1 rfl hl (by decide) rfl (fun ls hl => ?_)
  refine lv_iload_n hx hb dX0_boughtInRow_2 rfl (lv_at hl 2 rfl) ?_
  refine lv_istore_n (lv' := [(3, .int v1), (2, .int 0), (0, .ref v0), (1, .int v1)]) hx hb dX0_boughtInRow_3 rfl hl (by decide) rfl (fun ls hl => ?_)
  refine lv_iconst (v := 0) hx hb dX0_boughtInRow_4 (by decide) ?_
  refine lv_istore (lv' := [(4, .int 0), (3, .int v1), (2, .int 0), (0, .ref v0), (1, .int v1)]) hx hb dX0_boughtInRow_5 hl (by decide) rfl (fun ls hl => ?_)
  exact k.2 p e s m below meth c _ _ _ _ _ X I hn.1 hn.2 (lv_sub hl [3, 2, 1, 0] rfl)
set_option maxRecDepth 100000 in
set_option maxHeartbeats 4000000 in
theorem v_X0_boughtInRow_7 {G : sG} {d : Nat} {vs0 : List Value} {σ0 : sS} {v0 : Nat} {v2 : Int32} {v3 : Int32} {v4 : Int32} {σ : sS} {z : sZ Int32} {r : Int32 × sS} (hf : T_X0_boughtInRow_7 v0 v2 v3 v4 σ = some z) (k : s_K G (d + 3) M_X0_boughtInRow vs0 σ0 Y_X0_boughtInRow e_I z r) : s_V G (d + 3) M_X0_boughtInRow vs0 σ0 Y_X0_boughtInRow (7, [.ref v0, .int v2, .int v3, .int v4], σ) (e_I r) := by
  have le0 : s_le σ (e_I r).2 := s_lek hem_I (l_X0_boughtInRow_7 hf) k
  refine ⟨le0, ?_⟩
  intro p e s m below meth c H locs cells slots ls X I hn1 hn2 hl
  have hn : cells + σ0.2.1 ≤ σ.2.1 ∧ slots + σ0.2.2.1 ≤ σ.2.2.1 := ⟨hn1, hn2⟩
  have hl : lv_has ls 5 [(0, .ref v0), (2, .int v2), (3, .int v3), (4, .int v4)] := hl
  have hx := X.1
  have hb : c.code = cX0_boughtInRow := X.2.1
  have hown : s.vm.findClass RX0 = some m.cls := X.2.2.2.2.2.1
  have hts := X.2.2.2.2.2.2.1
  refine W.eq (g2 := F0 m 7 ls []) rfl ?_
  unfold T_X0_boughtInRow_7 at hf
  refine lv_iload hx hb dX0_boughtInRow_7 (lv_at hl 3 rfl) ?_
  refine lv_bipush (v := 40) hx hb dX0_boughtInRow_9 (by decide) ?_
  rcases s_ite hf with ⟨c1, hf⟩ | ⟨c1, hf⟩
  · refine lv_icmp_ge (tgt := 47) hx hb dX0_boughtInRow_11 (by decide) (fun _ => ?_) (fun n => absurd c1 n)
    cases hf
    have k : _ = r := k
    subst k
    refine lv_iload_n hx hb dX0_boughtInRow_47 rfl (lv_at hl 1 rfl) ?_
    exact r_iret X I rfl rfl rfl hn dX0_boughtInRow_48
  · refine lv_icmp_ge (tgt := 47) hx hb dX0_boughtInRow_11 (by decide) (fun n => absurd n c1) (fun _ => ?_)
    obtain ⟨x1, h2, hf⟩ := s_bind hf
    obtain ⟨q2, h3, hf⟩ := s_bind hf
    have le4 : s_le q2.2 (e_I r).2 := by
      refine s_lek hem_I ?_ k
      rcases s_ite hf with ⟨-, hf⟩ | ⟨-, hf⟩
      · obtain ⟨x3, -, hf⟩ := s_bind hf
        obtain ⟨q4, hh, hf⟩ := s_bind hf
        refine s_lz.tr (l_X1_premiseOf hh) ?_
        cases hf
        exact s_le.rf
      · cases hf
        exact s_le.rf
    refine lv_aload_n hx hb dX0_boughtInRow_14 rfl (lv_at hl 0 rfl) ?_
    refine r_gr X I fl_X0_15 h2 dX0_boughtInRow_15 ?_
    refine lv_iload_n hx hb dX0_boughtInRow_18 rfl (lv_at hl 2 rfl) ?_
    refine lv_iconst (v := 2) hx hb dX0_boughtInRow_19 (by decide) ?_
    refine r_callV (Y := M_X1_ofLine) (v := some (.int q2.1)) X I w_517 my_X1_ofLine (by omega) (t_X1_ofLine (G := G) (d := d + 1) h3) (b_X1_ofLine h3) rfl rfl hl.1 rfl (Nat.le_of_ble_eq_true rfl) hn le4 dX0_boughtInRow_20 (fun H locs cells slots I hn1 hn2 => ?_)
    have I : s_I G q2.2 s H locs := I
    have hn : cells + σ0.2.1 ≤ q2.2.2.1 ∧ slots + σ0.2.2.1 ≤ q2.2.2.2.1 := ⟨hn1, hn2⟩
    refine lv_bipush (v := 15) hx hb dX0_boughtInRow_23 (by decide) ?_
    rcases s_ite hf with ⟨c5, hf⟩ | ⟨c5, hf⟩
    · refine lv_icmp_ne (tgt := 47) hx hb dX0_boughtInRow_25 (by decide) (fun n => absurd c5 n) (fun _ => ?_)
      obtain ⟨x3, h6, hf⟩ := s_bind hf
      obtain ⟨q4, h7, hf⟩ := s_bind hf
      cases hf
      have k : s_V G (d + 3) M_X0_boughtInRow vs0 σ0 Y_X0_boughtInRow (7, [.ref v0, .int (v2 + 1), .int q4.1, .int (v4 + 1)], q4.2) (e_I r) := k
      have le8 : s_le q4.2 (e_I r).2 := k.1
      refine lv_iinc (v := (v2 + 1)) (lv' := [(2, .int (v2 + 1)), (0, .ref v0), (3, .int v3), (4, .int v4)]) hx hb dX0_boughtInRow_28 hl (k := 1) rfl rfl (by decide) rfl (fun ls hl => ?_)
      refine lv_aload_n hx hb dX0_boughtInRow_31 rfl (lv_at hl 1 rfl) ?_
      refine r_gr X I fl_X0_15 h6 dX0_boughtInRow_32 ?_
      refine lv_iload_n hx hb dX0_boughtInRow_35 rfl (lv_at hl 2 rfl) ?_
      refine lv_iconst (v := 0) hx hb dX0_boughtInRow_36 (by decide) ?_
      refine r_callV (Y := M_X1_premiseOf) (v := some (.int q4.1)) X I w_554 my_X1_premiseOf (by omega) (t_X1_premiseOf (G := G) (d := d + 0) h7) (b_X1_premiseOf h7) rfl rfl hl.1 rfl (Nat.le_of_ble_eq_true rfl) hn le8 dX0_boughtInRow_37 (fun H locs cells slots I hn1 hn2 => ?_)
      have I : s_I G q4.2 s H locs := I
      have hn : cells + σ0.2.1 ≤ q4.2.2.1 ∧ slots + σ0.2.2.1 ≤ q4.2.2.2.1 := ⟨hn1, hn2⟩
      refine lv_istore_n (lv' := [(3, .int q4.1), (2, .int (v2 + 1)), (0, .ref v0), (4, .int v4)]) hx hb dX0_boughtInRow_40 rfl hl (by decide) rfl (fun ls hl => ?_)
      refine lv_iinc (v := (v4 + 1)) (lv' := [(4, .int (v4 + 1)), (3, .int q4.1), (2, .int (v2 + 1)), (0, .ref v0)]) hx hb dX0_boughtInRow_41 hl (k := 3) rfl rfl (by decide) rfl (fun ls hl => ?_)
      refine lv_goto (tgt := 7) hx hb dX0_boughtInRow_44 (by decide) ?_
      exact k.2 p e s m below meth c _ _ _ _ _ X I hn.1 hn.2 (lv_sub hl [3, 2, 1, 0] rfl)
    · refine lv_icmp_ne (tgt := 47) hx hb dX0_boughtInRow_25 (by decide) (fun _ => ?_) (fun n => absurd n c5)
      cases hf
      have k : _ = r := k
      subst k
      refine lv_iload_n hx hb dX0_boughtInRow_47 rfl (lv_at hl 1 rfl) ?_
      exact r_iret X I rfl rfl rfl hn dX0_boughtInRow_48
theorem v_X0_boughtInRow {G : sG} {d : Nat} {vs0 : List Value} {σ0 : sS} {x : sL} {z : sZ Int32} {r : Int32 × sS} (hs : S_X0_boughtInRow x = some z) (k : s_K G (d + 3) M_X0_boughtInRow vs0 σ0 Y_X0_boughtInRow e_I z r) : s_V G (d + 3) M_X0_boughtInRow vs0 σ0 Y_X0_boughtInRow x (e_I r) := by
  obtain ⟨pc, vs, σ⟩ := x
  unfold S_X0_boughtInRow at hs
  dsimp only at hs
  rcases s_ite hs with ⟨c, hs⟩ | ⟨-, hs⟩
  · subst c
    unfold U_X0_boughtInRow_0 at hs
    obtain ⟨a0, g0, hs⟩ := s_bind hs
    obtain ⟨a1, g1, hs⟩ := s_bind hs
    obtain ⟨u9, ge, hs⟩ := s_bind hs
    rw [g_r_to g0, g_i_to g1, g_e_to ge]
    exact v_X0_boughtInRow_0 hs k
  rcases s_ite hs with ⟨c, hs⟩ | ⟨-, hs⟩
  · subst c
    unfold U_X0_boughtInRow_7 at hs
    obtain ⟨a0, g0, hs⟩ := s_bind hs
    obtain ⟨a1, g1, hs⟩ := s_bind hs
    obtain ⟨a2, g2, hs⟩ := s_bind hs
    obtain ⟨a3, g3, hs⟩ := s_bind hs
    obtain ⟨u9, ge, hs⟩ := s_bind hs
    rw [g_r_to g0, g_i_to g1, g_i_to g2, g_i_to g3, g_e_to ge]
    exact v_X0_boughtInRow_7 hs k
  cases hs
theorem t_X0_boughtInRow {G : sG} {d : Nat} {v0 : Nat} {v1 : Int32} {σ : sS} {q : Int32 × sS} (h : F_X0_boughtInRow v0 v1 σ = some q) : s_T G (d + 3) M_X0_boughtInRow [.ref v0, .int v1] σ (e_I q) := by
  unfold F_X0_boughtInRow at h
  obtain ⟨-, -, h⟩ := s_bind h
  exact s_ofV rfl (by decide) (Nat.le_of_ble_eq_true rfl) rfl rfl (s_run_ind (V := fun x r => s_V G (d + 3) M_X0_boughtInRow [.ref v0, .int v1] σ Y_X0_boughtInRow x (e_I r)) (fun x z r hs hk => v_X0_boughtInRow hs (by cases z <;> exact hk)) h)
/-! X7_chain -/
noncomputable def T_X7_chain_0 (v0 : Nat) (v1 : Int32) (σ : sS) : Option (sZ (Int32 ⊕ String)) :=
  (F_X7_needLine v0 v1 σ).bind fun q1 => s_sum q1.1 (fun x2 => (s_fr q1.2 v0 7 5).bind fun x4 =>
  (F_X0_boughtInRow x4 v1 q1.2).bind fun q5 =>
  some (.inr (.inl q5.1, q5.2))) (fun E3 => some (.inr (.inr E3, q1.2)))
noncomputable def U_X7_chain_0 (vs : List Value) (σ : sS) : Option (sZ (Int32 ⊕ String)) := (g_r vs).bind fun a0 => (g_i a0.2).bind fun a1 => (g_e a1.2).bind fun _ => T_X7_chain_0 a0.1 a1.1 σ
noncomputable def S_X7_chain (x : sL) : Option (sZ (Int32 ⊕ String)) := if x.1 = 0 then U_X7_chain_0 x.2.1 x.2.2 else none
def Y_X7_chain (pc : Nat) : List Nat := if pc = 0 then [0, 1] else []
noncomputable def F_X7_chain (v0 : Nat) (v1 : Int32) (σ : sS) : Option ((Int32 ⊕ String) × sS) := (s_is σ v0 7).bind fun _ => s_run S_X7_chain (0, [.ref v0, .int v1], σ)
theorem l_X7_chain_0 {v0 : Nat} {v1 : Int32} {σ : sS} {z : sZ (Int32 ⊕ String)} (hf : T_X7_chain_0 v0 v1 σ = some z) : s_lz σ z := by
  unfold T_X7_chain_0 at hf
  obtain ⟨q1, hh, hf⟩ := s_bind hf
  refine s_lz.tr (l_X7_needLine hh) ?_
  rcases s_sum_some hf with ⟨x2, -, hf⟩ | ⟨E3, -, hf⟩
  · obtain ⟨x4, -, hf⟩ := s_bind hf
    obtain ⟨q5, hh, hf⟩ := s_bind hf
    refine s_lz.tr (l_X0_boughtInRow hh) ?_
    cases hf
    exact s_le.rf
  · cases hf
    exact s_le.rf
theorem l_X7_chain_s {x : sL} {z : sZ (Int32 ⊕ String)} (hs : S_X7_chain x = some z) : s_lz x.2.2 z := by
  obtain ⟨pc, vs, σ⟩ := x
  unfold S_X7_chain at hs
  dsimp only at hs ⊢
  rcases s_ite hs with ⟨c, hs⟩ | ⟨-, hs⟩
  · subst c
    unfold U_X7_chain_0 at hs
    obtain ⟨a0, g0, hs⟩ := s_bind hs
    obtain ⟨a1, g1, hs⟩ := s_bind hs
    obtain ⟨u9, ge, hs⟩ := s_bind hs
    exact l_X7_chain_0 hs
  cases hs
theorem l_X7_chain {v0 : Nat} {v1 : Int32} {σ : sS} {q : (Int32 ⊕ String) × sS} (h : F_X7_chain v0 v1 σ = some q) : s_le σ q.2 := by
  unfold F_X7_chain at h
  obtain ⟨-, -, h⟩ := s_bind h
  exact s_run_ind (V := fun x r => s_le x.2.2 r.2) (fun x z r hs hk => by
    have h9 := l_X7_chain_s hs
    cases z with
    | inl y => exact s_le.tr h9 hk
    | inr q => cases hk; exact h9) h
theorem b_X7_chain {v0 : Nat} {v1 : Int32} {σ : sS} {q : (Int32 ⊕ String) × sS} (h : F_X7_chain v0 v1 σ = some q) : ∃ fs, σ.1 v0 = some (.inr (7, fs)) := by
  unfold F_X7_chain at h
  obtain ⟨u, hu, -⟩ := s_bind h
  exact s_is_to hu
set_option maxRecDepth 100000 in
set_option maxHeartbeats 4000000 in
theorem v_X7_chain_0 {G : sG} {d : Nat} {vs0 : List Value} {σ0 : sS} {v0 : Nat} {v1 : Int32} {σ : sS} {z : sZ (Int32 ⊕ String)} {r : (Int32 ⊕ String) × sS} (hf : T_X7_chain_0 v0 v1 σ = some z) (k : s_K G (d + 4) M_X7_chain vs0 σ0 Y_X7_chain e_IX z r) : s_V G (d + 4) M_X7_chain vs0 σ0 Y_X7_chain (0, [.ref v0, .int v1], σ) (e_IX r) := by
  have le0 : s_le σ (e_IX r).2 := s_lek hem_IX (l_X7_chain_0 hf) k
  refine ⟨le0, ?_⟩
  intro p e s m below meth c H locs cells slots ls X I hn1 hn2 hl
  have hn : cells + σ0.2.1 ≤ σ.2.1 ∧ slots + σ0.2.2.1 ≤ σ.2.2.1 := ⟨hn1, hn2⟩
  have hl : lv_has ls 2 [(0, .ref v0), (1, .int v1)] := hl
  have hx := X.1
  have hb : c.code = cX7_chain := X.2.1
  have hown : s.vm.findClass RX7 = some m.cls := X.2.2.2.2.2.1
  have hts := X.2.2.2.2.2.2.1
  refine W.eq (g2 := F0 m 0 ls []) rfl ?_
  unfold T_X7_chain_0 at hf
  obtain ⟨q1, h1, hf⟩ := s_bind hf
  refine lv_aload_n hx hb dX7_chain_0 rfl (lv_at hl 0 rfl) ?_
  refine lv_iload_n hx hb dX7_chain_1 rfl (lv_at hl 1 rfl) ?_
  rcases s_sum_some hf with ⟨x2, hq2, hf⟩ | ⟨E3, hq2, hf⟩
  · have le3 : s_le q1.2 (e_IX r).2 := by
      refine s_lek hem_IX ?_ k
      obtain ⟨x4, -, hf⟩ := s_bind hf
      obtain ⟨q5, hh, hf⟩ := s_bind hf
      refine s_lz.tr (l_X0_boughtInRow hh) ?_
      cases hf
      exact s_le.rf
    refine r_callV (Y := M_X7_needLine) (v := none) X I w_1138 my_X7_needLine (by omega) (t_X7_needLine (G := G) (d := d + 2) h1) (b_X7_needLine h1) (e_VX_l hq2) rfl hl.1 rfl (Nat.le_of_ble_eq_true rfl) hn le3 dX7_chain_2 (fun H locs cells slots I hn1 hn2 => ?_)
    have I : s_I G q1.2 s H locs := I
    have hn : cells + σ0.2.1 ≤ q1.2.2.1 ∧ slots + σ0.2.2.1 ≤ q1.2.2.2.1 := ⟨hn1, hn2⟩
    obtain ⟨x4, h4, hf⟩ := s_bind hf
    obtain ⟨q5, h5, hf⟩ := s_bind hf
    cases hf
    have k : _ = r := k
    subst k
    have le6 : s_le q5.2 q5.2 := s_le.rf
    refine lv_aload_n hx hb dX7_chain_5 rfl (lv_at hl 0 rfl) ?_
    refine r_gr X I fl_X7_49 h4 dX7_chain_6 ?_
    refine lv_iload_n hx hb dX7_chain_9 rfl (lv_at hl 1 rfl) ?_
    refine r_callV (Y := M_X0_boughtInRow) (v := some (.int q5.1)) X I w_1667 my_X0_boughtInRow (by omega) (t_X0_boughtInRow (G := G) (d := d + 0) h5) (b_X0_boughtInRow h5) rfl rfl hl.1 rfl (Nat.le_of_ble_eq_true rfl) hn le6 dX7_chain_10 (fun H locs cells slots I hn1 hn2 => ?_)
    have I : s_I G q5.2 s H locs := I
    have hn : cells + σ0.2.1 ≤ q5.2.2.1 ∧ slots + σ0.2.2.1 ≤ q5.2.2.2.1 := ⟨hn1, hn2⟩
    exact r_iret X I rfl rfl rfl hn dX7_chain_13
  · cases hf
    have k : _ = r := k
    subst k
    exact r_callVx (Y := M_X7_needLine) X I rfl w_1138 my_X7_needLine (by omega) (t_X7_needLine (G := G) (d := d + 2) h1) (b_X7_needLine h1) (e_VX_r hq2) rfl hl.1 rfl (Nat.le_of_ble_eq_true rfl) hn rfl dX7_chain_2
theorem v_X7_chain {G : sG} {d : Nat} {vs0 : List Value} {σ0 : sS} {x : sL} {z : sZ (Int32 ⊕ String)} {r : (Int32 ⊕ String) × sS} (hs : S_X7_chain x = some z) (k : s_K G (d + 4) M_X7_chain vs0 σ0 Y_X7_chain e_IX z r) : s_V G (d + 4) M_X7_chain vs0 σ0 Y_X7_chain x (e_IX r) := by
  obtain ⟨pc, vs, σ⟩ := x
  unfold S_X7_chain at hs
  dsimp only at hs
  rcases s_ite hs with ⟨c, hs⟩ | ⟨-, hs⟩
  · subst c
    unfold U_X7_chain_0 at hs
    obtain ⟨a0, g0, hs⟩ := s_bind hs
    obtain ⟨a1, g1, hs⟩ := s_bind hs
    obtain ⟨u9, ge, hs⟩ := s_bind hs
    rw [g_r_to g0, g_i_to g1, g_e_to ge]
    exact v_X7_chain_0 hs k
  cases hs
theorem t_X7_chain {G : sG} {d : Nat} {v0 : Nat} {v1 : Int32} {σ : sS} {q : (Int32 ⊕ String) × sS} (h : F_X7_chain v0 v1 σ = some q) : s_T G (d + 4) M_X7_chain [.ref v0, .int v1] σ (e_IX q) := by
  unfold F_X7_chain at h
  obtain ⟨-, -, h⟩ := s_bind h
  exact s_ofV rfl (by decide) (Nat.le_of_ble_eq_true rfl) rfl rfl (s_run_ind (V := fun x r => s_V G (d + 4) M_X7_chain [.ref v0, .int v1] σ Y_X7_chain x (e_IX r)) (fun x z r hs hk => v_X7_chain hs (by cases z <;> exact hk)) h)
/-! L_chain -/
noncomputable def T_L_chain_0 (v0 : Nat) (v1 : Int32) (v2 : Nat) (σ : sS) : Option (sZ Int32) :=
  (F_X7_chain v0 v1 σ).bind fun q1 => s_sum q1.1 (fun x2 => (s_sl q1.2 v2 0 ((x2 : Int32).toInt64)).bind fun σ4 =>
  some (.inr (0, σ4))) (fun E3 => if E3 = "java/lang/IndexOutOfBoundsException" then (some (.inr (1, q1.2))) else none)
noncomputable def U_L_chain_0 (vs : List Value) (σ : sS) : Option (sZ Int32) := (g_r vs).bind fun a0 => (g_i a0.2).bind fun a1 => (g_r a1.2).bind fun a2 => (g_e a2.2).bind fun _ => T_L_chain_0 a0.1 a1.1 a2.1 σ
noncomputable def S_L_chain (x : sL) : Option (sZ Int32) := if x.1 = 0 then U_L_chain_0 x.2.1 x.2.2 else none
def Y_L_chain (pc : Nat) : List Nat := if pc = 0 then [0, 1, 2] else []
noncomputable def F_L_chain (v0 : Nat) (v1 : Int32) (v2 : Nat) (σ : sS) : Option (Int32 × sS) := s_run S_L_chain (0, [.ref v0, .int v1, .ref v2], σ)
theorem l_L_chain_0 {v0 : Nat} {v1 : Int32} {v2 : Nat} {σ : sS} {z : sZ Int32} (hf : T_L_chain_0 v0 v1 v2 σ = some z) : s_lz σ z := by
  unfold T_L_chain_0 at hf
  obtain ⟨q1, hh, hf⟩ := s_bind hf
  refine s_lz.tr (l_X7_chain hh) ?_
  rcases s_sum_some hf with ⟨x2, -, hf⟩ | ⟨E3, -, hf⟩
  · obtain ⟨σ4, hh, hf⟩ := s_bind hf
    refine s_lz.tr (s_le2 (s_sl_2 hh)) ?_
    cases hf
    exact s_le.rf
  · rcases s_ite hf with ⟨-, hf⟩ | ⟨-, hf⟩
    · cases hf
      exact s_le.rf
    cases hf
theorem l_L_chain_s {x : sL} {z : sZ Int32} (hs : S_L_chain x = some z) : s_lz x.2.2 z := by
  obtain ⟨pc, vs, σ⟩ := x
  unfold S_L_chain at hs
  dsimp only at hs ⊢
  rcases s_ite hs with ⟨c, hs⟩ | ⟨-, hs⟩
  · subst c
    unfold U_L_chain_0 at hs
    obtain ⟨a0, g0, hs⟩ := s_bind hs
    obtain ⟨a1, g1, hs⟩ := s_bind hs
    obtain ⟨a2, g2, hs⟩ := s_bind hs
    obtain ⟨u9, ge, hs⟩ := s_bind hs
    exact l_L_chain_0 hs
  cases hs
theorem l_L_chain {v0 : Nat} {v1 : Int32} {v2 : Nat} {σ : sS} {q : Int32 × sS} (h : F_L_chain v0 v1 v2 σ = some q) : s_le σ q.2 := by
  unfold F_L_chain at h
  exact s_run_ind (V := fun x r => s_le x.2.2 r.2) (fun x z r hs hk => by
    have h9 := l_L_chain_s hs
    cases z with
    | inl y => exact s_le.tr h9 hk
    | inr q => cases hk; exact h9) h
set_option maxRecDepth 100000 in
set_option maxHeartbeats 4000000 in
theorem v_L_chain_0 {G : sG} {d : Nat} {vs0 : List Value} {σ0 : sS} {v0 : Nat} {v1 : Int32} {v2 : Nat} {σ : sS} {z : sZ Int32} {r : Int32 × sS} (hf : T_L_chain_0 v0 v1 v2 σ = some z) (k : s_K G (d + 5) M_L_chain vs0 σ0 Y_L_chain e_I z r) : s_V G (d + 5) M_L_chain vs0 σ0 Y_L_chain (0, [.ref v0, .int v1, .ref v2], σ) (e_I r) := by
  have le0 : s_le σ (e_I r).2 := s_lek hem_I (l_L_chain_0 hf) k
  refine ⟨le0, ?_⟩
  intro p e s m below meth c H locs cells slots ls X I hn1 hn2 hl
  have hn : cells + σ0.2.1 ≤ σ.2.1 ∧ slots + σ0.2.2.1 ≤ σ.2.2.1 := ⟨hn1, hn2⟩
  have hl : lv_has ls 4 [(0, .ref v0), (1, .int v1), (2, .ref v2)] := hl
  have hx := X.1
  have hb : c.code = cL_chain := X.2.1
  have hown : s.vm.findClass RL = some m.cls := X.2.2.2.2.2.1
  have hts := X.2.2.2.2.2.2.1
  refine W.eq (g2 := F0 m 0 ls []) rfl ?_
  unfold T_L_chain_0 at hf
  obtain ⟨q1, h1, hf⟩ := s_bind hf
  refine lv_aload_n hx hb dL_chain_0 rfl (lv_at hl 2 rfl) ?_
  refine lv_iconst (v := 0) hx hb dL_chain_1 (by decide) ?_
  refine lv_aload_n hx hb dL_chain_2 rfl (lv_at hl 0 rfl) ?_
  refine lv_iload_n hx hb dL_chain_3 rfl (lv_at hl 1 rfl) ?_
  rcases s_sum_some hf with ⟨x2, hq2, hf⟩ | ⟨E3, hq2, hf⟩
  · have le3 : s_le q1.2 (e_I r).2 := by
      refine s_lek hem_I ?_ k
      obtain ⟨σ4, hh, hf⟩ := s_bind hf
      refine s_lz.tr (s_le2 (s_sl_2 hh)) ?_
      cases hf
      exact s_le.rf
    refine r_callV (Y := M_X7_chain) (v := some (.int x2)) X I w_1663 my_X7_chain (by omega) (t_X7_chain (G := G) (d := d + 0) h1) (b_X7_chain h1) (e_IX_l hq2) rfl hl.1 rfl (Nat.le_of_ble_eq_true rfl) hn le3 dL_chain_4 (fun H locs cells slots I hn1 hn2 => ?_)
    have I : s_I G q1.2 s H locs := I
    have hn : cells + σ0.2.1 ≤ q1.2.2.1 ∧ slots + σ0.2.2.1 ≤ q1.2.2.2.1 := ⟨hn1, hn2⟩
    obtain ⟨σ4, h4, hf⟩ := s_bind hf
    cases hf
    have k : _ = r := k
    subst k
    have le5 : s_le σ4 σ4 := s_le.rf
    refine lv_i2l hx hb dL_chain_7 rfl ?_
    refine r_last X I h4 dL_chain_8 (fun H locs I => ?_)
    have hn := s_k2 (s_sl_2 h4) hn
    refine lv_goto (tgt := 15) hx hb dL_chain_9 (by decide) ?_
    refine lv_iconst (v := 0) hx hb dL_chain_15 (by decide) ?_
    exact r_iret X I rfl rfl rfl hn dL_chain_16
  · rcases s_ite hf with ⟨c6, hf⟩ | ⟨c6, hf⟩
    · subst c6
      have le7 : s_le q1.2 (e_I r).2 := by
        refine s_lek hem_I ?_ k
        cases hf
        exact s_le.rf
      refine r_callVh (x := (0, 9, 12, 27)) (Y := M_X7_chain) (E := "java/lang/IndexOutOfBoundsException") (name := "java/lang/IndexOutOfBoundsException") X I [] [] rfl (fun z hz => by cases hz) rfl (by decide) w_1011 (by decide +kernel) w_1663 my_X7_chain (by omega) (t_X7_chain (G := G) (d := d + 0) h1) (b_X7_chain h1) (e_IX_r hq2) rfl hl.1 rfl (Nat.le_of_ble_eq_true rfl) hn le7 dL_chain_4 (fun a5 H locs cells slots I hn1 hn2 => ?_)
      have I : s_I G q1.2 s H locs := I
      have hn : cells + σ0.2.1 ≤ q1.2.2.1 ∧ slots + σ0.2.2.1 ≤ q1.2.2.2.1 := ⟨hn1, hn2⟩
      cases hf
      have k : _ = r := k
      subst k
      refine lv_astore_n (lv' := [(3, .ref a5), (0, .ref v0), (1, .int v1), (2, .ref v2)]) hx hb dL_chain_12 rfl hl (by decide) rfl (fun ls hl => ?_)
      refine lv_iconst (v := 1) hx hb dL_chain_13 (by decide) ?_
      exact r_iret X I rfl rfl rfl hn dL_chain_14
    cases hf
theorem v_L_chain {G : sG} {d : Nat} {vs0 : List Value} {σ0 : sS} {x : sL} {z : sZ Int32} {r : Int32 × sS} (hs : S_L_chain x = some z) (k : s_K G (d + 5) M_L_chain vs0 σ0 Y_L_chain e_I z r) : s_V G (d + 5) M_L_chain vs0 σ0 Y_L_chain x (e_I r) := by
  obtain ⟨pc, vs, σ⟩ := x
  unfold S_L_chain at hs
  dsimp only at hs
  rcases s_ite hs with ⟨c, hs⟩ | ⟨-, hs⟩
  · subst c
    unfold U_L_chain_0 at hs
    obtain ⟨a0, g0, hs⟩ := s_bind hs
    obtain ⟨a1, g1, hs⟩ := s_bind hs
    obtain ⟨a2, g2, hs⟩ := s_bind hs
    obtain ⟨u9, ge, hs⟩ := s_bind hs
    rw [g_r_to g0, g_i_to g1, g_r_to g2, g_e_to ge]
    exact v_L_chain_0 hs k
  cases hs
theorem t_L_chain {G : sG} {d : Nat} {v0 : Nat} {v1 : Int32} {v2 : Nat} {σ : sS} {q : Int32 × sS} (h : F_L_chain v0 v1 v2 σ = some q) : s_T G (d + 5) M_L_chain [.ref v0, .int v1, .ref v2] σ (e_I q) := by
  unfold F_L_chain at h
  exact s_ofVH rfl (by decide) (Nat.le_of_ble_eq_true rfl) rfl rfl (s_run_ind (V := fun x r => s_V G (d + 5) M_L_chain [.ref v0, .int v1, .ref v2] σ Y_L_chain x (e_I r)) (fun x z r hs hk => v_L_chain hs (by cases z <;> exact hk)) h)
/-! X7_needHouse -/
noncomputable def T_X7_needHouse_0 (v0 : Nat) (v1 : Int32) (σ : sS) : Option (sZ (Unit ⊕ String)) :=
  if v1 < 0 then (some (.inr (.inr "java/lang/IndexOutOfBoundsException", s_ex σ)))
  else (if v1 < 3 then (some (.inr (.inl (), σ)))
  else (some (.inr (.inr "java/lang/IndexOutOfBoundsException", s_ex σ))))
noncomputable def U_X7_needHouse_0 (vs : List Value) (σ : sS) : Option (sZ (Unit ⊕ String)) := (g_r vs).bind fun a0 => (g_i a0.2).bind fun a1 => (g_e a1.2).bind fun _ => T_X7_needHouse_0 a0.1 a1.1 σ
noncomputable def S_X7_needHouse (x : sL) : Option (sZ (Unit ⊕ String)) := if x.1 = 0 then U_X7_needHouse_0 x.2.1 x.2.2 else none
def Y_X7_needHouse (pc : Nat) : List Nat := if pc = 0 then [0, 1] else []
noncomputable def F_X7_needHouse (v0 : Nat) (v1 : Int32) (σ : sS) : Option ((Unit ⊕ String) × sS) := (s_is σ v0 7).bind fun _ => s_run S_X7_needHouse (0, [.ref v0, .int v1], σ)
theorem l_X7_needHouse_0 {v0 : Nat} {v1 : Int32} {σ : sS} {z : sZ (Unit ⊕ String)} (hf : T_X7_needHouse_0 v0 v1 σ = some z) : s_lz σ z := by
  unfold T_X7_needHouse_0 at hf
  rcases s_ite hf with ⟨-, hf⟩ | ⟨-, hf⟩
  · cases hf
    exact s_ex_le
  · rcases s_ite hf with ⟨-, hf⟩ | ⟨-, hf⟩
    · cases hf
      exact s_le.rf
    · cases hf
      exact s_ex_le
theorem l_X7_needHouse_s {x : sL} {z : sZ (Unit ⊕ String)} (hs : S_X7_needHouse x = some z) : s_lz x.2.2 z := by
  obtain ⟨pc, vs, σ⟩ := x
  unfold S_X7_needHouse at hs
  dsimp only at hs ⊢
  rcases s_ite hs with ⟨c, hs⟩ | ⟨-, hs⟩
  · subst c
    unfold U_X7_needHouse_0 at hs
    obtain ⟨a0, g0, hs⟩ := s_bind hs
    obtain ⟨a1, g1, hs⟩ := s_bind hs
    obtain ⟨u9, ge, hs⟩ := s_bind hs
    exact l_X7_needHouse_0 hs
  cases hs
theorem l_X7_needHouse {v0 : Nat} {v1 : Int32} {σ : sS} {q : (Unit ⊕ String) × sS} (h : F_X7_needHouse v0 v1 σ = some q) : s_le σ q.2 := by
  unfold F_X7_needHouse at h
  obtain ⟨-, -, h⟩ := s_bind h
  exact s_run_ind (V := fun x r => s_le x.2.2 r.2) (fun x z r hs hk => by
    have h9 := l_X7_needHouse_s hs
    cases z with
    | inl y => exact s_le.tr h9 hk
    | inr q => cases hk; exact h9) h
theorem b_X7_needHouse {v0 : Nat} {v1 : Int32} {σ : sS} {q : (Unit ⊕ String) × sS} (h : F_X7_needHouse v0 v1 σ = some q) : ∃ fs, σ.1 v0 = some (.inr (7, fs)) := by
  unfold F_X7_needHouse at h
  obtain ⟨u, hu, -⟩ := s_bind h
  exact s_is_to hu
set_option maxRecDepth 100000 in
set_option maxHeartbeats 4000000 in
theorem v_X7_needHouse_0 {G : sG} {d : Nat} {vs0 : List Value} {σ0 : sS} {v0 : Nat} {v1 : Int32} {σ : sS} {z : sZ (Unit ⊕ String)} {r : (Unit ⊕ String) × sS} (hf : T_X7_needHouse_0 v0 v1 σ = some z) (k : s_K G (d + 1) M_X7_needHouse vs0 σ0 Y_X7_needHouse e_VX z r) : s_V G (d + 1) M_X7_needHouse vs0 σ0 Y_X7_needHouse (0, [.ref v0, .int v1], σ) (e_VX r) := by
  have le0 : s_le σ (e_VX r).2 := s_lek hem_VX (l_X7_needHouse_0 hf) k
  refine ⟨le0, ?_⟩
  intro p e s m below meth c H locs cells slots ls X I hn1 hn2 hl
  have hn : cells + σ0.2.1 ≤ σ.2.1 ∧ slots + σ0.2.2.1 ≤ σ.2.2.1 := ⟨hn1, hn2⟩
  have hl : lv_has ls 2 [(0, .ref v0), (1, .int v1)] := hl
  have hx := X.1
  have hb : c.code = cX7_needHouse := X.2.1
  have hown : s.vm.findClass RX7 = some m.cls := X.2.2.2.2.2.1
  have hts := X.2.2.2.2.2.2.1
  refine W.eq (g2 := F0 m 0 ls []) rfl ?_
  unfold T_X7_needHouse_0 at hf
  refine lv_iload_n hx hb dX7_needHouse_0 rfl (lv_at hl 1 rfl) ?_
  rcases s_ite hf with ⟨c1, hf⟩ | ⟨c1, hf⟩
  · refine lv_if_lt (tgt := 9) hx hb dX7_needHouse_1 (by decide) (fun _ => ?_) (fun n => absurd c1 n)
    cases hf
    have k : _ = r := k
    subst k
    exact r_throwW X I rfl th_X7_156_348 hl.1 (Nat.le_of_ble_eq_true rfl) hn rfl dX7_needHouse_9 dX7_needHouse_12 dX7_needHouse_13 dX7_needHouse_16 dX7_needHouse_19
  · refine lv_if_lt (tgt := 9) hx hb dX7_needHouse_1 (by decide) (fun n => absurd n c1) (fun _ => ?_)
    refine lv_iload_n hx hb dX7_needHouse_4 rfl (lv_at hl 1 rfl) ?_
    refine lv_iconst (v := 3) hx hb dX7_needHouse_5 (by decide) ?_
    rcases s_ite hf with ⟨c2, hf⟩ | ⟨c2, hf⟩
    · refine lv_icmp_lt (tgt := 20) hx hb dX7_needHouse_6 (by decide) (fun _ => ?_) (fun n => absurd c2 n)
      cases hf
      have k : _ = r := k
      subst k
      exact r_vret X I rfl rfl hn dX7_needHouse_20
    · refine lv_icmp_lt (tgt := 20) hx hb dX7_needHouse_6 (by decide) (fun n => absurd n c2) (fun _ => ?_)
      cases hf
      have k : _ = r := k
      subst k
      exact r_throwW X I rfl th_X7_156_348 hl.1 (Nat.le_of_ble_eq_true rfl) hn rfl dX7_needHouse_9 dX7_needHouse_12 dX7_needHouse_13 dX7_needHouse_16 dX7_needHouse_19
theorem v_X7_needHouse {G : sG} {d : Nat} {vs0 : List Value} {σ0 : sS} {x : sL} {z : sZ (Unit ⊕ String)} {r : (Unit ⊕ String) × sS} (hs : S_X7_needHouse x = some z) (k : s_K G (d + 1) M_X7_needHouse vs0 σ0 Y_X7_needHouse e_VX z r) : s_V G (d + 1) M_X7_needHouse vs0 σ0 Y_X7_needHouse x (e_VX r) := by
  obtain ⟨pc, vs, σ⟩ := x
  unfold S_X7_needHouse at hs
  dsimp only at hs
  rcases s_ite hs with ⟨c, hs⟩ | ⟨-, hs⟩
  · subst c
    unfold U_X7_needHouse_0 at hs
    obtain ⟨a0, g0, hs⟩ := s_bind hs
    obtain ⟨a1, g1, hs⟩ := s_bind hs
    obtain ⟨u9, ge, hs⟩ := s_bind hs
    rw [g_r_to g0, g_i_to g1, g_e_to ge]
    exact v_X7_needHouse_0 hs k
  cases hs
theorem t_X7_needHouse {G : sG} {d : Nat} {v0 : Nat} {v1 : Int32} {σ : sS} {q : (Unit ⊕ String) × sS} (h : F_X7_needHouse v0 v1 σ = some q) : s_T G (d + 1) M_X7_needHouse [.ref v0, .int v1] σ (e_VX q) := by
  unfold F_X7_needHouse at h
  obtain ⟨-, -, h⟩ := s_bind h
  exact s_ofV rfl (by decide) (Nat.le_of_ble_eq_true rfl) rfl rfl (s_run_ind (V := fun x r => s_V G (d + 1) M_X7_needHouse [.ref v0, .int v1] σ Y_X7_needHouse x (e_VX r)) (fun x z r hs hk => v_X7_needHouse hs (by cases z <;> exact hk)) h)
