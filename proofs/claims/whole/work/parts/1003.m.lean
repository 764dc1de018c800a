/-! X1_nodeOf -/
noncomputable def T_X1_nodeOf_0 (v0 : Nat) (v1 : Int32) (σ : sS) : Option (sZ Int32) :=
  if v1 < 0 then (some (.inr ((-1), σ)))
  else ((s_fi σ v0 1 2).bind fun x1 =>
  if x1 ≤ v1 then (some (.inr ((-1), σ)))
  else ((s_fr σ v0 1 11).bind fun x2 =>
  (s_ai σ x2 v1).bind fun x3 =>
  some (.inr (x3, σ))))
noncomputable def U_X1_nodeOf_0 (vs : List Value) (σ : sS) : Option (sZ Int32) := (g_r vs).bind fun a0 => (g_i a0.2).bind fun a1 => (g_e a1.2).bind fun _ => T_X1_nodeOf_0 a0.1 a1.1 σ
noncomputable def S_X1_nodeOf (x : sL) : Option (sZ Int32) := if x.1 = 0 then U_X1_nodeOf_0 x.2.1 x.2.2 else none
def Y_X1_nodeOf (pc : Nat) : List Nat := if pc = 0 then [0, 1] else []
noncomputable def F_X1_nodeOf (v0 : Nat) (v1 : Int32) (σ : sS) : Option (Int32 × sS) := (s_is σ v0 1).bind fun _ => s_run S_X1_nodeOf (0, [.ref v0, .int v1], σ)
theorem l_X1_nodeOf_0 {v0 : Nat} {v1 : Int32} {σ : sS} {z : sZ Int32} (hf : T_X1_nodeOf_0 v0 v1 σ = some z) : s_lz σ z := by
  unfold T_X1_nodeOf_0 at hf
  rcases s_ite hf with ⟨-, hf⟩ | ⟨-, hf⟩
  · cases hf
    exact s_le.rf
  · obtain ⟨x1, -, hf⟩ := s_bind hf
    rcases s_ite hf with ⟨-, hf⟩ | ⟨-, hf⟩
    · cases hf
      exact s_le.rf
    · obtain ⟨x2, -, hf⟩ := s_bind hf
      obtain ⟨x3, -, hf⟩ := s_bind hf
      cases hf
      exact s_le.rf
theorem l_X1_nodeOf_s {x : sL} {z : sZ Int32} (hs : S_X1_nodeOf x = some z) : s_lz x.2.2 z := by
  obtain ⟨pc, vs, σ⟩ := x
  unfold S_X1_nodeOf at hs
  dsimp only at hs ⊢
  rcases s_ite hs with ⟨c, hs⟩ | ⟨-, hs⟩
  · subst c
    unfold U_X1_nodeOf_0 at hs
    obtain ⟨a0, g0, hs⟩ := s_bind hs
    obtain ⟨a1, g1, hs⟩ := s_bind hs
    obtain ⟨u9, ge, hs⟩ := s_bind hs
    exact l_X1_nodeOf_0 hs
  cases hs
theorem l_X1_nodeOf {v0 : Nat} {v1 : Int32} {σ : sS} {q : Int32 × sS} (h : F_X1_nodeOf v0 v1 σ = some q) : s_le σ q.2 := by
  unfold F_X1_nodeOf at h
  obtain ⟨-, -, h⟩ := s_bind h
  exact s_run_ind (V := fun x r => s_le x.2.2 r.2) (fun x z r hs hk => by
    have h9 := l_X1_nodeOf_s hs
    cases z with
    | inl y => exact s_le.tr h9 hk
    | inr q => cases hk; exact h9) h
theorem b_X1_nodeOf {v0 : Nat} {v1 : Int32} {σ : sS} {q : Int32 × sS} (h : F_X1_nodeOf v0 v1 σ = some q) : ∃ fs, σ.1 v0 = some (.inr (1, fs)) := by
  unfold F_X1_nodeOf at h
  obtain ⟨u, hu, -⟩ := s_bind h
  exact s_is_to hu
set_option maxRecDepth 100000 in
set_option maxHeartbeats 4000000 in
theorem v_X1_nodeOf_0 {G : sG} {d : Nat} {vs0 : List Value} {σ0 : sS} {v0 : Nat} {v1 : Int32} {σ : sS} {z : sZ Int32} {r : Int32 × sS} (hf : T_X1_nodeOf_0 v0 v1 σ = some z) (k : s_K G (d + 1) M_X1_nodeOf vs0 σ0 Y_X1_nodeOf e_I z r) : s_V G (d + 1) M_X1_nodeOf vs0 σ0 Y_X1_nodeOf (0, [.ref v0, .int v1], σ) (e_I r) := by
  have le0 : s_le σ (e_I r).2 := s_lek hem_I (l_X1_nodeOf_0 hf) k
  refine ⟨le0, ?_⟩
  intro p e s m below meth c H locs cells slots ls X I hn1 hn2 hl
  have hn : cells + σ0.2.1 ≤ σ.2.1 ∧ slots + σ0.2.2.1 ≤ σ.2.2.1 := ⟨hn1, hn2⟩
  have hl : lv_has ls 2 [(0, .ref v0), (1, .int v1)] := hl
  have hx := X.1
  have hb : c.code = cX1_nodeOf := X.2.1
  have hown : s.vm.findClass RX1 = some m.cls := X.2.2.2.2.2.1
  have hts := X.2.2.2.2.2.2.1
  refine W.eq (g2 := F0 m 0 ls []) rfl ?_
  unfold T_X1_nodeOf_0 at hf
  refine lv_iload_n hx hb dX1_nodeOf_0 rfl (lv_at hl 1 rfl) ?_
  rcases s_ite hf with ⟨c1, hf⟩ | ⟨c1, hf⟩
  · refine lv_if_lt (tgt := 21) hx hb dX1_nodeOf_1 (by decide) (fun _ => ?_) (fun n => absurd c1 n)
    cases hf
    have k : _ = r := k
    subst k
    refine lv_iconst (v := (-1)) hx hb dX1_nodeOf_21 (by decide) ?_
    exact r_iret X I rfl rfl rfl hn dX1_nodeOf_22
  · refine lv_if_lt (tgt := 21) hx hb dX1_nodeOf_1 (by decide) (fun n => absurd n c1) (fun _ => ?_)
    obtain ⟨x1, h2, hf⟩ := s_bind hf
    refine lv_iload_n hx hb dX1_nodeOf_4 rfl (lv_at hl 1 rfl) ?_
    refine lv_aload_n hx hb dX1_nodeOf_5 rfl (lv_at hl 0 rfl) ?_
    refine r_gi X I fl_X1_48 h2 dX1_nodeOf_6 ?_
    rcases s_ite hf with ⟨c3, hf⟩ | ⟨c3, hf⟩
    · refine lv_icmp_ge (tgt := 21) hx hb dX1_nodeOf_9 (by decide) (fun _ => ?_) (fun n => absurd c3 n)
      cases hf
      have k : _ = r := k
      subst k
      refine lv_iconst (v := (-1)) hx hb dX1_nodeOf_21 (by decide) ?_
      exact r_iret X I rfl rfl rfl hn dX1_nodeOf_22
    · refine lv_icmp_ge (tgt := 21) hx hb dX1_nodeOf_9 (by decide) (fun n => absurd n c3) (fun _ => ?_)
      obtain ⟨x2, h4, hf⟩ := s_bind hf
      obtain ⟨x3, h5, hf⟩ := s_bind hf
      cases hf
      have k : _ = r := k
      subst k
      refine lv_aload_n hx hb dX1_nodeOf_12 rfl (lv_at hl 0 rfl) ?_
      refine r_gr X I fl_X1_32 h4 dX1_nodeOf_13 ?_
      refine lv_iload_n hx hb dX1_nodeOf_16 rfl (lv_at hl 1 rfl) ?_
      refine r_iald X I h5 dX1_nodeOf_17 ?_
      refine lv_goto (tgt := 22) hx hb dX1_nodeOf_18 (by decide) ?_
      exact r_iret X I rfl rfl rfl hn dX1_nodeOf_22
theorem v_X1_nodeOf {G : sG} {d : Nat} {vs0 : List Value} {σ0 : sS} {x : sL} {z : sZ Int32} {r : Int32 × sS} (hs : S_X1_nodeOf x = some z) (k : s_K G (d + 1) M_X1_nodeOf vs0 σ0 Y_X1_nodeOf e_I z r) : s_V G (d + 1) M_X1_nodeOf vs0 σ0 Y_X1_nodeOf x (e_I r) := by
  obtain ⟨pc, vs, σ⟩ := x
  unfold S_X1_nodeOf at hs
  dsimp only at hs
  rcases s_ite hs with ⟨c, hs⟩ | ⟨-, hs⟩
  · subst c
    unfold U_X1_nodeOf_0 at hs
    obtain ⟨a0, g0, hs⟩ := s_bind hs
    obtain ⟨a1, g1, hs⟩ := s_bind hs
    obtain ⟨u9, ge, hs⟩ := s_bind hs
    rw [g_r_to g0, g_i_to g1, g_e_to ge]
    exact v_X1_nodeOf_0 hs k
  cases hs
theorem t_X1_nodeOf {G : sG} {d : Nat} {v0 : Nat} {v1 : Int32} {σ : sS} {q : Int32 × sS} (h : F_X1_nodeOf v0 v1 σ = some q) : s_T G (d + 1) M_X1_nodeOf [.ref v0, .int v1] σ (e_I q) := by
  unfold F_X1_nodeOf at h
  obtain ⟨-, -, h⟩ := s_bind h
  exact s_ofV rfl (by decide) (Nat.le_of_ble_eq_true rfl) rfl rfl (s_run_ind (V := fun x r => s_V G (d + 1) M_X1_nodeOf [.ref v0, .int v1] σ Y_X1_nodeOf x (e_I r)) (fun x z r hs hk => v_X1_nodeOf hs (by cases z <;> exact hk)) h)
/-! X1_toldTo -/
noncomputable def T_X1_toldTo_0 (v0 : Nat) (v1 : Int32) (σ : sS) : Option (sZ Int32) :=
  if v1 < 0 then (some (.inr (0, σ)))
  else (if (4 : Int32) ≤ v1 then (some (.inr (0, σ)))
  else ((s_fr σ v0 1 5).bind fun x1 =>
  (s_ai σ x1 v1).bind fun x2 =>
  some (.inr (x2, σ))))
noncomputable def U_X1_toldTo_0 (vs : List Value) (σ : sS) : Option (sZ Int32) := (g_r vs).bind fun a0 => (g_i a0.2).bind fun a1 => (g_e a1.2).bind fun _ => T_X1_toldTo_0 a0.1 a1.1 σ
noncomputable def S_X1_toldTo (x : sL) : Option (sZ Int32) := if x.1 = 0 then U_X1_toldTo_0 x.2.1 x.2.2 else none
def Y_X1_toldTo (pc : Nat) : List Nat := if pc = 0 then [0, 1] else []
noncomputable def F_X1_toldTo (v0 : Nat) (v1 : Int32) (σ : sS) : Option (Int32 × sS) := (s_is σ v0 1).bind fun _ => s_run S_X1_toldTo (0, [.ref v0, .int v1], σ)
theorem l_X1_toldTo_0 {v0 : Nat} {v1 : Int32} {σ : sS} {z : sZ Int32} (hf : T_X1_toldTo_0 v0 v1 σ = some z) : s_lz σ z := by
  unfold T_X1_toldTo_0 at hf
  rcases s_ite hf with ⟨-, hf⟩ | ⟨-, hf⟩
  · cases hf
    exact s_le.rf
  · rcases s_ite hf with ⟨-, hf⟩ | ⟨-, hf⟩
    · cases hf
      exact s_le.rf
    · obtain ⟨x1, -, hf⟩ := s_bind hf
      obtain ⟨x2, -, hf⟩ := s_bind hf
      cases hf
      exact s_le.rf
theorem l_X1_toldTo_s {x : sL} {z : sZ Int32} (hs : S_X1_toldTo x = some z) : s_lz x.2.2 z := by
  obtain ⟨pc, vs, σ⟩ := x
  unfold S_X1_toldTo at hs
  dsimp only at hs ⊢
  rcases s_ite hs with ⟨c, hs⟩ | ⟨-, hs⟩
  · subst c
    unfold U_X1_toldTo_0 at hs
    obtain ⟨a0, g0, hs⟩ := s_bind hs
    obtain ⟨a1, g1, hs⟩ := s_bind hs
    obtain ⟨u9, ge, hs⟩ := s_bind hs
    exact l_X1_toldTo_0 hs
  cases hs
theorem l_X1_toldTo {v0 : Nat} {v1 : Int32} {σ : sS} {q : Int32 × sS} (h : F_X1_toldTo v0 v1 σ = some q) : s_le σ q.2 := by
  unfold F_X1_toldTo at h
  obtain ⟨-, -, h⟩ := s_bind h
  exact s_run_ind (V := fun x r => s_le x.2.2 r.2) (fun x z r hs hk => by
    have h9 := l_X1_toldTo_s hs
    cases z with
    | inl y => exact s_le.tr h9 hk
    | inr q => cases hk; exact h9) h
theorem b_X1_toldTo {v0 : Nat} {v1 : Int32} {σ : sS} {q : Int32 × sS} (h : F_X1_toldTo v0 v1 σ = some q) : ∃ fs, σ.1 v0 = some (.inr (1, fs)) := by
  unfold F_X1_toldTo at h
  obtain ⟨u, hu, -⟩ := s_bind h
  exact s_is_to hu
set_option maxRecDepth 100000 in
set_option maxHeartbeats 4000000 in
theorem v_X1_toldTo_0 {G : sG} {d : Nat} {vs0 : List Value} {σ0 : sS} {v0 : Nat} {v1 : Int32} {σ : sS} {z : sZ Int32} {r : Int32 × sS} (hf : T_X1_toldTo_0 v0 v1 σ = some z) (k : s_K G (d + 1) M_X1_toldTo vs0 σ0 Y_X1_toldTo e_I z r) : s_V G (d + 1) M_X1_toldTo vs0 σ0 Y_X1_toldTo (0, [.ref v0, .int v1], σ) (e_I r) := by
  have le0 : s_le σ (e_I r).2 := s_lek hem_I (l_X1_toldTo_0 hf) k
  refine ⟨le0, ?_⟩
  intro p e s m below meth c H locs cells slots ls X I hn1 hn2 hl
  have hn : cells + σ0.2.1 ≤ σ.2.1 ∧ slots + σ0.2.2.1 ≤ σ.2.2.1 := ⟨hn1, hn2⟩
  have hl : lv_has ls 2 [(0, .ref v0), (1, .int v1)] := hl
  have hx := X.1
  have hb : c.code = cX1_toldTo := X.2.1
  have hown : s.vm.findClass RX1 = some m.cls := X.2.2.2.2.2.1
  have hts := X.2.2.2.2.2.2.1
  refine W.eq (g2 := F0 m 0 ls []) rfl ?_
  unfold T_X1_toldTo_0 at hf
  refine lv_iload_n hx hb dX1_toldTo_0 rfl (lv_at hl 1 rfl) ?_
  rcases s_ite hf with ⟨c1, hf⟩ | ⟨c1, hf⟩
  · refine lv_if_lt (tgt := 18) hx hb dX1_toldTo_1 (by decide) (fun _ => ?_) (fun n => absurd c1 n)
    cases hf
    have k : _ = r := k
    subst k
    refine lv_iconst (v := 0) hx hb dX1_toldTo_18 (by decide) ?_
    exact r_iret X I rfl rfl rfl hn dX1_toldTo_19
  · refine lv_if_lt (tgt := 18) hx hb dX1_toldTo_1 (by decide) (fun n => absurd n c1) (fun _ => ?_)
    refine lv_iload_n hx hb dX1_toldTo_4 rfl (lv_at hl 1 rfl) ?_
    refine lv_iconst (v := 4) hx hb dX1_toldTo_5 (by decide) ?_
    rcases s_ite hf with ⟨c2, hf⟩ | ⟨c2, hf⟩
    · refine lv_icmp_ge (tgt := 18) hx hb dX1_toldTo_6 (by decide) (fun _ => ?_) (fun n => absurd c2 n)
      cases hf
      have k : _ = r := k
      subst k
      refine lv_iconst (v := 0) hx hb dX1_toldTo_18 (by decide) ?_
      exact r_iret X I rfl rfl rfl hn dX1_toldTo_19
    · refine lv_icmp_ge (tgt := 18) hx hb dX1_toldTo_6 (by decide) (fun n => absurd n c2) (fun _ => ?_)
      obtain ⟨x1, h3, hf⟩ := s_bind hf
      obtain ⟨x2, h4, hf⟩ := s_bind hf
      cases hf
      have k : _ = r := k
      subst k
      refine lv_aload_n hx hb dX1_toldTo_9 rfl (lv_at hl 0 rfl) ?_
      refine r_gr X I fl_X1_23 h3 dX1_toldTo_10 ?_
      refine lv_iload_n hx hb dX1_toldTo_13 rfl (lv_at hl 1 rfl) ?_
      refine r_iald X I h4 dX1_toldTo_14 ?_
      refine lv_goto (tgt := 19) hx hb dX1_toldTo_15 (by decide) ?_
      exact r_iret X I rfl rfl rfl hn dX1_toldTo_19
theorem v_X1_toldTo {G : sG} {d : Nat} {vs0 : List Value} {σ0 : sS} {x : sL} {z : sZ Int32} {r : Int32 × sS} (hs : S_X1_toldTo x = some z) (k : s_K G (d + 1) M_X1_toldTo vs0 σ0 Y_X1_toldTo e_I z r) : s_V G (d + 1) M_X1_toldTo vs0 σ0 Y_X1_toldTo x (e_I r) := by
  obtain ⟨pc, vs, σ⟩ := x
  unfold S_X1_toldTo at hs
  dsimp only at hs
  rcases s_ite hs with ⟨c, hs⟩ | ⟨-, hs⟩
  · subst c
    unfold U_X1_toldTo_0 at hs
    obtain ⟨a0, g0, hs⟩ := s_bind hs
    obtain ⟨a1, g1, hs⟩ := s_bind hs
    obtain ⟨u9, ge, hs⟩ := s_bind hs
    rw [g_r_to g0, g_i_to g1, g_e_to ge]
    exact v_X1_toldTo_0 hs k
  cases hs
theorem t_X1_toldTo {G : sG} {d : Nat} {v0 : Nat} {v1 : Int32} {σ : sS} {q : Int32 × sS} (h : F_X1_toldTo v0 v1 σ = some q) : s_T G (d + 1) M_X1_toldTo [.ref v0, .int v1] σ (e_I q) := by
  unfold F_X1_toldTo at h
  obtain ⟨-, -, h⟩ := s_bind h
  exact s_ofV rfl (by decide) (Nat.le_of_ble_eq_true rfl) rfl rfl (s_run_ind (V := fun x r => s_V G (d + 1) M_X1_toldTo [.ref v0, .int v1] σ Y_X1_toldTo x (e_I r)) (fun x z r hs hk => v_X1_toldTo hs (by cases z <;> exact hk)) h)
/-! X4_placeOf -/
noncomputable def T_X4_placeOf_0 (v0 : Nat) (v1 : Int32) (σ : sS) : Option (sZ Int32) :=
  some (.inl (2, [.ref v0, .int v1, .int 0], σ))
noncomputable def U_X4_placeOf_0 (vs : List Value) (σ : sS) : Option (sZ Int32) := (g_r vs).bind fun a0 => (g_i a0.2).bind fun a1 => (g_e a1.2).bind fun _ => T_X4_placeOf_0 a0.1 a1.1 σ
noncomputable def T_X4_placeOf_2 (v0 : Nat) (v1 : Int32) (v2 : Int32) (σ : sS) : Option (sZ Int32) :=
  (s_fi σ v0 4 8).bind fun x1 =>
  if x1 ≤ v2 then (some (.inr ((-1), σ)))
  else ((s_fr σ v0 4 2).bind fun x2 =>
  (s_ai σ x2 v2).bind fun x3 =>
  if x3 = v1 then (some (.inr (v2, σ)))
  else (some (.inl (2, [.ref v0, .int v1, .int (v2 + 1)], σ))))
noncomputable def U_X4_placeOf_2 (vs : List Value) (σ : sS) : Option (sZ Int32) := (g_r vs).bind fun a0 => (g_i a0.2).bind fun a1 => (g_i a1.2).bind fun a2 => (g_e a2.2).bind fun _ => T_X4_placeOf_2 a0.1 a1.1 a2.1 σ
noncomputable def S_X4_placeOf (x : sL) : Option (sZ Int32) := if x.1 = 0 then U_X4_placeOf_0 x.2.1 x.2.2 else if x.1 = 2 then U_X4_placeOf_2 x.2.1 x.2.2 else none
def Y_X4_placeOf (pc : Nat) : List Nat := if pc = 0 then [0, 1] else if pc = 2 then [0, 1, 2] else []
noncomputable def F_X4_placeOf (v0 : Nat) (v1 : Int32) (σ : sS) : Option (Int32 × sS) := (s_is σ v0 4).bind fun _ => s_run S_X4_placeOf (0, [.ref v0, .int v1], σ)
theorem l_X4_placeOf_0 {v0 : Nat} {v1 : Int32} {σ : sS} {z : sZ Int32} (hf : T_X4_placeOf_0 v0 v1 σ = some z) : s_lz σ z := by
  unfold T_X4_placeOf_0 at hf
  cases hf
  exact s_le.rf
theorem l_X4_placeOf_2 {v0 : Nat} {v1 : Int32} {v2 : Int32} {σ : sS} {z : sZ Int32} (hf : T_X4_placeOf_2 v0 v1 v2 σ = some z) : s_lz σ z := by
  unfold T_X4_placeOf_2 at hf
  obtain ⟨x1, -, hf⟩ := s_bind hf
  rcases s_ite hf with ⟨-, hf⟩ | ⟨-, hf⟩
  · cases hf
    exact s_le.rf
  · obtain ⟨x2, -, hf⟩ := s_bind hf
    obtain ⟨x3, -, hf⟩ := s_bind hf
    rcases s_ite hf with ⟨-, hf⟩ | ⟨-, hf⟩
    · cases hf
      exact s_le.rf
    · cases hf
      exact s_le.rf
theorem l_X4_placeOf_s {x : sL} {z : sZ Int32} (hs : S_X4_placeOf x = some z) : s_lz x.2.2 z := by
  obtain ⟨pc, vs, σ⟩ := x
  unfold S_X4_placeOf at hs
  dsimp only at hs ⊢
  rcases s_ite hs with ⟨c, hs⟩ | ⟨-, hs⟩
  · subst c
    unfold U_X4_placeOf_0 at hs
    obtain ⟨a0, g0, hs⟩ := s_bind hs
    obtain ⟨a1, g1, hs⟩ := s_bind hs
    obtain ⟨u9, ge, hs⟩ := s_bind hs
    exact l_X4_placeOf_0 hs
  rcases s_ite hs with ⟨c, hs⟩ | ⟨-, hs⟩
  · subst c
    unfold U_X4_placeOf_2 at hs
    obtain ⟨a0, g0, hs⟩ := s_bind hs
    obtain ⟨a1, g1, hs⟩ := s_bind hs
    obtain ⟨a2, g2, hs⟩ := s_bind hs
    obtain ⟨u9, ge, hs⟩ := s_bind hs
    exact l_X4_placeOf_2 hs
  cases hs
theorem l_X4_placeOf {v0 : Nat} {v1 : Int32} {σ : sS} {q : Int32 × sS} (h : F_X4_placeOf v0 v1 σ = some q) : s_le σ q.2 := by
  unfold F_X4_placeOf at h
  obtain ⟨-, -, h⟩ := s_bind h
  exact s_run_ind (V := fun x r => s_le x.2.2 r.2) (fun x z r hs hk => by
    have h9 := l_X4_placeOf_s hs
    cases z with
    | inl y => exact s_le.tr h9 hk
    | inr q => cases hk; exact h9) h
theorem b_X4_placeOf {v0 : Nat} {v1 : Int32} {σ : sS} {q : Int32 × sS} (h : F_X4_placeOf v0 v1 σ = some q) : ∃ fs, σ.1 v0 = some (.inr (4, fs)) := by
  unfold F_X4_placeOf at h
  obtain ⟨u, hu, -⟩ := s_bind h
  exact s_is_to hu
set_option maxRecDepth 100000 in
set_option maxHeartbeats 4000000 in
theorem v_X4_placeOf_0 {G : sG} {d : Nat} {vs0 : List Value} {σ0 : sS} {v0 : Nat} {v1 : Int32} {σ : sS} {z : sZ Int32} {r : Int32 × sS} (hf : T_X4_placeOf_0 v0 v1 σ = some z) (k : s_K G (d + 1) M_X4_placeOf vs0 σ0 Y_X4_placeOf e_I z r) : s_V G (d + 1) M_X4_placeOf vs0 σ0 Y_X4_placeOf (0, [.ref v0, .int v1], σ) (e_I r) := by
  have le0 : s_le σ (e_I r).2 := s_lek hem_I (l_X4_placeOf_0 hf) k
  refine ⟨le0, ?_⟩
  intro p e s m below meth c H locs cells slots ls X I hn1 hn2 hl
  have hn : cells + σ0.2.1 ≤ σ.2.1 ∧ slots + σ0.2.2.1 ≤ σ.2.2.1 := ⟨hn1, hn2⟩
  have hl : lv_has ls 3 [(0, .ref v0), (1, .int v1)] := hl
  have hx := X.1
  have hb : c.code = cX4_placeOf := X.2.1
  have hown : s.vm.findClass RX4 = some m.cls := X.2.2.2.2.2.1
  have hts := X.2.2.2.2.2.2.1
  refine W.eq (g2 := F0 m 0 ls []) rfl ?_
  unfold T_X4_placeOf_0 at hf
  cases hf
  have k : s_V G (d + 1) M_X4_placeOf vs0 σ0 Y_X4_placeOf (2, [.ref v0, .int v1, .int 0], σ) (e_I r) := k
  refine lv_iconst (v := 0) hx hb dX4_placeOf_0 (by decide) ?_
  refine lv_istore_n (lv' := [(2, .int 0), (0, .ref v0), (1, .int v1)]) hx hb dX4_placeOf_1 rfl hl (by decide) rfl (fun ls hl => ?_)
  exact k.2 p e s m below meth c _ _ _ _ _ X I hn.1 hn.2 (lv_sub hl [1, 2, 0] rfl)
set_option maxRecDepth 100000 in
set_option maxHeartbeats 4000000 in
theorem v_X4_placeOf_2 {G : sG} {d : Nat} {vs0 : List Value} {σ0 : sS} {v0 : Nat} {v1 : Int32} {v2 : Int32} {σ : sS} {z : sZ Int32} {r : Int32 × sS} (hf : T_X4_placeOf_2 v0 v1 v2 σ = some z) (k : s_K G (d + 1) M_X4_placeOf vs0 σ0 Y_X4_placeOf e_I z r) : s_V G (d + 1) M_X4_placeOf vs0 σ0 Y_X4_placeOf (2, [.ref v0, .int v1, .int v2], σ) (e_I r) := by
  have le0 : s_le σ (e_I r).2 := s_lek hem_I (l_X4_placeOf_2 hf) k
  refine ⟨le0, ?_⟩
  intro p e s m below meth c H locs cells slots ls X I hn1 hn2 hl
  have hn : cells + σ0.2.1 ≤ σ.2.1 ∧ slots + σ0.2.2.1 ≤ σ.2.2.1 := ⟨hn1, hn2⟩
  have hl : lv_has ls 3 [(0, .ref v0), (1, .int v1), (2, .int v2)] := hl
  have hx := X.1
  have hb : c.code = cX4_placeOf := X.2.1
  have hown : s.vm.findClass RX4 = some m.cls := X.2.2.2.2.2.1
  have hts := X.2.2.2.2.2.2.1
  refine W.eq (g2 := F0 m 2 ls []) rfl ?_
  unfold T_X4_placeOf_2 at hf
  obtain ⟨x1, h1, hf⟩ := s_bind hf
  refine lv_iload_n hx hb dX4_placeOf_2 rfl (lv_at hl 2 rfl) ?_
  refine lv_aload_n hx hb dX4_placeOf_3 rfl (lv_at hl 0 rfl) ?_
  refine r_gi X I fl_X4_48 h1 dX4_placeOf_4 ?_
  rcases s_ite hf with ⟨c2, hf⟩ | ⟨c2, hf⟩
  · refine lv_icmp_ge (tgt := 28) hx hb dX4_placeOf_7 (by decide) (fun _ => ?_) (fun n => absurd c2 n)
    cases hf
    have k : _ = r := k
    subst k
    refine lv_iconst (v := (-1)) hx hb dX4_placeOf_28 (by decide) ?_
    exact r_iret X I rfl rfl rfl hn dX4_placeOf_29
  · refine lv_icmp_ge (tgt := 28) hx hb dX4_placeOf_7 (by decide) (fun n => absurd n c2) (fun _ => ?_)
    obtain ⟨x2, h3, hf⟩ := s_bind hf
    obtain ⟨x3, h4, hf⟩ := s_bind hf
    refine lv_aload_n hx hb dX4_placeOf_10 rfl (lv_at hl 0 rfl) ?_
    refine r_gr X I fl_X4_11 h3 dX4_placeOf_11 ?_
    refine lv_iload_n hx hb dX4_placeOf_14 rfl (lv_at hl 2 rfl) ?_
    refine r_iald X I h4 dX4_placeOf_15 ?_
    refine lv_iload_n hx hb dX4_placeOf_16 rfl (lv_at hl 1 rfl) ?_
    rcases s_ite hf with ⟨c5, hf⟩ | ⟨c5, hf⟩
    · refine lv_icmp_ne (tgt := 22) hx hb dX4_placeOf_17 (by decide) (fun n => absurd c5 n) (fun _ => ?_)
      cases hf
      have k : _ = r := k
      subst k
      refine lv_iload_n hx hb dX4_placeOf_20 rfl (lv_at hl 2 rfl) ?_
      exact r_iret X I rfl rfl rfl hn dX4_placeOf_21
    · refine lv_icmp_ne (tgt := 22) hx hb dX4_placeOf_17 (by decide) (fun _ => ?_) (fun n => absurd n c5)
      cases hf
      have k : s_V G (d + 1) M_X4_placeOf vs0 σ0 Y_X4_placeOf (2, [.ref v0, .int v1, .int (v2 + 1)], σ) (e_I r) := k
      refine lv_iinc (v := (v2 + 1)) (lv' := [(2, .int (v2 + 1)), (0, .ref v0), (1, .int v1)]) hx hb dX4_placeOf_22 hl (k := 2) rfl rfl (by decide) rfl (fun ls hl => ?_)
      refine lv_goto (tgt := 2) hx hb dX4_placeOf_25 (by decide) ?_
      exact k.2 p e s m below meth c _ _ _ _ _ X I hn.1 hn.2 (lv_sub hl [1, 2, 0] rfl)
theorem v_X4_placeOf {G : sG} {d : Nat} {vs0 : List Value} {σ0 : sS} {x : sL} {z : sZ Int32} {r : Int32 × sS} (hs : S_X4_placeOf x = some z) (k : s_K G (d + 1) M_X4_placeOf vs0 σ0 Y_X4_placeOf e_I z r) : s_V G (d + 1) M_X4_placeOf vs0 σ0 Y_X4_placeOf x (e_I r) := by
  obtain ⟨pc, vs, σ⟩ := x
  unfold S_X4_placeOf at hs
  dsimp only at hs
  rcases s_ite hs with ⟨c, hs⟩ | ⟨-, hs⟩
  · subst c
    unfold U_X4_placeOf_0 at hs
    obtain ⟨a0, g0, hs⟩ := s_bind hs
    obtain ⟨a1, g1, hs⟩ := s_bind hs
    obtain ⟨u9, ge, hs⟩ := s_bind hs
    rw [g_r_to g0, g_i_to g1, g_e_to ge]
    exact v_X4_placeOf_0 hs k
  rcases s_ite hs with ⟨c, hs⟩ | ⟨-, hs⟩
  · subst c
    unfold U_X4_placeOf_2 at hs
    obtain ⟨a0, g0, hs⟩ := s_bind hs
    obtain ⟨a1, g1, hs⟩ := s_bind hs
    obtain ⟨a2, g2, hs⟩ := s_bind hs
    obtain ⟨u9, ge, hs⟩ := s_bind hs
    rw [g_r_to g0, g_i_to g1, g_i_to g2, g_e_to ge]
    exact v_X4_placeOf_2 hs k
  cases hs
theorem t_X4_placeOf {G : sG} {d : Nat} {v0 : Nat} {v1 : Int32} {σ : sS} {q : Int32 × sS} (h : F_X4_placeOf v0 v1 σ = some q) : s_T G (d + 1) M_X4_placeOf [.ref v0, .int v1] σ (e_I q) := by
  unfold F_X4_placeOf at h
  obtain ⟨-, -, h⟩ := s_bind h
  exact s_ofV rfl (by decide) (Nat.le_of_ble_eq_true rfl) rfl rfl (s_run_ind (V := fun x r => s_V G (d + 1) M_X4_placeOf [.ref v0, .int v1] σ Y_X4_placeOf x (e_I r)) (fun x z r hs hk => v_X4_placeOf hs (by cases z <;> exact hk)) h)
/-! X2_signsOf -/
noncomputable def T_X2_signsOf_0 (v0 : Nat) (v1 : Int32) (σ : sS) : Option (sZ Int32) :=
  if v1 < 0 then (some (.inr (0, σ)))
  else ((s_fi σ v0 2 0).bind fun x1 =>
  if x1 ≤ v1 then (some (.inr (0, σ)))
  else ((s_fr σ v0 2 4).bind fun x2 =>
  (s_ai σ x2 v1).bind fun x3 =>
  some (.inr (x3, σ))))
noncomputable def U_X2_signsOf_0 (vs : List Value) (σ : sS) : Option (sZ Int32) := (g_r vs).bind fun a0 => (g_i a0.2).bind fun a1 => (g_e a1.2).bind fun _ => T_X2_signsOf_0 a0.1 a1.1 σ
noncomputable def S_X2_signsOf (x : sL) : Option (sZ Int32) := if x.1 = 0 then U_X2_signsOf_0 x.2.1 x.2.2 else none
def Y_X2_signsOf (pc : Nat) : List Nat := if pc = 0 then [0, 1] else []
noncomputable def F_X2_signsOf (v0 : Nat) (v1 : Int32) (σ : sS) : Option (Int32 × sS) := (s_is σ v0 2).bind fun _ => s_run S_X2_signsOf (0, [.ref v0, .int v1], σ)
theorem l_X2_signsOf_0 {v0 : Nat} {v1 : Int32} {σ : sS} {z : sZ Int32} (hf : T_X2_signsOf_0 v0 v1 σ = some z) : s_lz σ z := by
  unfold T_X2_signsOf_0 at hf
  rcases s_ite hf with ⟨-, hf⟩ | ⟨-, hf⟩
  · cases hf
    exact s_le.rf
  · obtain ⟨x1, -, hf⟩ := s_bind hf
    rcases s_ite hf with ⟨-, hf⟩ | ⟨-, hf⟩
    · cases hf
      exact s_le.rf
    · obtain ⟨x2, -, hf⟩ := s_bind hf
      obtain ⟨x3, -, hf⟩ := s_bind hf
      cases hf
      exact s_le.rf
theorem l_X2_signsOf_s {x : sL} {z : sZ Int32} (hs : S_X2_signsOf x = some z) : s_lz x.2.2 z := by
  obtain ⟨pc, vs, σ⟩ := x
  unfold S_X2_signsOf at hs
  dsimp only at hs ⊢
  rcases s_ite hs with ⟨c, hs⟩ | ⟨-, hs⟩
  · subst c
    unfold U_X2_signsOf_0 at hs
    obtain ⟨a0, g0, hs⟩ := s_bind hs
    obtain ⟨a1, g1, hs⟩ := s_bind hs
    obtain ⟨u9, ge, hs⟩ := s_bind hs
    exact l_X2_signsOf_0 hs
  cases hs
theorem l_X2_signsOf {v0 : Nat} {v1 : Int32} {σ : sS} {q : Int32 × sS} (h : F_X2_signsOf v0 v1 σ = some q) : s_le σ q.2 := by
  unfold F_X2_signsOf at h
  obtain ⟨-, -, h⟩ := s_bind h
  exact s_run_ind (V := fun x r => s_le x.2.2 r.2) (fun x z r hs hk => by
    have h9 := l_X2_signsOf_s hs
    cases z with
    | inl y => exact s_le.tr h9 hk
    | inr q => cases hk; exact h9) h
theorem b_X2_signsOf {v0 : Nat} {v1 : Int32} {σ : sS} {q : Int32 × sS} (h : F_X2_signsOf v0 v1 σ = some q) : ∃ fs, σ.1 v0 = some (.inr (2, fs)) := by
  unfold F_X2_signsOf at h
  obtain ⟨u, hu, -⟩ := s_bind h
  exact s_is_to hu
set_option maxRecDepth 100000 in
set_option maxHeartbeats 4000000 in
theorem v_X2_signsOf_0 {G : sG} {d : Nat} {vs0 : List Value} {σ0 : sS} {v0 : Nat} {v1 : Int32} {σ : sS} {z : sZ Int32} {r : Int32 × sS} (hf : T_X2_signsOf_0 v0 v1 σ = some z) (k : s_K G (d + 1) M_X2_signsOf vs0 σ0 Y_X2_signsOf e_I z r) : s_V G (d + 1) M_X2_signsOf vs0 σ0 Y_X2_signsOf (0, [.ref v0, .int v1], σ) (e_I r) := by
  have le0 : s_le σ (e_I r).2 := s_lek hem_I (l_X2_signsOf_0 hf) k
  refine ⟨le0, ?_⟩
  intro p e s m below meth c H locs cells slots ls X I hn1 hn2 hl
  have hn : cells + σ0.2.1 ≤ σ.2.1 ∧ slots + σ0.2.2.1 ≤ σ.2.2.1 := ⟨hn1, hn2⟩
  have hl : lv_has ls 2 [(0, .ref v0), (1, .int v1)] := hl
  have hx := X.1
  have hb : c.code = cX2_signsOf := X.2.1
  have hown : s.vm.findClass RX2 = some m.cls := X.2.2.2.2.2.1
  have hts := X.2.2.2.2.2.2.1
  refine W.eq (g2 := F0 m 0 ls []) rfl ?_
  unfold T_X2_signsOf_0 at hf
  refine lv_iload_n hx hb dX2_signsOf_0 rfl (lv_at hl 1 rfl) ?_
  rcases s_ite hf with ⟨c1, hf⟩ | ⟨c1, hf⟩
  · refine lv_if_lt (tgt := 21) hx hb dX2_signsOf_1 (by decide) (fun _ => ?_) (fun n => absurd c1 n)
    cases hf
    have k : _ = r := k
    subst k
    refine lv_iconst (v := 0) hx hb dX2_signsOf_21 (by decide) ?_
    exact r_iret X I rfl rfl rfl hn dX2_signsOf_22
  · refine lv_if_lt (tgt := 21) hx hb dX2_signsOf_1 (by decide) (fun n => absurd n c1) (fun _ => ?_)
    obtain ⟨x1, h2, hf⟩ := s_bind hf
    refine lv_iload_n hx hb dX2_signsOf_4 rfl (lv_at hl 1 rfl) ?_
    refine lv_aload_n hx hb dX2_signsOf_5 rfl (lv_at hl 0 rfl) ?_
    refine r_gi X I fl_X2_39 h2 dX2_signsOf_6 ?_
    rcases s_ite hf with ⟨c3, hf⟩ | ⟨c3, hf⟩
    · refine lv_icmp_ge (tgt := 21) hx hb dX2_signsOf_9 (by decide) (fun _ => ?_) (fun n => absurd c3 n)
      cases hf
      have k : _ = r := k
      subst k
      refine lv_iconst (v := 0) hx hb dX2_signsOf_21 (by decide) ?_
      exact r_iret X I rfl rfl rfl hn dX2_signsOf_22
    · refine lv_icmp_ge (tgt := 21) hx hb dX2_signsOf_9 (by decide) (fun n => absurd n c3) (fun _ => ?_)
      obtain ⟨x2, h4, hf⟩ := s_bind hf
      obtain ⟨x3, h5, hf⟩ := s_bind hf
      cases hf
      have k : _ = r := k
      subst k
      refine lv_aload_n hx hb dX2_signsOf_12 rfl (lv_at hl 0 rfl) ?_
      refine r_gr X I fl_X2_21 h4 dX2_signsOf_13 ?_
      refine lv_iload_n hx hb dX2_signsOf_16 rfl (lv_at hl 1 rfl) ?_
      refine r_iald X I h5 dX2_signsOf_17 ?_
      refine lv_goto (tgt := 22) hx hb dX2_signsOf_18 (by decide) ?_
      exact r_iret X I rfl rfl rfl hn dX2_signsOf_22
theorem v_X2_signsOf {G : sG} {d : Nat} {vs0 : List Value} {σ0 : sS} {x : sL} {z : sZ Int32} {r : Int32 × sS} (hs : S_X2_signsOf x = some z) (k : s_K G (d + 1) M_X2_signsOf vs0 σ0 Y_X2_signsOf e_I z r) : s_V G (d + 1) M_X2_signsOf vs0 σ0 Y_X2_signsOf x (e_I r) := by
  obtain ⟨pc, vs, σ⟩ := x
  unfold S_X2_signsOf at hs
  dsimp only at hs
  rcases s_ite hs with ⟨c, hs⟩ | ⟨-, hs⟩
  · subst c
    unfold U_X2_signsOf_0 at hs
    obtain ⟨a0, g0, hs⟩ := s_bind hs
    obtain ⟨a1, g1, hs⟩ := s_bind hs
    obtain ⟨u9, ge, hs⟩ := s_bind hs
    rw [g_r_to g0, g_i_to g1, g_e_to ge]
    exact v_X2_signsOf_0 hs k
  cases hs
theorem t_X2_signsOf {G : sG} {d : Nat} {v0 : Nat} {v1 : Int32} {σ : sS} {q : Int32 × sS} (h : F_X2_signsOf v0 v1 σ = some q) : s_T G (d + 1) M_X2_signsOf [.ref v0, .int v1] σ (e_I q) := by
  unfold F_X2_signsOf at h
  obtain ⟨-, -, h⟩ := s_bind h
  exact s_ofV rfl (by decide) (Nat.le_of_ble_eq_true rfl) rfl rfl (s_run_ind (V := fun x r => s_V G (d + 1) M_X2_signsOf [.ref v0, .int v1] σ Y_X2_signsOf x (e_I r)) (fun x z r hs hk => v_X2_signsOf hs (by cases z <;> exact hk)) h)
/-! X2_kindOf -/
noncomputable def T_X2_kindOf_0 (v0 : Nat) (v1 : Int32) (σ : sS) : Option (sZ Int32) :=
  if v1 < 0 then (some (.inr ((-1), σ)))
  else ((s_fi σ v0 2 0).bind fun x1 =>
  if x1 ≤ v1 then (some (.inr ((-1), σ)))
  else ((s_fr σ v0 2 1).bind fun x2 =>
  (s_ai σ x2 v1).bind fun x3 =>
  some (.inr (x3, σ))))
noncomputable def U_X2_kindOf_0 (vs : List Value) (σ : sS) : Option (sZ Int32) := (g_r vs).bind fun a0 => (g_i a0.2).bind fun a1 => (g_e a1.2).bind fun _ => T_X2_kindOf_0 a0.1 a1.1 σ
noncomputable def S_X2_kindOf (x : sL) : Option (sZ Int32) := if x.1 = 0 then U_X2_kindOf_0 x.2.1 x.2.2 else none
def Y_X2_kindOf (pc : Nat) : List Nat := if pc = 0 then [0, 1] else []
noncomputable def F_X2_kindOf (v0 : Nat) (v1 : Int32) (σ : sS) : Option (Int32 × sS) := (s_is σ v0 2).bind fun _ => s_run S_X2_kindOf (0, [.ref v0, .int v1], σ)
theorem l_X2_kindOf_0 {v0 : Nat} {v1 : Int32} {σ : sS} {z : sZ Int32} (hf : T_X2_kindOf_0 v0 v1 σ = some z) : s_lz σ z := by
  unfold T_X2_kindOf_0 at hf
  rcases s_ite hf with ⟨-, hf⟩ | ⟨-, hf⟩
  · cases hf
    exact s_le.rf
  · obtain ⟨x1, -, hf⟩ := s_bind hf
    rcases s_ite hf with ⟨-, hf⟩ | ⟨-, hf⟩
    · cases hf
      exact s_le.rf
    · obtain ⟨x2, -, hf⟩ := s_bind hf
      obtain ⟨x3, -, hf⟩ := s_bind hf
      cases hf
      exact s_le.rf
theorem l_X2_kindOf_s {x : sL} {z : sZ Int32} (hs : S_X2_kindOf x = some z) : s_lz x.2.2 z := by
  obtain ⟨pc, vs, σ⟩ := x
  unfold S_X2_kindOf at hs
  dsimp only at hs ⊢
  rcases s_ite hs with ⟨c, hs⟩ | ⟨-, hs⟩
  · subst c
    unfold U_X2_kindOf_0 at hs
    obtain ⟨a0, g0, hs⟩ := s_bind hs
    obtain ⟨a1, g1, hs⟩ := s_bind hs
    obtain ⟨u9, ge, hs⟩ := s_bind hs
    exact l_X2_kindOf_0 hs
  cases hs
theorem l_X2_kindOf {v0 : Nat} {v1 : Int32} {σ : sS} {q : Int32 × sS} (h : F_X2_kindOf v0 v1 σ = some q) : s_le σ q.2 := by
  unfold F_X2_kindOf at h
  obtain ⟨-, -, h⟩ := s_bind h
  exact s_run_ind (V := fun x r => s_le x.2.2 r.2) (fun x z r hs hk => by
    have h9 := l_X2_kindOf_s hs
    cases z with
    | inl y => exact s_le.tr h9 hk
    | inr q => cases hk; exact h9) h
theorem b_X2_kindOf {v0 : Nat} {v1 : Int32} {σ : sS} {q : Int32 × sS} (h : F_X2_kindOf v0 v1 σ = some q) : ∃ fs, σ.1 v0 = some (.inr (2, fs)) := by
  unfold F_X2_kindOf at h
  obtain ⟨u, hu, -⟩ := s_bind h
  exact s_is_to hu
set_option maxRecDepth 100000 in
set_option maxHeartbeats 4000000 in
theorem v_X2_kindOf_0 {G : sG} {d : Nat} {vs0 : List Value} {σ0 : sS} {v0 : Nat} {v1 : Int32} {σ : sS} {z : sZ Int32} {r : Int32 × sS} (hf : T_X2_kindOf_0 v0 v1 σ = some z) (k : s_K G (d + 1) M_X2_kindOf vs0 σ0 Y_X2_kindOf e_I z r) : s_V G (d + 1) M_X2_kindOf vs0 σ0 Y_X2_kindOf (0, [.ref v0, .int v1], σ) (e_I r) := by
  have le0 : s_le σ (e_I r).2 := s_lek hem_I (l_X2_kindOf_0 hf) k
  refine ⟨le0, ?_⟩
  intro p e s m below meth c H locs cells slots ls X I hn1 hn2 hl
  have hn : cells + σ0.2.1 ≤ σ.2.1 ∧ slots + σ0.2.2.1 ≤ σ.2.2.1 := ⟨hn1, hn2⟩
  have hl : lv_has ls 2 [(0, .ref v0), (1, .int v1)] := hl
  have hx := X.1
  have hb : c.code = cX2_kindOf := X.2.1
  have hown : s.vm.findClass RX2 = some m.cls := X.2.2.2.2.2.1
  have hts := X.2.2.2.2.2.2.1
  refine W.eq (g2 := F0 m 0 ls []) rfl ?_
  unfold T_X2_kindOf_0 at hf
  refine lv_iload_n hx hb dX2_kindOf_0 rfl (lv_at hl 1 rfl) ?_
  rcases s_ite hf with ⟨c1, hf⟩ | ⟨c1, hf⟩
  · refine lv_if_lt (tgt := 21) hx hb dX2_kindOf_1 (by decide) (fun _ => ?_) (fun n => absurd c1 n)
    cases hf
    have k : _ = r := k
    subst k
    refine lv_iconst (v := (-1)) hx hb dX2_kindOf_21 (by decide) ?_
    exact r_iret X I rfl rfl rfl hn dX2_kindOf_22
  · refine lv_if_lt (tgt := 21) hx hb dX2_kindOf_1 (by decide) (fun n => absurd n c1) (fun _ => ?_)
    obtain ⟨x1, h2, hf⟩ := s_bind hf
    refine lv_iload_n hx hb dX2_kindOf_4 rfl (lv_at hl 1 rfl) ?_
    refine lv_aload_n hx hb dX2_kindOf_5 rfl (lv_at hl 0 rfl) ?_
    refine r_gi X I fl_X2_39 h2 dX2_kindOf_6 ?_
    rcases s_ite hf with ⟨c3, hf⟩ | ⟨c3, hf⟩
    · refine lv_icmp_ge (tgt := 21) hx hb dX2_kindOf_9 (by decide) (fun _ => ?_) (fun n => absurd c3 n)
      cases hf
      have k : _ = r := k
      subst k
      refine lv_iconst (v := (-1)) hx hb dX2_kindOf_21 (by decide) ?_
      exact r_iret X I rfl rfl rfl hn dX2_kindOf_22
    · refine lv_icmp_ge (tgt := 21) hx hb dX2_kindOf_9 (by decide) (fun n => absurd n c3) (fun _ => ?_)
      obtain ⟨x2, h4, hf⟩ := s_bind hf
      obtain ⟨x3, h5, hf⟩ := s_bind hf
      cases hf
      have k : _ = r := k
      subst k
      refine lv_aload_n hx hb dX2_kindOf_12 rfl (lv_at hl 0 rfl) ?_
      refine r_gr X I fl_X2_11 h4 dX2_kindOf_13 ?_
      refine lv_iload_n hx hb dX2_kindOf_16 rfl (lv_at hl 1 rfl) ?_
      refine r_iald X I h5 dX2_kindOf_17 ?_
      refine lv_goto (tgt := 22) hx hb dX2_kindOf_18 (by decide) ?_
      exact r_iret X I rfl rfl rfl hn dX2_kindOf_22
theorem v_X2_kindOf {G : sG} {d : Nat} {vs0 : List Value} {σ0 : sS} {x : sL} {z : sZ Int32} {r : Int32 × sS} (hs : S_X2_kindOf x = some z) (k : s_K G (d + 1) M_X2_kindOf vs0 σ0 Y_X2_kindOf e_I z r) : s_V G (d + 1) M_X2_kindOf vs0 σ0 Y_X2_kindOf x (e_I r) := by
  obtain ⟨pc, vs, σ⟩ := x
  unfold S_X2_kindOf at hs
  dsimp only at hs
  rcases s_ite hs with ⟨c, hs⟩ | ⟨-, hs⟩
  · subst c
    unfold U_X2_kindOf_0 at hs
    obtain ⟨a0, g0, hs⟩ := s_bind hs
    obtain ⟨a1, g1, hs⟩ := s_bind hs
    obtain ⟨u9, ge, hs⟩ := s_bind hs
    rw [g_r_to g0, g_i_to g1, g_e_to ge]
    exact v_X2_kindOf_0 hs k
  cases hs
theorem t_X2_kindOf {G : sG} {d : Nat} {v0 : Nat} {v1 : Int32} {σ : sS} {q : Int32 × sS} (h : F_X2_kindOf v0 v1 σ = some q) : s_T G (d + 1) M_X2_kindOf [.ref v0, .int v1] σ (e_I q) := by
  unfold F_X2_kindOf at h
  obtain ⟨-, -, h⟩ := s_bind h
  exact s_ofV rfl (by decide) (Nat.le_of_ble_eq_true rfl) rfl rfl (s_run_ind (V := fun x r => s_V G (d + 1) M_X2_kindOf [.ref v0, .int v1] σ Y_X2_kindOf x (e_I r)) (fun x z r hs hk => v_X2_kindOf hs (by cases z <;> exact hk)) h)
/-! X2_placedOf -/
noncomputable def T_X2_placedOf_0 (v0 : Nat) (v1 : Int32) (v2 : Int32) (σ : sS) : Option (sZ Int32) :=
  if v1 < 0 then (some (.inl (25, [.ref v0, .int v1, .int v2], σ)))
  else ((s_fi σ v0 2 0).bind fun x1 =>
  if x1 ≤ v1 then (some (.inl (25, [.ref v0, .int v1, .int v2], σ)))
  else (if v2 < 0 then (some (.inl (25, [.ref v0, .int v1, .int v2], σ)))
  else (if (3 : Int32) ≤ v2 then (some (.inl (25, [.ref v0, .int v1, .int v2], σ)))
  else (some (.inl (26, [.ref v0, .int v1, .int v2, .int 1], σ))))))
noncomputable def U_X2_placedOf_0 (vs : List Value) (σ : sS) : Option (sZ Int32) := (g_r vs).bind fun a0 => (g_i a0.2).bind fun a1 => (g_i a1.2).bind fun a2 => (g_e a2.2).bind fun _ => T_X2_placedOf_0 a0.1 a1.1 a2.1 σ
noncomputable def T_X2_placedOf_25 (v0 : Nat) (v1 : Int32) (v2 : Int32) (σ : sS) : Option (sZ Int32) :=
  some (.inl (26, [.ref v0, .int v1, .int v2, .int 0], σ))
noncomputable def U_X2_placedOf_25 (vs : List Value) (σ : sS) : Option (sZ Int32) := (g_r vs).bind fun a0 => (g_i a0.2).bind fun a1 => (g_i a1.2).bind fun a2 => (g_e a2.2).bind fun _ => T_X2_placedOf_25 a0.1 a1.1 a2.1 σ
noncomputable def T_X2_placedOf_26 (v0 : Nat) (v1 : Int32) (v2 : Int32) (w0 : Int32) (σ : sS) : Option (sZ Int32) :=
  if w0 = 0 then (some (.inr ((-1), σ)))
  else ((s_fr σ v0 2 6).bind fun x1 =>
  (s_ai σ x1 ((v1 * 3) + v2)).bind fun x2 =>
  some (.inr (x2, σ)))
noncomputable def U_X2_placedOf_26 (vs : List Value) (σ : sS) : Option (sZ Int32) := (g_r vs).bind fun a0 => (g_i a0.2).bind fun a1 => (g_i a1.2).bind fun a2 => (g_i a2.2).bind fun a3 => (g_e a3.2).bind fun _ => T_X2_placedOf_26 a0.1 a1.1 a2.1 a3.1 σ
noncomputable def S_X2_placedOf (x : sL) : Option (sZ Int32) := if x.1 = 0 then U_X2_placedOf_0 x.2.1 x.2.2 else if x.1 = 25 then U_X2_placedOf_25 x.2.1 x.2.2 else if x.1 = 26 then U_X2_placedOf_26 x.2.1 x.2.2 else none
def Y_X2_placedOf (pc : Nat) : List Nat := if pc = 0 then [0, 1, 2] else if pc = 25 then [0, 1, 2] else if pc = 26 then [0, 1, 2] else []
noncomputable def F_X2_placedOf (v0 : Nat) (v1 : Int32) (v2 : Int32) (σ : sS) : Option (Int32 × sS) := (s_is σ v0 2).bind fun _ => s_run S_X2_placedOf (0, [.ref v0, .int v1, .int v2], σ)
theorem l_X2_placedOf_0 {v0 : Nat} {v1 : Int32} {v2 : Int32} {σ : sS} {z : sZ Int32} (hf : T_X2_placedOf_0 v0 v1 v2 σ = some z) : s_lz σ z := by
  unfold T_X2_placedOf_0 at hf
  rcases s_ite hf with ⟨-, hf⟩ | ⟨-, hf⟩
  · cases hf
    exact s_le.rf
  · obtain ⟨x1, -, hf⟩ := s_bind hf
    rcases s_ite hf with ⟨-, hf⟩ | ⟨-, hf⟩
    · cases hf
      exact s_le.rf
    · rcases s_ite hf with ⟨-, hf⟩ | ⟨-, hf⟩
      · cases hf
        exact s_le.rf
      · rcases s_ite hf with ⟨-, hf⟩ | ⟨-, hf⟩
        · cases hf
          exact s_le.rf
        · cases hf
          exact s_le.rf
theorem l_X2_placedOf_25 {v0 : Nat} {v1 : Int32} {v2 : Int32} {σ : sS} {z : sZ Int32} (hf : T_X2_placedOf_25 v0 v1 v2 σ = some z) : s_lz σ z := by
  unfold T_X2_placedOf_25 at hf
  cases hf
  exact s_le.rf
theorem l_X2_placedOf_26 {v0 : Nat} {v1 : Int32} {v2 : Int32} {w0 : Int32} {σ : sS} {z : sZ Int32} (hf : T_X2_placedOf_26 v0 v1 v2 w0 σ = some z) : s_lz σ z := by
  unfold T_X2_placedOf_26 at hf
  rcases s_ite hf with ⟨-, hf⟩ | ⟨-, hf⟩
  · cases hf
    exact s_le.rf
  · obtain ⟨x1, -, hf⟩ := s_bind hf
    obtain ⟨x2, -, hf⟩ := s_bind hf
    cases hf
    exact s_le.rf
theorem l_X2_placedOf_s {x : sL} {z : sZ Int32} (hs : S_X2_placedOf x = some z) : s_lz x.2.2 z := by
  obtain ⟨pc, vs, σ⟩ := x
  unfold S_X2_placedOf at hs
  dsimp only at hs ⊢
  rcases s_ite hs with ⟨c, hs⟩ | ⟨-, hs⟩
  · subst c
    unfold U_X2_placedOf_0 at hs
    obtain ⟨a0, g0, hs⟩ := s_bind hs
    obtain ⟨a1, g1, hs⟩ := s_bind hs
    obtain ⟨a2, g2, hs⟩ := s_bind hs
    obtain ⟨u9, ge, hs⟩ := s_bind hs
    exact l_X2_placedOf_0 hs
  rcases s_ite hs with ⟨c, hs⟩ | ⟨-, hs⟩
  · subst c
    unfold U_X2_placedOf_25 at hs
    obtain ⟨a0, g0, hs⟩ := s_bind hs
    obtain ⟨a1, g1, hs⟩ := s_bind hs
    obtain ⟨a2, g2, hs⟩ := s_bind hs
    obtain ⟨u9, ge, hs⟩ := s_bind hs
    exact l_X2_placedOf_25 hs
  rcases s_ite hs with ⟨c, hs⟩ | ⟨-, hs⟩
  · subst c
    unfold U_X2_placedOf_26 at hs
    obtain ⟨a0, g0, hs⟩ := s_bind hs
    obtain ⟨a1, g1, hs⟩ := s_bind hs
    obtain ⟨a2, g2, hs⟩ := s_bind hs
    obtain ⟨a3, g3, hs⟩ := s_bind hs
    obtain ⟨u9, ge, hs⟩ := s_bind hs
    exact l_X2_placedOf_26 hs
  cases hs
theorem l_X2_placedOf {v0 : Nat} {v1 : Int32} {v2 : Int32} {σ : sS} {q : Int32 × sS} (h : F_X2_placedOf v0 v1 v2 σ = some q) : s_le σ q.2 := by
  unfold F_X2_placedOf at h
  obtain ⟨-, -, h⟩ := s_bind h
  exact s_run_ind (V := fun x r => s_le x.2.2 r.2) (fun x z r hs hk => by
    have h9 := l_X2_placedOf_s hs
    cases z with
    | inl y => exact s_le.tr h9 hk
    | inr q => cases hk; exact h9) h
theorem b_X2_placedOf {v0 : Nat} {v1 : Int32} {v2 : Int32} {σ : sS} {q : Int32 × sS} (h : F_X2_placedOf v0 v1 v2 σ = some q) : ∃ fs, σ.1 v0 = some (.inr (2, fs)) := by
  unfold F_X2_placedOf at h
  obtain ⟨u, hu, -⟩ := s_bind h
  exact s_is_to hu
set_option maxRecDepth 100000 in
set_option maxHeartbeats 4000000 in
theorem v_X2_placedOf_0 {G : sG} {d : Nat} {vs0 : List Value} {σ0 : sS} {v0 : Nat} {v1 : Int32} {v2 : Int32} {σ : sS} {z : sZ Int32} {r : Int32 × sS} (hf : T_X2_placedOf_0 v0 v1 v2 σ = some z) (k : s_K G (d + 1) M_X2_placedOf vs0 σ0 Y_X2_placedOf e_I z r) : s_V G (d + 1) M_X2_placedOf vs0 σ0 Y_X2_placedOf (0, [.ref v0, .int v1, .int v2], σ) (e_I r) := by
  have le0 : s_le σ (e_I r).2 := s_lek hem_I (l_X2_placedOf_0 hf) k
  refine ⟨le0, ?_⟩
  intro p e s m below meth c H locs cells slots ls X I hn1 hn2 hl
  have hn : cells + σ0.2.1 ≤ σ.2.1 ∧ slots + σ0.2.2.1 ≤ σ.2.2.1 := ⟨hn1, hn2⟩
  have hl : lv_has ls 4 [(0, .ref v0), (1, .int v1), (2, .int v2)] := hl
  have hx := X.1
  have hb : c.code = cX2_placedOf := X.2.1
  have hown : s.vm.findClass RX2 = some m.cls := X.2.2.2.2.2.1
  have hts := X.2.2.2.2.2.2.1
  refine W.eq (g2 := F0 m 0 ls []) rfl ?_
  unfold T_X2_placedOf_0 at hf
  refine lv_iload_n hx hb dX2_placedOf_0 rfl (lv_at hl 1 rfl) ?_
  rcases s_ite hf with ⟨c1, hf⟩ | ⟨c1, hf⟩
  · refine lv_if_lt (tgt := 25) hx hb dX2_placedOf_1 (by decide) (fun _ => ?_) (fun n => absurd c1 n)
    cases hf
    have k : s_V G (d + 1) M_X2_placedOf vs0 σ0 Y_X2_placedOf (25, [.ref v0, .int v1, .int v2], σ) (e_I r) := k
    exact k.2 p e s m below meth c _ _ _ _ _ X I hn.1 hn.2 (lv_sub hl [0, 1, 2] rfl)
  · refine lv_if_lt (tgt := 25) hx hb dX2_placedOf_1 (by decide) (fun n => absurd n c1) (fun _ => ?_)
    obtain ⟨x1, h2, hf⟩ := s_bind hf
    refine lv_iload_n hx hb dX2_placedOf_4 rfl (lv_at hl 1 rfl) ?_
    refine lv_aload_n hx hb dX2_placedOf_5 rfl (lv_at hl 0 rfl) ?_
    refine r_gi X I fl_X2_39 h2 dX2_placedOf_6 ?_
    rcases s_ite hf with ⟨c3, hf⟩ | ⟨c3, hf⟩
    · refine lv_icmp_ge (tgt := 25) hx hb dX2_placedOf_9 (by decide) (fun _ => ?_) (fun n => absurd c3 n)
      cases hf
      have k : s_V G (d + 1) M_X2_placedOf vs0 σ0 Y_X2_placedOf (25, [.ref v0, .int v1, .int v2], σ) (e_I r) := k
      exact k.2 p e s m below meth c _ _ _ _ _ X I hn.1 hn.2 (lv_sub hl [0, 1, 2] rfl)
    · refine lv_icmp_ge (tgt := 25) hx hb dX2_placedOf_9 (by decide) (fun n => absurd n c3) (fun _ => ?_)
      refine lv_iload_n hx hb dX2_placedOf_12 rfl (lv_at hl 2 rfl) ?_
      rcases s_ite hf with ⟨c4, hf⟩ | ⟨c4, hf⟩
      · refine lv_if_lt (tgt := 25) hx hb dX2_placedOf_13 (by decide) (fun _ => ?_) (fun n => absurd c4 n)
        cases hf
        have k : s_V G (d + 1) M_X2_placedOf vs0 σ0 Y_X2_placedOf (25, [.ref v0, .int v1, .int v2], σ) (e_I r) := k
        exact k.2 p e s m below meth c _ _ _ _ _ X I hn.1 hn.2 (lv_sub hl [0, 1, 2] rfl)
      · refine lv_if_lt (tgt := 25) hx hb dX2_placedOf_13 (by decide) (fun n => absurd n c4) (fun _ => ?_)
        refine lv_iload_n hx hb dX2_placedOf_16 rfl (lv_at hl 2 rfl) ?_
        refine lv_iconst (v := 3) hx hb dX2_placedOf_17 (by decide) ?_
        rcases s_ite hf with ⟨c5, hf⟩ | ⟨c5, hf⟩
        · refine lv_icmp_ge (tgt := 25) hx hb dX2_placedOf_18 (by decide) (fun _ => ?_) (fun n => absurd c5 n)
          cases hf
          have k : s_V G (d + 1) M_X2_placedOf vs0 σ0 Y_X2_placedOf (25, [.ref v0, .int v1, .int v2], σ) (e_I r) := k
          exact k.2 p e s m below meth c _ _ _ _ _ X I hn.1 hn.2 (lv_sub hl [0, 1, 2] rfl)
        · refine lv_icmp_ge (tgt := 25) hx hb dX2_placedOf_18 (by decide) (fun n => absurd n c5) (fun _ => ?_)
          cases hf
          have k : s_V G (d + 1) M_X2_placedOf vs0 σ0 Y_X2_placedOf (26, [.ref v0, .int v1, .int v2, .int 1], σ) (e_I r) := k
          refine lv_iconst (v := 1) hx hb dX2_placedOf_21 (by decide) ?_
          refine lv_goto (tgt := 26) hx hb dX2_placedOf_22 (by decide) ?_
          exact k.2 p e s m below meth c _ _ _ _ _ X I hn.1 hn.2 (lv_sub hl [0, 1, 2] rfl)
set_option maxRecDepth 100000 in
set_option maxHeartbeats 4000000 in
theorem v_X2_placedOf_25 {G : sG} {d : Nat} {vs0 : List Value} {σ0 : sS} {v0 : Nat} {v1 : Int32} {v2 : Int32} {σ : sS} {z : sZ Int32} {r : Int32 × sS} (hf : T_X2_placedOf_25 v0 v1 v2 σ = some z) (k : s_K G (d + 1) M_X2_placedOf vs0 σ0 Y_X2_placedOf e_I z r) : s_V G (d + 1) M_X2_placedOf vs0 σ0 Y_X2_placedOf (25, [.ref v0, .int v1, .int v2], σ) (e_I r) := by
  have le0 : s_le σ (e_I r).2 := s_lek hem_I (l_X2_placedOf_25 hf) k
  refine ⟨le0, ?_⟩
  intro p e s m below meth c H locs cells slots ls X I hn1 hn2 hl
  have hn : cells + σ0.2.1 ≤ σ.2.1 ∧ slots + σ0.2.2.1 ≤ σ.2.2.1 := ⟨hn1, hn2⟩
  have hl : lv_has ls 4 [(0, .ref v0), (1, .int v1), (2, .int v2)] := hl
  have hx := X.1
  have hb : c.code = cX2_placedOf := X.2.1
  have hown : s.vm.findClass RX2 = some m.cls := X.2.2.2.2.2.1
  have hts := X.2.2.2.2.2.2.1
  refine W.eq (g2 := F0 m 25 ls []) rfl ?_
  unfold T_X2_placedOf_25 at hf
  cases hf
  have k : s_V G (d + 1) M_X2_placedOf vs0 σ0 Y_X2_placedOf (26, [.ref v0, .int v1, .int v2, .int 0], σ) (e_I r) := k
  refine lv_iconst (v := 0) hx hb dX2_placedOf_25 (by decide) ?_
  exact k.2 p e s m below meth c _ _ _ _ _ X I hn.1 hn.2 (lv_sub hl [0, 1, 2] rfl)
set_option maxRecDepth 100000 in
set_option maxHeartbeats 4000000 in
theorem v_X2_placedOf_26 {G : sG} {d : Nat} {vs0 : List Value} {σ0 : sS} {v0 : Nat} {v1 : Int32} {v2 : Int32} {w0 : Int32} {σ : sS} {z : sZ Int32} {r : Int32 × sS} (hf : T_X2_placedOf_26 v0 v1 v2 w0 σ = some z) (k : s_K G (d + 1) M_X2_placedOf vs0 σ0 Y_X2_placedOf e_I z r) : s_V G (d + 1) M_X2_placedOf vs0 σ0 Y_X2_placedOf (26, [.ref v0, .int v1, .int v2, .int w0], σ) (e_I r) := by
  have le0 : s_le σ (e_I r).2 := s_lek hem_I (l_X2_placedOf_26 hf) k
  refine ⟨le0, ?_⟩
  intro p e s m below meth c H locs cells slots ls X I hn1 hn2 hl
  have hn : cells + σ0.2.1 ≤ σ.2.1 ∧ slots + σ0.2.2.1 ≤ σ.2.2.1 := ⟨hn1, hn2⟩
  have hl : lv_has ls 4 [(0, .ref v0), (1, .int v1), (2, .int v2)] := hl
  have hx := X.1
  have hb : c.code = cX2_placedOf := X.2.1
  have hown : s.vm.findClass RX2 = some m.cls := X.2.2.2.2.2.1
  have hts := X.2.2.2.2.2.2.1
  refine W.eq (g2 := F0 m 26 ls [.int w0]) rfl ?_
  unfold T_X2_placedOf_26 at hf
  refine lv_istore_n (lv' := [(3, .int w0), (0, .ref v0), (1, .int v1), (2, .int v2)]) hx hb dX2_placedOf_26 rfl hl (by decide) rfl (fun ls hl => ?_)
  refine lv_iload_n hx hb dX2_placedOf_27 rfl (lv_at hl 0 rfl) ?_
  rcases s_ite hf with ⟨c1, hf⟩ | ⟨c1, hf⟩
  · refine lv_if_eq (tgt := 44) hx hb dX2_placedOf_28 (by decide) (fun _ => ?_) (fun n => absurd c1 n)
    cases hf
    have k : _ = r := k
    subst k
    refine lv_iconst (v := (-1)) hx hb dX2_placedOf_44 (by decide) ?_
    exact r_iret X I rfl rfl rfl hn dX2_placedOf_45
  · refine lv_if_eq (tgt := 44) hx hb dX2_placedOf_28 (by decide) (fun n => absurd n c1) (fun _ => ?_)
    obtain ⟨x1, h2, hf⟩ := s_bind hf
    obtain ⟨x2, h3, hf⟩ := s_bind hf
    cases hf
    have k : _ = r := k
    subst k
    refine lv_aload_n hx hb dX2_placedOf_31 rfl (lv_at hl 1 rfl) ?_
    refine r_gr X I fl_X2_27 h2 dX2_placedOf_32 ?_
    refine lv_iload_n hx hb dX2_placedOf_35 rfl (lv_at hl 2 rfl) ?_
    refine lv_iconst (v := 3) hx hb dX2_placedOf_36 (by decide) ?_
    refine lv_imul hx hb dX2_placedOf_37 ?_
    refine lv_iload_n hx hb dX2_placedOf_38 rfl (lv_at hl 3 rfl) ?_
    refine lv_iadd hx hb dX2_placedOf_39 ?_
    refine r_iald X I h3 dX2_placedOf_40 ?_
    refine lv_goto (tgt := 45) hx hb dX2_placedOf_41 (by decide) ?_
    exact r_iret X I rfl rfl rfl hn dX2_placedOf_45
theorem v_X2_placedOf {G : sG} {d : Nat} {vs0 : List Value} {σ0 : sS} {x : sL} {z : sZ Int32} {r : Int32 × sS} (hs : S_X2_placedOf x = some z) (k : s_K G (d + 1) M_X2_placedOf vs0 σ0 Y_X2_placedOf e_I z r) : s_V G (d + 1) M_X2_placedOf vs0 σ0 Y_X2_placedOf x (e_I r) := by
  obtain ⟨pc, vs, σ⟩ := x
  unfold S_X2_placedOf at hs
  dsimp only at hs
  rcases s_ite hs with ⟨c, hs⟩ | ⟨-, hs⟩
  · subst c
    unfold U_X2_placedOf_0 at hs
    obtain ⟨a0, g0, hs⟩ := s_bind hs
    obtain ⟨a1, g1, hs⟩ := s_bind hs
    obtain ⟨a2, g2, hs⟩ := s_bind hs
    obtain ⟨u9, ge, hs⟩ := s_bind hs
    rw [g_r_to g0, g_i_to g1, g_i_to g2, g_e_to ge]
    exact v_X2_placedOf_0 hs k
  rcases s_ite hs with ⟨c, hs⟩ | ⟨-, hs⟩
  · subst c
    unfold U_X2_placedOf_25 at hs
    obtain ⟨a0, g0, hs⟩ := s_bind hs
    obtain ⟨a1, g1, hs⟩ := s_bind hs
    obtain ⟨a2, g2, hs⟩ := s_bind hs
    obtain ⟨u9, ge, hs⟩ := s_bind hs
    rw [g_r_to g0, g_i_to g1, g_i_to g2, g_e_to ge]
    exact v_X2_placedOf_25 hs k
  rcases s_ite hs with ⟨c, hs⟩ | ⟨-, hs⟩
  · subst c
    unfold U_X2_placedOf_26 at hs
    obtain ⟨a0, g0, hs⟩ := s_bind hs
    obtain ⟨a1, g1, hs⟩ := s_bind hs
    obtain ⟨a2, g2, hs⟩ := s_bind hs
    obtain ⟨a3, g3, hs⟩ := s_bind hs
    obtain ⟨u9, ge, hs⟩ := s_bind hs
    rw [g_r_to g0, g_i_to g1, g_i_to g2, g_i_to g3, g_e_to ge]
    exact v_X2_placedOf_26 hs k
  cases hs
theorem t_X2_placedOf {G : sG} {d : Nat} {v0 : Nat} {v1 : Int32} {v2 : Int32} {σ : sS} {q : Int32 × sS} (h : F_X2_placedOf v0 v1 v2 σ = some q) : s_T G (d + 1) M_X2_placedOf [.ref v0, .int v1, .int v2] σ (e_I q) := by
  unfold F_X2_placedOf at h
  obtain ⟨-, -, h⟩ := s_bind h
  exact s_ofV rfl (by decide) (Nat.le_of_ble_eq_true rfl) rfl rfl (s_run_ind (V := fun x r => s_V G (d + 1) M_X2_placedOf [.ref v0, .int v1, .int v2] σ Y_X2_placedOf x (e_I r)) (fun x z r hs hk => v_X2_placedOf hs (by cases z <;> exact hk)) h)
/-! X2_firstOf -/
noncomputable def T_X2_firstOf_0 (v0 : Nat) (v1 : Int32) (σ : sS) : Option (sZ Int32) :=
  if v1 < 0 then (some (.inr ((-1), σ)))
  else ((s_fi σ v0 2 0).bind fun x1 =>
  if x1 ≤ v1 then (some (.inr ((-1), σ)))
  else ((s_fr σ v0 2 2).bind fun x2 =>
  (s_ai σ x2 v1).bind fun x3 =>
  some (.inr (x3, σ))))
noncomputable def U_X2_firstOf_0 (vs : List Value) (σ : sS) : Option (sZ Int32) := (g_r vs).bind fun a0 => (g_i a0.2).bind fun a1 => (g_e a1.2).bind fun _ => T_X2_firstOf_0 a0.1 a1.1 σ
noncomputable def S_X2_firstOf (x : sL) : Option (sZ Int32) := if x.1 = 0 then U_X2_firstOf_0 x.2.1 x.2.2 else none
def Y_X2_firstOf (pc : Nat) : List Nat := if pc = 0 then [0, 1] else []
noncomputable def F_X2_firstOf (v0 : Nat) (v1 : Int32) (σ : sS) : Option (Int32 × sS) := (s_is σ v0 2).bind fun _ => s_run S_X2_firstOf (0, [.ref v0, .int v1], σ)
theorem l_X2_firstOf_0 {v0 : Nat} {v1 : Int32} {σ : sS} {z : sZ Int32} (hf : T_X2_firstOf_0 v0 v1 σ = some z) : s_lz σ z := by
  unfold T_X2_firstOf_0 at hf
  rcases s_ite hf with ⟨-, hf⟩ | ⟨-, hf⟩
  · cases hf
    exact s_le.rf
  · obtain ⟨x1, -, hf⟩ := s_bind hf
    rcases s_ite hf with ⟨-, hf⟩ | ⟨-, hf⟩
    · cases hf
      exact s_le.rf
    · obtain ⟨x2, -, hf⟩ := s_bind hf
      obtain ⟨x3, -, hf⟩ := s_bind hf
      cases hf
      exact s_le.rf
theorem l_X2_firstOf_s {x : sL} {z : sZ Int32} (hs : S_X2_firstOf x = some z) : s_lz x.2.2 z := by
  obtain ⟨pc, vs, σ⟩ := x
  unfold S_X2_firstOf at hs
  dsimp only at hs ⊢
  rcases s_ite hs with ⟨c, hs⟩ | ⟨-, hs⟩
  · subst c
    unfold U_X2_firstOf_0 at hs
    obtain ⟨a0, g0, hs⟩ := s_bind hs
    obtain ⟨a1, g1, hs⟩ := s_bind hs
    obtain ⟨u9, ge, hs⟩ := s_bind hs
    exact l_X2_firstOf_0 hs
  cases hs
theorem l_X2_firstOf {v0 : Nat} {v1 : Int32} {σ : sS} {q : Int32 × sS} (h : F_X2_firstOf v0 v1 σ = some q) : s_le σ q.2 := by
  unfold F_X2_firstOf at h
  obtain ⟨-, -, h⟩ := s_bind h
  exact s_run_ind (V := fun x r => s_le x.2.2 r.2) (fun x z r hs hk => by
    have h9 := l_X2_firstOf_s hs
    cases z with
    | inl y => exact s_le.tr h9 hk
    | inr q => cases hk; exact h9) h
theorem b_X2_firstOf {v0 : Nat} {v1 : Int32} {σ : sS} {q : Int32 × sS} (h : F_X2_firstOf v0 v1 σ = some q) : ∃ fs, σ.1 v0 = some (.inr (2, fs)) := by
  unfold F_X2_firstOf at h
  obtain ⟨u, hu, -⟩ := s_bind h
  exact s_is_to hu
set_option maxRecDepth 100000 in
set_option maxHeartbeats 4000000 in
theorem v_X2_firstOf_0 {G : sG} {d : Nat} {vs0 : List Value} {σ0 : sS} {v0 : Nat} {v1 : Int32} {σ : sS} {z : sZ Int32} {r : Int32 × sS} (hf : T_X2_firstOf_0 v0 v1 σ = some z) (k : s_K G (d + 1) M_X2_firstOf vs0 σ0 Y_X2_firstOf e_I z r) : s_V G (d + 1) M_X2_firstOf vs0 σ0 Y_X2_firstOf (0, [.ref v0, .int v1], σ) (e_I r) := by
  have le0 : s_le σ (e_I r).2 := s_lek hem_I (l_X2_firstOf_0 hf) k
  refine ⟨le0, ?_⟩
  intro p e s m below meth c H locs cells slots ls X I hn1 hn2 hl
  have hn : cells + σ0.2.1 ≤ σ.2.1 ∧ slots + σ0.2.2.1 ≤ σ.2.2.1 := ⟨hn1, hn2⟩
  have hl : lv_has ls 2 [(0, .ref v0), (1, .int v1)] := hl
  have hx := X.1
  have hb : c.code = cX2_firstOf := X.2.1
  have hown : s.vm.findClass RX2 = some m.cls := X.2.2.2.2.2.1
  have hts := X.2.2.2.2.2.2.1
  refine W.eq (g2 := F0 m 0 ls []) rfl ?_
  unfold T_X2_firstOf_0 at hf
  refine lv_iload_n hx hb dX2_firstOf_0 rfl (lv_at hl 1 rfl) ?_
  rcases s_ite hf with ⟨c1, hf⟩ | ⟨c1, hf⟩
  · refine lv_if_lt (tgt := 21) hx hb dX2_firstOf_1 (by decide) (fun _ => ?_) (fun n => absurd c1 n)
    cases hf
    have k : _ = r := k
    subst k
    refine lv_iconst (v := (-1)) hx hb dX2_firstOf_21 (by decide) ?_
    exact r_iret X I rfl rfl rfl hn dX2_firstOf_22
  · refine lv_if_lt (tgt := 21) hx hb dX2_firstOf_1 (by decide) (fun n => absurd n c1) (fun _ => ?_)
    obtain ⟨x1, h2, hf⟩ := s_bind hf
    refine lv_iload_n hx hb dX2_firstOf_4 rfl (lv_at hl 1 rfl) ?_
    refine lv_aload_n hx hb dX2_firstOf_5 rfl (lv_at hl 0 rfl) ?_
    refine r_gi X I fl_X2_39 h2 dX2_firstOf_6 ?_
    rcases s_ite hf with ⟨c3, hf⟩ | ⟨c3, hf⟩
    · refine lv_icmp_ge (tgt := 21) hx hb dX2_firstOf_9 (by decide) (fun _ => ?_) (fun n => absurd c3 n)
      cases hf
      have k : _ = r := k
      subst k
      refine lv_iconst (v := (-1)) hx hb dX2_firstOf_21 (by decide) ?_
      exact r_iret X I rfl rfl rfl hn dX2_firstOf_22
    · refine lv_icmp_ge (tgt := 21) hx hb dX2_firstOf_9 (by decide) (fun n => absurd n c3) (fun _ => ?_)
      obtain ⟨x2, h4, hf⟩ := s_bind hf
      obtain ⟨x3, h5, hf⟩ := s_bind hf
      cases hf
      have k : _ = r := k
      subst k
      refine lv_aload_n hx hb dX2_firstOf_12 rfl (lv_at hl 0 rfl) ?_
      refine r_gr X I fl_X2_15 h4 dX2_firstOf_13 ?_
      refine lv_iload_n hx hb dX2_firstOf_16 rfl (lv_at hl 1 rfl) ?_
      refine r_iald X I h5 dX2_firstOf_17 ?_
      refine lv_goto (tgt := 22) hx hb dX2_firstOf_18 (by decide) ?_
      exact r_iret X I rfl rfl rfl hn dX2_firstOf_22
theorem v_X2_firstOf {G : sG} {d : Nat} {vs0 : List Value} {σ0 : sS} {x : sL} {z : sZ Int32} {r : Int32 × sS} (hs : S_X2_firstOf x = some z) (k : s_K G (d + 1) M_X2_firstOf vs0 σ0 Y_X2_firstOf e_I z r) : s_V G (d + 1) M_X2_firstOf vs0 σ0 Y_X2_firstOf x (e_I r) := by
  obtain ⟨pc, vs, σ⟩ := x
  unfold S_X2_firstOf at hs
  dsimp only at hs
  rcases s_ite hs with ⟨c, hs⟩ | ⟨-, hs⟩
  · subst c
    unfold U_X2_firstOf_0 at hs
    obtain ⟨a0, g0, hs⟩ := s_bind hs
    obtain ⟨a1, g1, hs⟩ := s_bind hs
    obtain ⟨u9, ge, hs⟩ := s_bind hs
    rw [g_r_to g0, g_i_to g1, g_e_to ge]
    exact v_X2_firstOf_0 hs k
  cases hs
theorem t_X2_firstOf {G : sG} {d : Nat} {v0 : Nat} {v1 : Int32} {σ : sS} {q : Int32 × sS} (h : F_X2_firstOf v0 v1 σ = some q) : s_T G (d + 1) M_X2_firstOf [.ref v0, .int v1] σ (e_I q) := by
  unfold F_X2_firstOf at h
  obtain ⟨-, -, h⟩ := s_bind h
  exact s_ofV rfl (by decide) (Nat.le_of_ble_eq_true rfl) rfl rfl (s_run_ind (V := fun x r => s_V G (d + 1) M_X2_firstOf [.ref v0, .int v1] σ Y_X2_firstOf x (e_I r)) (fun x z r hs hk => v_X2_firstOf hs (by cases z <;> exact hk)) h)
/-! X2_secondOf -/
noncomputable def T_X2_secondOf_0 (v0 : Nat) (v1 : Int32) (σ : sS) : Option (sZ Int32) :=
  if v1 < 0 then (some (.inr ((-1), σ)))
  else ((s_fi σ v0 2 0).bind fun x1 =>
  if x1 ≤ v1 then (some (.inr ((-1), σ)))
  else ((s_fr σ v0 2 3).bind fun x2 =>
  (s_ai σ x2 v1).bind fun x3 =>
  some (.inr (x3, σ))))
noncomputable def U_X2_secondOf_0 (vs : List Value) (σ : sS) : Option (sZ Int32) := (g_r vs).bind fun a0 => (g_i a0.2).bind fun a1 => (g_e a1.2).bind fun _ => T_X2_secondOf_0 a0.1 a1.1 σ
noncomputable def S_X2_secondOf (x : sL) : Option (sZ Int32) := if x.1 = 0 then U_X2_secondOf_0 x.2.1 x.2.2 else none
def Y_X2_secondOf (pc : Nat) : List Nat := if pc = 0 then [0, 1] else []
noncomputable def F_X2_secondOf (v0 : Nat) (v1 : Int32) (σ : sS) : Option (Int32 × sS) := (s_is σ v0 2).bind fun _ => s_run S_X2_secondOf (0, [.ref v0, .int v1], σ)
theorem l_X2_secondOf_0 {v0 : Nat} {v1 : Int32} {σ : sS} {z : sZ Int32} (hf : T_X2_secondOf_0 v0 v1 σ = some z) : s_lz σ z := by
  unfold T_X2_secondOf_0 at hf
  rcases s_ite hf with ⟨-, hf⟩ | ⟨-, hf⟩
  · cases hf
    exact s_le.rf
  · obtain ⟨x1, -, hf⟩ := s_bind hf
    rcases s_ite hf with ⟨-, hf⟩ | ⟨-, hf⟩
    · cases hf
      exact s_le.rf
    · obtain ⟨x2, -, hf⟩ := s_bind hf
      obtain ⟨x3, -, hf⟩ := s_bind hf
      cases hf
      exact s_le.rf
theorem l_X2_secondOf_s {x : sL} {z : sZ Int32} (hs : S_X2_secondOf x = some z) : s_lz x.2.2 z := by
  obtain ⟨pc, vs, σ⟩ := x
  unfold S_X2_secondOf at hs
  dsimp only at hs ⊢
  rcases s_ite hs with ⟨c, hs⟩ | ⟨-, hs⟩
  · subst c
    unfold U_X2_secondOf_0 at hs
    obtain ⟨a0, g0, hs⟩ := s_bind hs
    obtain ⟨a1, g1, hs⟩ := s_bind hs
    obtain ⟨u9, ge, hs⟩ := s_bind hs
    exact l_X2_secondOf_0 hs
  cases hs
theorem l_X2_secondOf {v0 : Nat} {v1 : Int32} {σ : sS} {q : Int32 × sS} (h : F_X2_secondOf v0 v1 σ = some q) : s_le σ q.2 := by
  unfold F_X2_secondOf at h
  obtain ⟨-, -, h⟩ := s_bind h
  exact s_run_ind (V := fun x r => s_le x.2.2 r.2) (fun x z r hs hk => by
    have h9 := l_X2_secondOf_s hs
    cases z with
    | inl y => exact s_le.tr h9 hk
    | inr q => cases hk; exact h9) h
theorem b_X2_secondOf {v0 : Nat} {v1 : Int32} {σ : sS} {q : Int32 × sS} (h : F_X2_secondOf v0 v1 σ = some q) : ∃ fs, σ.1 v0 = some (.inr (2, fs)) := by
  unfold F_X2_secondOf at h
  obtain ⟨u, hu, -⟩ := s_bind h
  exact s_is_to hu
set_option maxRecDepth 100000 in
set_option maxHeartbeats 4000000 in
theorem v_X2_secondOf_0 {G : sG} {d : Nat} {vs0 : List Value} {σ0 : sS} {v0 : Nat} {v1 : Int32} {σ : sS} {z : sZ Int32} {r : Int32 × sS} (hf : T_X2_secondOf_0 v0 v1 σ = some z) (k : s_K G (d + 1) M_X2_secondOf vs0 σ0 Y_X2_secondOf e_I z r) : s_V G (d + 1) M_X2_secondOf vs0 σ0 Y_X2_secondOf (0, [.ref v0, .int v1], σ) (e_I r) := by
  have le0 : s_le σ (e_I r).2 := s_lek hem_I (l_X2_secondOf_0 hf) k
  refine ⟨le0, ?_⟩
  intro p e s m below meth c H locs cells slots ls X I hn1 hn2 hl
  have hn : cells + σ0.2.1 ≤ σ.2.1 ∧ slots + σ0.2.2.1 ≤ σ.2.2.1 := ⟨hn1, hn2⟩
  have hl : lv_has ls 2 [(0, .ref v0), (1, .int v1)] := hl
  have hx := X.1
  have hb : c.code = cX2_secondOf := X.2.1
  have hown : s.vm.findClass RX2 = some m.cls := X.2.2.2.2.2.1
  have hts := X.2.2.2.2.2.2.1
  refine W.eq (g2 := F0 m 0 ls []) rfl ?_
  unfold T_X2_secondOf_0 at hf
  refine lv_iload_n hx hb dX2_secondOf_0 rfl (lv_at hl 1 rfl) ?_
  rcases s_ite hf with ⟨c1, hf⟩ | ⟨c1, hf⟩
  · refine lv_if_lt (tgt := 21) hx hb dX2_secondOf_1 (by decide) (fun _ => ?_) (fun n => absurd c1 n)
    cases hf
    have k : _ = r := k
    subst k
    refine lv_iconst (v := (-1)) hx hb dX2_secondOf_21 (by decide) ?_
    exact r_iret X I rfl rfl rfl hn dX2_secondOf_22
  · refine lv_if_lt (tgt := 21) hx hb dX2_secondOf_1 (by decide) (fun n => absurd n c1) (fun _ => ?_)
    obtain ⟨x1, h2, hf⟩ := s_bind hf
    refine lv_iload_n hx hb dX2_secondOf_4 rfl (lv_at hl 1 rfl) ?_
    refine lv_aload_n hx hb dX2_secondOf_5 rfl (lv_at hl 0 rfl) ?_
    refine r_gi X I fl_X2_39 h2 dX2_secondOf_6 ?_
    rcases s_ite hf with ⟨c3, hf⟩ | ⟨c3, hf⟩
    · refine lv_icmp_ge (tgt := 21) hx hb dX2_secondOf_9 (by decide) (fun _ => ?_) (fun n => absurd c3 n)
      cases hf
      have k : _ = r := k
      subst k
      refine lv_iconst (v := (-1)) hx hb dX2_secondOf_21 (by decide) ?_
      exact r_iret X I rfl rfl rfl hn dX2_secondOf_22
    · refine lv_icmp_ge (tgt := 21) hx hb dX2_secondOf_9 (by decide) (fun n => absurd n c3) (fun _ => ?_)
      obtain ⟨x2, h4, hf⟩ := s_bind hf
      obtain ⟨x3, h5, hf⟩ := s_bind hf
      cases hf
      have k : _ = r := k
      subst k
      refine lv_aload_n hx hb dX2_secondOf_12 rfl (lv_at hl 0 rfl) ?_
      refine r_gr X I fl_X2_18 h4 dX2_secondOf_13 ?_
      refine lv_iload_n hx hb dX2_secondOf_16 rfl (lv_at hl 1 rfl) ?_
      refine r_iald X I h5 dX2_secondOf_17 ?_
      refine lv_goto (tgt := 22) hx hb dX2_secondOf_18 (by decide) ?_
      exact r_iret X I rfl rfl rfl hn dX2_secondOf_22
theorem v_X2_secondOf {G : sG} {d : Nat} {vs0 : List Value} {σ0 : sS} {x : sL} {z : sZ Int32} {r : Int32 × sS} (hs : S_X2_secondOf x = some z) (k : s_K G (d + 1) M_X2_secondOf vs0 σ0 Y_X2_secondOf e_I z r) : s_V G (d + 1) M_X2_secondOf vs0 σ0 Y_X2_secondOf x (e_I r) := by
  obtain ⟨pc, vs, σ⟩ := x
  unfold S_X2_secondOf at hs
  dsimp only at hs
  rcases s_ite hs with ⟨c, hs⟩ | ⟨-, hs⟩
  · subst c
    unfold U_X2_secondOf_0 at hs
    obtain ⟨a0, g0, hs⟩ := s_bind hs
    obtain ⟨a1, g1, hs⟩ := s_bind hs
    obtain ⟨u9, ge, hs⟩ := s_bind hs
    rw [g_r_to g0, g_i_to g1, g_e_to ge]
    exact v_X2_secondOf_0 hs k
  cases hs
theorem t_X2_secondOf {G : sG} {d : Nat} {v0 : Nat} {v1 : Int32} {σ : sS} {q : Int32 × sS} (h : F_X2_secondOf v0 v1 σ = some q) : s_T G (d + 1) M_X2_secondOf [.ref v0, .int v1] σ (e_I q) := by
  unfold F_X2_secondOf at h
  obtain ⟨-, -, h⟩ := s_bind h
  exact s_ofV rfl (by decide) (Nat.le_of_ble_eq_true rfl) rfl rfl (s_run_ind (V := fun x r => s_V G (d + 1) M_X2_secondOf [.ref v0, .int v1] σ Y_X2_secondOf x (e_I r)) (fun x z r hs hk => v_X2_secondOf hs (by cases z <;> exact hk)) h)
/-! X4_lookAt -/
noncomputable def T_X4_lookAt_0 (f_X4_lookAt : Nat → Int32 → Int32 → sS → Option (Unit × sS)) (v0 : Nat) (v1 : Int32) (v2 : Int32) (σ : sS) : Option (sZ Unit) :=
  (s_fi σ v0 4 8).bind fun x1 =>
  if (40 : Int32) ≤ x1 then (some (.inr ((), σ)))
  else (if (48 : Int32) < v2 then (some (.inr ((), σ)))
  else (if v1 = (-1) then (some (.inr ((), σ)))
  else ((F_X4_placeOf v0 v1 σ).bind fun q2 =>
  if q2.1 = (-1) then ((s_fr q2.2 v0 4 2).bind fun x3 =>
  (s_fi q2.2 v0 4 8).bind fun x4 =>
  (s_si q2.2 x3 x4 v1).bind fun σ5 =>
  (s_fr σ5 v0 4 3).bind fun x6 =>
  (s_fi σ5 v0 4 8).bind fun x7 =>
  (s_fr σ5 v0 4 0).bind fun x8 =>
  (F_X2_signsOf x8 v1 σ5).bind fun q9 =>
  (s_si q9.2 x6 x7 q9.1).bind fun σ10 =>
  (s_fi σ10 v0 4 8).bind fun x11 =>
  (s_pf σ10 v0 4 8 (.int (x11 + 1))).bind fun σ12 =>
  (s_fr σ12 v0 4 0).bind fun x13 =>
  (F_X2_kindOf x13 v1 σ12).bind fun q14 =>
  if q14.1 = 5 then (some (.inl (87, [.ref v0, .int v1, .int v2], q14.2)))
  else (if q14.1 = 6 then (some (.inl (87, [.ref v0, .int v1, .int v2], q14.2)))
  else (if q14.1 = 0 then (some (.inr ((), q14.2)))
  else ((s_fr q14.2 v0 4 0).bind fun x15 =>
  (F_X2_firstOf x15 v1 q14.2).bind fun q16 =>
  (f_X4_lookAt v0 q16.1 (v2 + 1) q16.2).bind fun q17 =>
  (s_fr q17.2 v0 4 0).bind fun x18 =>
  (F_X2_secondOf x18 v1 q17.2).bind fun q19 =>
  (f_X4_lookAt v0 q19.1 (v2 + 1) q19.2).bind fun q20 =>
  some (.inr ((), q20.2))))))
  else (some (.inr ((), q2.2))))))
noncomputable def U_X4_lookAt_0 (f_X4_lookAt : Nat → Int32 → Int32 → sS → Option (Unit × sS)) (vs : List Value) (σ : sS) : Option (sZ Unit) := (g_r vs).bind fun a0 => (g_i a0.2).bind fun a1 => (g_i a1.2).bind fun a2 => (g_e a2.2).bind fun _ => T_X4_lookAt_0 f_X4_lookAt a0.1 a1.1 a2.1 σ
noncomputable def T_X4_lookAt_87 (f_X4_lookAt : Nat → Int32 → Int32 → sS → Option (Unit × sS)) (v0 : Nat) (v1 : Int32) (v2 : Int32) (σ : sS) : Option (sZ Unit) :=
  some (.inl (90, [.ref v0, .int v1, .int v2, .int 0], σ))
noncomputable def U_X4_lookAt_87 (f_X4_lookAt : Nat → Int32 → Int32 → sS → Option (Unit × sS)) (vs : List Value) (σ : sS) : Option (sZ Unit) := (g_r vs).bind fun a0 => (g_i a0.2).bind fun a1 => (g_i a1.2).bind fun a2 => (g_e a2.2).bind fun _ => T_X4_lookAt_87 f_X4_lookAt a0.1 a1.1 a2.1 σ
noncomputable def T_X4_lookAt_90 (f_X4_lookAt : Nat → Int32 → Int32 → sS → Option (Unit × sS)) (v0 : Nat) (v1 : Int32) (v2 : Int32) (v4 : Int32) (σ : sS) : Option (sZ Unit) :=
  (s_fr σ v0 4 1).bind fun x1 =>
  (s_fi σ x1 1 0).bind fun x2 =>
  if x2 ≤ v4 then (some (.inr ((), σ)))
  else ((s_fr σ v0 4 0).bind fun x3 =>
  (F_X2_placedOf x3 v1 v4 σ).bind fun q4 =>
  (f_X4_lookAt v0 q4.1 (v2 + 1) q4.2).bind fun q5 =>
  some (.inl (90, [.ref v0, .int v1, .int v2, .int (v4 + 1)], q5.2)))
noncomputable def U_X4_lookAt_90 (f_X4_lookAt : Nat → Int32 → Int32 → sS → Option (Unit × sS)) (vs : List Value) (σ : sS) : Option (sZ Unit) := (g_r vs).bind fun a0 => (g_i a0.2).bind fun a1 => (g_i a1.2).bind fun a2 => (g_i a2.2).bind fun a3 => (g_e a3.2).bind fun _ => T_X4_lookAt_90 f_X4_lookAt a0.1 a1.1 a2.1 a3.1 σ
noncomputable def S_X4_lookAt (f_X4_lookAt : Nat → Int32 → Int32 → sS → Option (Unit × sS)) (x : sL) : Option (sZ Unit) := if x.1 = 0 then U_X4_lookAt_0 f_X4_lookAt x.2.1 x.2.2 else if x.1 = 87 then U_X4_lookAt_87 f_X4_lookAt x.2.1 x.2.2 else if x.1 = 90 then U_X4_lookAt_90 f_X4_lookAt x.2.1 x.2.2 else none
def Y_X4_lookAt (pc : Nat) : List Nat := if pc = 0 then [0, 1, 2] else if pc = 87 then [0, 1, 2] else if pc = 90 then [0, 1, 2, 4] else []
noncomputable def Q_X4_lookAt : Nat → (Nat → Int32 → Int32 → sS → Option (Unit × sS))
  | 0 => (fun _ _ _ _ => none)
  | k + 1 => (fun v0 v1 v2 σ => (s_is σ v0 4).bind fun _ => s_run (S_X4_lookAt (Q_X4_lookAt k)) (0, [.ref v0, .int v1, .int v2], σ))
noncomputable def F_X4_lookAt (k : Nat) : Nat → Int32 → Int32 → sS → Option (Unit × sS) := (Q_X4_lookAt k)
theorem l_X4_lookAt_0 (f_X4_lookAt : Nat → Int32 → Int32 → sS → Option (Unit × sS)) (lG_X4_lookAt : ∀ {y0 : Nat} {y1 : Int32} {y2 : Int32} {σ : sS} {q : Unit × sS}, f_X4_lookAt y0 y1 y2 σ = some q → s_le σ q.2) {v0 : Nat} {v1 : Int32} {v2 : Int32} {σ : sS} {z : sZ Unit} (hf : T_X4_lookAt_0 f_X4_lookAt v0 v1 v2 σ = some z) : s_lz σ z := by
  unfold T_X4_lookAt_0 at hf
  obtain ⟨x1, -, hf⟩ := s_bind hf
  rcases s_ite hf with ⟨-, hf⟩ | ⟨-, hf⟩
  · cases hf
    exact s_le.rf
  · rcases s_ite hf with ⟨-, hf⟩ | ⟨-, hf⟩
    · cases hf
      exact s_le.rf
    · rcases s_ite hf with ⟨-, hf⟩ | ⟨-, hf⟩
      · cases hf
        exact s_le.rf
      · obtain ⟨q2, hh, hf⟩ := s_bind hf
        refine s_lz.tr (l_X4_placeOf hh) ?_
        rcases s_ite hf with ⟨-, hf⟩ | ⟨-, hf⟩
        · obtain ⟨x3, -, hf⟩ := s_bind hf
          obtain ⟨x4, -, hf⟩ := s_bind hf
          obtain ⟨σ5, hh, hf⟩ := s_bind hf
          refine s_lz.tr (s_le2 (s_si_2 hh)) ?_
          obtain ⟨x6, -, hf⟩ := s_bind hf
          obtain ⟨x7, -, hf⟩ := s_bind hf
          obtain ⟨x8, -, hf⟩ := s_bind hf
          obtain ⟨q9, hh, hf⟩ := s_bind hf
          refine s_lz.tr (l_X2_signsOf hh) ?_
          obtain ⟨σ10, hh, hf⟩ := s_bind hf
          refine s_lz.tr (s_le2 (s_si_2 hh)) ?_
          obtain ⟨x11, -, hf⟩ := s_bind hf
          obtain ⟨σ12, hh, hf⟩ := s_bind hf
          refine s_lz.tr (s_le2 (s_pf_2 hh)) ?_
          obtain ⟨x13, -, hf⟩ := s_bind hf
          obtain ⟨q14, hh, hf⟩ := s_bind hf
          refine s_lz.tr (l_X2_kindOf hh) ?_
          rcases s_ite hf with ⟨-, hf⟩ | ⟨-, hf⟩
          · cases hf
            exact s_le.rf
          · rcases s_ite hf with ⟨-, hf⟩ | ⟨-, hf⟩
            · cases hf
              exact s_le.rf
            · rcases s_ite hf with ⟨-, hf⟩ | ⟨-, hf⟩
              · cases hf
                exact s_le.rf
              · obtain ⟨x15, -, hf⟩ := s_bind hf
                obtain ⟨q16, hh, hf⟩ := s_bind hf
                refine s_lz.tr (l_X2_firstOf hh) ?_
                obtain ⟨q17, hh, hf⟩ := s_bind hf
                refine s_lz.tr (lG_X4_lookAt hh) ?_
                obtain ⟨x18, -, hf⟩ := s_bind hf
                obtain ⟨q19, hh, hf⟩ := s_bind hf
                refine s_lz.tr (l_X2_secondOf hh) ?_
                obtain ⟨q20, hh, hf⟩ := s_bind hf
                refine s_lz.tr (lG_X4_lookAt hh) ?_
                cases hf
                exact s_le.rf
        · cases hf
          exact s_le.rf
theorem l_X4_lookAt_87 (f_X4_lookAt : Nat → Int32 → Int32 → sS → Option (Unit × sS)) (lG_X4_lookAt : ∀ {y0 : Nat} {y1 : Int32} {y2 : Int32} {σ : sS} {q : Unit × sS}, f_X4_lookAt y0 y1 y2 σ = some q → s_le σ q.2) {v0 : Nat} {v1 : Int32} {v2 : Int32} {σ : sS} {z : sZ Unit} (hf : T_X4_lookAt_87 f_X4_lookAt v0 v1 v2 σ = some z) : s_lz σ z := by
  unfold T_X4_lookAt_87 at hf
  cases hf
  exact s_le.rf
theorem l_X4_lookAt_90 (f_X4_lookAt : Nat → Int32 → Int32 → sS → Option (Unit × sS)) (lG_X4_lookAt : ∀ {y0 : Nat} {y1 : Int32} {y2 : Int32} {σ : sS} {q : Unit × sS}, f_X4_lookAt y0 y1 y2 σ = some q → s_le σ q.2) {v0 : Nat} {v1 : Int32} {v2 : Int32} {v4 : Int32} {σ : sS} {z : sZ Unit} (hf : T_X4_lookAt_90 f_X4_lookAt v0 v1 v2 v4 σ = some z) : s_lz σ z := by
  unfold T_X4_lookAt_90 at hf
  obtain ⟨x1, -, hf⟩ := s_bind hf
  obtain ⟨x2, -, hf⟩ := s_bind hf
  rcases s_ite hf with ⟨-, hf⟩ | ⟨-, hf⟩
  · cases hf
    exact s_le.rf
  · obtain ⟨x3, -, hf⟩ := s_bind hf
    obtain ⟨q4, hh, hf⟩ := s_bind hf
    refine s_lz.tr (l_X2_placedOf hh) ?_
    obtain ⟨q5, hh, hf⟩ := s_bind hf
    refine s_lz.tr (lG_X4_lookAt hh) ?_
    cases hf
    exact s_le.rf
theorem l_X4_lookAt_s (f_X4_lookAt : Nat → Int32 → Int32 → sS → Option (Unit × sS)) (lG_X4_lookAt : ∀ {y0 : Nat} {y1 : Int32} {y2 : Int32} {σ : sS} {q : Unit × sS}, f_X4_lookAt y0 y1 y2 σ = some q → s_le σ q.2) {x : sL} {z : sZ Unit} (hs : S_X4_lookAt f_X4_lookAt x = some z) : s_lz x.2.2 z := by
  obtain ⟨pc, vs, σ⟩ := x
  unfold S_X4_lookAt at hs
  dsimp only at hs ⊢
  rcases s_ite hs with ⟨c, hs⟩ | ⟨-, hs⟩
  · subst c
    unfold U_X4_lookAt_0 at hs
    obtain ⟨a0, g0, hs⟩ := s_bind hs
    obtain ⟨a1, g1, hs⟩ := s_bind hs
    obtain ⟨a2, g2, hs⟩ := s_bind hs
    obtain ⟨u9, ge, hs⟩ := s_bind hs
    exact l_X4_lookAt_0 f_X4_lookAt lG_X4_lookAt hs
  rcases s_ite hs with ⟨c, hs⟩ | ⟨-, hs⟩
  · subst c
    unfold U_X4_lookAt_87 at hs
    obtain ⟨a0, g0, hs⟩ := s_bind hs
    obtain ⟨a1, g1, hs⟩ := s_bind hs
    obtain ⟨a2, g2, hs⟩ := s_bind hs
    obtain ⟨u9, ge, hs⟩ := s_bind hs
    exact l_X4_lookAt_87 f_X4_lookAt lG_X4_lookAt hs
  rcases s_ite hs with ⟨c, hs⟩ | ⟨-, hs⟩
  · subst c
    unfold U_X4_lookAt_90 at hs
    obtain ⟨a0, g0, hs⟩ := s_bind hs
    obtain ⟨a1, g1, hs⟩ := s_bind hs
    obtain ⟨a2, g2, hs⟩ := s_bind hs
    obtain ⟨a3, g3, hs⟩ := s_bind hs
    obtain ⟨u9, ge, hs⟩ := s_bind hs
    exact l_X4_lookAt_90 f_X4_lookAt lG_X4_lookAt hs
  cases hs
set_option maxRecDepth 100000 in
set_option maxHeartbeats 4000000 in
theorem v_X4_lookAt_0 (f_X4_lookAt : Nat → Int32 → Int32 → sS → Option (Unit × sS)) {G : sG} {d : Nat} (lG_X4_lookAt : ∀ {y0 : Nat} {y1 : Int32} {y2 : Int32} {σ : sS} {q : Unit × sS}, f_X4_lookAt y0 y1 y2 σ = some q → s_le σ q.2) (hG_X4_lookAt : ∀ {y0 : Nat} {y1 : Int32} {y2 : Int32} {σ : sS} {q : Unit × sS}, f_X4_lookAt y0 y1 y2 σ = some q → s_T G (d + 2) M_X4_lookAt [.ref y0, .int y1, .int y2] σ (e_V q) ∧ ∃ fs, σ.1 y0 = some (.inr (4, fs))) {vs0 : List Value} {σ0 : sS} {v0 : Nat} {v1 : Int32} {v2 : Int32} {σ : sS} {z : sZ Unit} {r : Unit × sS} (hf : T_X4_lookAt_0 f_X4_lookAt v0 v1 v2 σ = some z) (k : s_K G (d + 3) M_X4_lookAt vs0 σ0 Y_X4_lookAt e_V z r) : s_V G (d + 3) M_X4_lookAt vs0 σ0 Y_X4_lookAt (0, [.ref v0, .int v1, .int v2], σ) (e_V r) := by
  have le0 : s_le σ (e_V r).2 := s_lek hem_V (l_X4_lookAt_0 f_X4_lookAt lG_X4_lookAt hf) k
  refine ⟨le0, ?_⟩
  intro p e s m below meth c H locs cells slots ls X I hn1 hn2 hl
  have hn : cells + σ0.2.1 ≤ σ.2.1 ∧ slots + σ0.2.2.1 ≤ σ.2.2.1 := ⟨hn1, hn2⟩
  have hl : lv_has ls 5 [(0, .ref v0), (1, .int v1), (2, .int v2)] := hl
  have hx := X.1
  have hb : c.code = cX4_lookAt := X.2.1
  have hown : s.vm.findClass RX4 = some m.cls := X.2.2.2.2.2.1
  have hts := X.2.2.2.2.2.2.1
  refine W.eq (g2 := F0 m 0 ls []) rfl ?_
  unfold T_X4_lookAt_0 at hf
  obtain ⟨x1, h1, hf⟩ := s_bind hf
  refine lv_aload_n hx hb dX4_lookAt_0 rfl (lv_at hl 0 rfl) ?_
  refine r_gi X I fl_X4_48 h1 dX4_lookAt_1 ?_
  refine lv_bipush (v := 40) hx hb dX4_lookAt_4 (by decide) ?_
  rcases s_ite hf with ⟨c2, hf⟩ | ⟨c2, hf⟩
  · refine lv_icmp_ge (tgt := 29) hx hb dX4_lookAt_6 (by decide) (fun _ => ?_) (fun n => absurd c2 n)
    cases hf
    have k : _ = r := k
    subst k
    exact r_vret X I rfl rfl hn dX4_lookAt_29
  · refine lv_icmp_ge (tgt := 29) hx hb dX4_lookAt_6 (by decide) (fun n => absurd n c2) (fun _ => ?_)
    refine lv_iload_n hx hb dX4_lookAt_9 rfl (lv_at hl 2 rfl) ?_
    refine lv_bipush (v := 48) hx hb dX4_lookAt_10 (by decide) ?_
    rcases s_ite hf with ⟨c3, hf⟩ | ⟨c3, hf⟩
    · refine lv_icmp_gt (tgt := 29) hx hb dX4_lookAt_12 (by decide) (fun _ => ?_) (fun n => absurd c3 n)
      cases hf
      have k : _ = r := k
      subst k
      exact r_vret X I rfl rfl hn dX4_lookAt_29
    · refine lv_icmp_gt (tgt := 29) hx hb dX4_lookAt_12 (by decide) (fun n => absurd n c3) (fun _ => ?_)
      refine lv_iload_n hx hb dX4_lookAt_15 rfl (lv_at hl 1 rfl) ?_
      refine lv_iconst (v := (-1)) hx hb dX4_lookAt_16 (by decide) ?_
      rcases s_ite hf with ⟨c4, hf⟩ | ⟨c4, hf⟩
      · refine lv_icmp_eq (tgt := 29) hx hb dX4_lookAt_17 (by decide) (fun _ => ?_) (fun n => absurd c4 n)
        cases hf
        have k : _ = r := k
        subst k
        exact r_vret X I rfl rfl hn dX4_lookAt_29
      · refine lv_icmp_eq (tgt := 29) hx hb dX4_lookAt_17 (by decide) (fun n => absurd n c4) (fun _ => ?_)
        obtain ⟨q2, h5, hf⟩ := s_bind hf
        have le6 : s_le q2.2 (e_V r).2 := by
          refine s_lek hem_V ?_ k
          rcases s_ite hf with ⟨-, hf⟩ | ⟨-, hf⟩
          · obtain ⟨x3, -, hf⟩ := s_bind hf
            obtain ⟨x4, -, hf⟩ := s_bind hf
            obtain ⟨σ5, hh, hf⟩ := s_bind hf
            refine s_lz.tr (s_le2 (s_si_2 hh)) ?_
            obtain ⟨x6, -, hf⟩ := s_bind hf
            obtain ⟨x7, -, hf⟩ := s_bind hf
            obtain ⟨x8, -, hf⟩ := s_bind hf
            obtain ⟨q9, hh, hf⟩ := s_bind hf
            refine s_lz.tr (l_X2_signsOf hh) ?_
            obtain ⟨σ10, hh, hf⟩ := s_bind hf
            refine s_lz.tr (s_le2 (s_si_2 hh)) ?_
            obtain ⟨x11, -, hf⟩ := s_bind hf
            obtain ⟨σ12, hh, hf⟩ := s_bind hf
            refine s_lz.tr (s_le2 (s_pf_2 hh)) ?_
            obtain ⟨x13, -, hf⟩ := s_bind hf
            obtain ⟨q14, hh, hf⟩ := s_bind hf
            refine s_lz.tr (l_X2_kindOf hh) ?_
            rcases s_ite hf with ⟨-, hf⟩ | ⟨-, hf⟩
            · cases hf
              exact s_le.rf
            · rcases s_ite hf with ⟨-, hf⟩ | ⟨-, hf⟩
              · cases hf
                exact s_le.rf
              · rcases s_ite hf with ⟨-, hf⟩ | ⟨-, hf⟩
                · cases hf
                  exact s_le.rf
                · obtain ⟨x15, -, hf⟩ := s_bind hf
                  obtain ⟨q16, hh, hf⟩ := s_bind hf
                  refine s_lz.tr (l_X2_firstOf hh) ?_
                  obtain ⟨q17, hh, hf⟩ := s_bind hf
                  refine s_lz.tr (lG_X4_lookAt hh) ?_
                  obtain ⟨x18, -, hf⟩ := s_bind hf
                  obtain ⟨q19, hh, hf⟩ := s_bind hf
                  refine s_lz.tr (l_X2_secondOf hh) ?_
                  obtain ⟨q20, hh, hf⟩ := s_bind hf
                  refine s_lz.tr (lG_X4_lookAt hh) ?_
                  cases hf
                  exact s_le.rf
          · cases hf
            exact s_le.rf
        refine lv_aload_n hx hb dX4_lookAt_20 rfl (lv_at hl 0 rfl) ?_
        refine lv_iload_n hx hb dX4_lookAt_21 rfl (lv_at hl 1 rfl) ?_
        refine r_callV (Y := M_X4_placeOf) (v := some (.int q2.1)) X I w_1292 my_X4_placeOf (by omega) (t_X4_placeOf (G := G) (d := d + 1) h5) (b_X4_placeOf h5) rfl rfl hl.1 rfl (Nat.le_of_ble_eq_true rfl) hn le6 dX4_lookAt_22 (fun H locs cells slots I hn1 hn2 => ?_)
        have I : s_I G q2.2 s H locs := I
        have hn : cells + σ0.2.1 ≤ q2.2.2.1 ∧ slots + σ0.2.2.1 ≤ q2.2.2.2.1 := ⟨hn1, hn2⟩
        refine lv_iconst (v := (-1)) hx hb dX4_lookAt_25 (by decide) ?_
        rcases s_ite hf with ⟨c7, hf⟩ | ⟨c7, hf⟩
        · refine lv_icmp_eq (tgt := 30) hx hb dX4_lookAt_26 (by decide) (fun _ => ?_) (fun n => absurd c7 n)
          obtain ⟨x3, h8, hf⟩ := s_bind hf
          obtain ⟨x4, h9, hf⟩ := s_bind hf
          obtain ⟨σ5, h10, hf⟩ := s_bind hf
          obtain ⟨x6, h11, hf⟩ := s_bind hf
          obtain ⟨x7, h12, hf⟩ := s_bind hf
          obtain ⟨x8, h13, hf⟩ := s_bind hf
          obtain ⟨q9, h14, hf⟩ := s_bind hf
          obtain ⟨σ10, h15, hf⟩ := s_bind hf
          obtain ⟨x11, h16, hf⟩ := s_bind hf
          obtain ⟨σ12, h17, hf⟩ := s_bind hf
          obtain ⟨x13, h18, hf⟩ := s_bind hf
          obtain ⟨q14, h19, hf⟩ := s_bind hf
          have le20 : s_le q14.2 (e_V r).2 := by
            refine s_lek hem_V ?_ k
            rcases s_ite hf with ⟨-, hf⟩ | ⟨-, hf⟩
            · cases hf
              exact s_le.rf
            · rcases s_ite hf with ⟨-, hf⟩ | ⟨-, hf⟩
              · cases hf
                exact s_le.rf
              · rcases s_ite hf with ⟨-, hf⟩ | ⟨-, hf⟩
                · cases hf
                  exact s_le.rf
                · obtain ⟨x15, -, hf⟩ := s_bind hf
                  obtain ⟨q16, hh, hf⟩ := s_bind hf
                  refine s_lz.tr (l_X2_firstOf hh) ?_
                  obtain ⟨q17, hh, hf⟩ := s_bind hf
                  refine s_lz.tr (lG_X4_lookAt hh) ?_
                  obtain ⟨x18, -, hf⟩ := s_bind hf
                  obtain ⟨q19, hh, hf⟩ := s_bind hf
                  refine s_lz.tr (l_X2_secondOf hh) ?_
                  obtain ⟨q20, hh, hf⟩ := s_bind hf
                  refine s_lz.tr (lG_X4_lookAt hh) ?_
                  cases hf
                  exact s_le.rf
          have le21 := s_le.tr (l_X2_kindOf h19) le20
          have le22 := s_le.tr (s_le2 (s_pf_2 h17)) le21
          have le23 := s_le.tr (s_le2 (s_si_2 h15)) le22
          have le24 := s_le.tr (l_X2_signsOf h14) le23
          refine lv_aload_n hx hb dX4_lookAt_30 rfl (lv_at hl 0 rfl) ?_
          refine r_gr X I fl_X4_11 h8 dX4_lookAt_31 ?_
          refine lv_aload_n hx hb dX4_lookAt_34 rfl (lv_at hl 0 rfl) ?_
          refine r_gi X I fl_X4_48 h9 dX4_lookAt_35 ?_
          refine lv_iload_n hx hb dX4_lookAt_38 rfl (lv_at hl 1 rfl) ?_
          refine r_iast X I h10 dX4_lookAt_39 (fun H locs I => ?_)
          have hn := s_k2 (s_si_2 h10) hn
          refine lv_aload_n hx hb dX4_lookAt_40 rfl (lv_at hl 0 rfl) ?_
          refine r_gr X I fl_X4_15 h11 dX4_lookAt_41 ?_
          refine lv_aload_n hx hb dX4_lookAt_44 rfl (lv_at hl 0 rfl) ?_
          refine r_gi X I fl_X4_48 h12 dX4_lookAt_45 ?_
          refine lv_aload_n hx hb dX4_lookAt_48 rfl (lv_at hl 0 rfl) ?_
          refine r_gr X I fl_X4_30 h13 dX4_lookAt_49 ?_
          refine lv_iload_n hx hb dX4_lookAt_52 rfl (lv_at hl 1 rfl) ?_
          refine r_callV (Y := M_X2_signsOf) (v := some (.int q9.1)) X I w_1296 my_X2_signsOf (by omega) (t_X2_signsOf (G := G) (d := d + 1) h14) (b_X2_signsOf h14) rfl rfl hl.1 rfl (Nat.le_of_ble_eq_true rfl) hn le23 dX4_lookAt_53 (fun H locs cells slots I hn1 hn2 => ?_)
          have I : s_I G q9.2 s H locs := I
          have hn : cells + σ0.2.1 ≤ q9.2.2.1 ∧ slots + σ0.2.2.1 ≤ q9.2.2.2.1 := ⟨hn1, hn2⟩
          refine r_iast X I h15 dX4_lookAt_56 (fun H locs I => ?_)
          have hn := s_k2 (s_si_2 h15) hn
          refine lv_aload_n hx hb dX4_lookAt_57 rfl (lv_at hl 0 rfl) ?_
          refine lv_dup hx hb dX4_lookAt_58 rfl ?_
          refine r_gi X I fl_X4_48 h16 dX4_lookAt_59 ?_
          refine lv_iconst (v := 1) hx hb dX4_lookAt_62 (by decide) ?_
          refine lv_iadd hx hb dX4_lookAt_63 ?_
          refine r_put X I fp_X4_48 (fun h => by cases h) h17 rfl rfl dX4_lookAt_64 (fun H locs I => ?_)
          have hn := s_k2 (s_pf_2 h17) hn
          refine lv_aload_n hx hb dX4_lookAt_67 rfl (lv_at hl 0 rfl) ?_
          refine r_gr X I fl_X4_30 h18 dX4_lookAt_68 ?_
          refine lv_iload_n hx hb dX4_lookAt_71 rfl (lv_at hl 1 rfl) ?_
          refine r_callV (Y := M_X2_kindOf) (v := some (.int q14.1)) X I w_1297 my_X2_kindOf (by omega) (t_X2_kindOf (G := G) (d := d + 1) h19) (b_X2_kindOf h19) rfl rfl hl.1 rfl (Nat.le_of_ble_eq_true rfl) hn le20 dX4_lookAt_72 (fun H locs cells slots I hn1 hn2 => ?_)
          have I : s_I G q14.2 s H locs := I
          have hn : cells + σ0.2.1 ≤ q14.2.2.1 ∧ slots + σ0.2.2.1 ≤ q14.2.2.2.1 := ⟨hn1, hn2⟩
          refine lv_istore_n (lv' := [(3, .int q14.1), (0, .ref v0), (1, .int v1), (2, .int v2)]) hx hb dX4_lookAt_75 rfl hl (by decide) rfl (fun ls hl => ?_)
          refine lv_iload_n hx hb dX4_lookAt_76 rfl (lv_at hl 0 rfl) ?_
          refine lv_iconst (v := 5) hx hb dX4_lookAt_77 (by decide) ?_
          rcases s_ite hf with ⟨c25, hf⟩ | ⟨c25, hf⟩
          · refine lv_icmp_eq (tgt := 87) hx hb dX4_lookAt_78 (by decide) (fun _ => ?_) (fun n => absurd c25 n)
            cases hf
            have k : s_V G (d + 3) M_X4_lookAt vs0 σ0 Y_X4_lookAt (87, [.ref v0, .int v1, .int v2], q14.2) (e_V r) := k
            exact k.2 p e s m below meth c _ _ _ _ _ X I hn.1 hn.2 (lv_sub hl [1, 2, 3] rfl)
          · refine lv_icmp_eq (tgt := 87) hx hb dX4_lookAt_78 (by decide) (fun n => absurd n c25) (fun _ => ?_)
            refine lv_iload_n hx hb dX4_lookAt_81 rfl (lv_at hl 0 rfl) ?_
            refine lv_bipush (v := 6) hx hb dX4_lookAt_82 (by decide) ?_
            rcases s_ite hf with ⟨c26, hf⟩ | ⟨c26, hf⟩
            · refine lv_icmp_ne (tgt := 128) hx hb dX4_lookAt_84 (by decide) (fun n => absurd c26 n) (fun _ => ?_)
              cases hf
              have k : s_V G (d + 3) M_X4_lookAt vs0 σ0 Y_X4_lookAt (87, [.ref v0, .int v1, .int v2], q14.2) (e_V r) := k
              exact k.2 p e s m below meth c _ _ _ _ _ X I hn.1 hn.2 (lv_sub hl [1, 2, 3] rfl)
            · refine lv_icmp_ne (tgt := 128) hx hb dX4_lookAt_84 (by decide) (fun _ => ?_) (fun n => absurd n c26)
              refine lv_iload_n hx hb dX4_lookAt_128 rfl (lv_at hl 0 rfl) ?_
              rcases s_ite hf with ⟨c27, hf⟩ | ⟨c27, hf⟩
              · refine lv_if_eq (tgt := 162) hx hb dX4_lookAt_129 (by decide) (fun _ => ?_) (fun n => absurd c27 n)
                cases hf
                have k : _ = r := k
                subst k
                exact r_vret X I rfl rfl hn dX4_lookAt_162
              · refine lv_if_eq (tgt := 162) hx hb dX4_lookAt_129 (by decide) (fun n => absurd n c27) (fun _ => ?_)
                obtain ⟨x15, h28, hf⟩ := s_bind hf
                obtain ⟨q16, h29, hf⟩ := s_bind hf
                obtain ⟨q17, h30, hf⟩ := s_bind hf
                obtain ⟨x18, h31, hf⟩ := s_bind hf
                obtain ⟨q19, h32, hf⟩ := s_bind hf
                obtain ⟨q20, h33, hf⟩ := s_bind hf
                cases hf
                have k : _ = r := k
                subst k
                have le34 : s_le q20.2 q20.2 := s_le.rf
                have le35 := s_le.tr (lG_X4_lookAt h33) le34
                have le36 := s_le.tr (l_X2_secondOf h32) le35
                have le37 := s_le.tr (lG_X4_lookAt h30) le36
                refine lv_aload_n hx hb dX4_lookAt_132 rfl (lv_at hl 1 rfl) ?_
                refine lv_aload_n hx hb dX4_lookAt_133 rfl (lv_at hl 1 rfl) ?_
                refine r_gr X I fl_X4_30 h28 dX4_lookAt_134 ?_
                refine lv_iload_n hx hb dX4_lookAt_137 rfl (lv_at hl 2 rfl) ?_
                refine r_callV (Y := M_X2_firstOf) (v := some (.int q16.1)) X I w_1299 my_X2_firstOf (by omega) (t_X2_firstOf (G := G) (d := d + 1) h29) (b_X2_firstOf h29) rfl rfl hl.1 rfl (Nat.le_of_ble_eq_true rfl) hn le37 dX4_lookAt_138 (fun H locs cells slots I hn1 hn2 => ?_)
                have I : s_I G q16.2 s H locs := I
                have hn : cells + σ0.2.1 ≤ q16.2.2.1 ∧ slots + σ0.2.2.1 ≤ q16.2.2.2.1 := ⟨hn1, hn2⟩
                refine lv_iload_n hx hb dX4_lookAt_141 rfl (lv_at hl 3 rfl) ?_
                refine lv_iconst (v := 1) hx hb dX4_lookAt_142 (by decide) ?_
                refine lv_iadd hx hb dX4_lookAt_143 ?_
                refine r_callV (Y := M_X4_lookAt) (v := none) X I w_1288 my_X4_lookAt (by omega) (hG_X4_lookAt h30).1 (hG_X4_lookAt h30).2 rfl rfl hl.1 rfl (Nat.le_of_ble_eq_true rfl) hn le36 dX4_lookAt_144 (fun H locs cells slots I hn1 hn2 => ?_)
                have I : s_I G q17.2 s H locs := I
                have hn : cells + σ0.2.1 ≤ q17.2.2.1 ∧ slots + σ0.2.2.1 ≤ q17.2.2.2.1 := ⟨hn1, hn2⟩
                refine lv_aload_n hx hb dX4_lookAt_147 rfl (lv_at hl 1 rfl) ?_
                refine lv_aload_n hx hb dX4_lookAt_148 rfl (lv_at hl 1 rfl) ?_
                refine r_gr X I fl_X4_30 h31 dX4_lookAt_149 ?_
                refine lv_iload_n hx hb dX4_lookAt_152 rfl (lv_at hl 2 rfl) ?_
                refine r_callV (Y := M_X2_secondOf) (v := some (.int q19.1)) X I w_1300 my_X2_secondOf (by omega) (t_X2_secondOf (G := G) (d := d + 1) h32) (b_X2_secondOf h32) rfl rfl hl.1 rfl (Nat.le_of_ble_eq_true rfl) hn le35 dX4_lookAt_153 (fun H locs cells slots I hn1 hn2 => ?_)
                have I : s_I G q19.2 s H locs := I
                have hn : cells + σ0.2.1 ≤ q19.2.2.1 ∧ slots + σ0.2.2.1 ≤ q19.2.2.2.1 := ⟨hn1, hn2⟩
                refine lv_iload_n hx hb dX4_lookAt_156 rfl (lv_at hl 3 rfl) ?_
                refine lv_iconst (v := 1) hx hb dX4_lookAt_157 (by decide) ?_
                refine lv_iadd hx hb dX4_lookAt_158 ?_
                refine r_callV (Y := M_X4_lookAt) (v := none) X I w_1288 my_X4_lookAt (by omega) (hG_X4_lookAt h33).1 (hG_X4_lookAt h33).2 rfl rfl hl.1 rfl (Nat.le_of_ble_eq_true rfl) hn le34 dX4_lookAt_159 (fun H locs cells slots I hn1 hn2 => ?_)
                have I : s_I G q20.2 s H locs := I
                have hn : cells + σ0.2.1 ≤ q20.2.2.1 ∧ slots + σ0.2.2.1 ≤ q20.2.2.2.1 := ⟨hn1, hn2⟩
                exact r_vret X I rfl rfl hn dX4_lookAt_162
        · refine lv_icmp_eq (tgt := 30) hx hb dX4_lookAt_26 (by decide) (fun n => absurd n c7) (fun _ => ?_)
          cases hf
          have k : _ = r := k
          subst k
          exact r_vret X I rfl rfl hn dX4_lookAt_29
set_option maxRecDepth 100000 in
set_option maxHeartbeats 4000000 in
theorem v_X4_lookAt_87 (f_X4_lookAt : Nat → Int32 → Int32 → sS → Option (Unit × sS)) {G : sG} {d : Nat} (lG_X4_lookAt : ∀ {y0 : Nat} {y1 : Int32} {y2 : Int32} {σ : sS} {q : Unit × sS}, f_X4_lookAt y0 y1 y2 σ = some q → s_le σ q.2) (hG_X4_lookAt : ∀ {y0 : Nat} {y1 : Int32} {y2 : Int32} {σ : sS} {q : Unit × sS}, f_X4_lookAt y0 y1 y2 σ = some q → s_T G (d + 2) M_X4_lookAt [.ref y0, .int y1, .int y2] σ (e_V q) ∧ ∃ fs, σ.1 y0 = some (.inr (4, fs))) {vs0 : List Value} {σ0 : sS} {v0 : Nat} {v1 : Int32} {v2 : Int32} {σ : sS} {z : sZ Unit} {r : Unit × sS} (hf : T_X4_lookAt_87 f_X4_lookAt v0 v1 v2 σ = some z) (k : s_K G (d + 3) M_X4_lookAt vs0 σ0 Y_X4_lookAt e_V z r) : s_V G (d + 3) M_X4_lookAt vs0 σ0 Y_X4_lookAt (87, [.ref v0, .int v1, .int v2], σ) (e_V r) := by
  have le0 : s_le σ (e_V r).2 := s_lek hem_V (l_X4_lookAt_87 f_X4_lookAt lG_X4_lookAt hf) k
  refine ⟨le0, ?_⟩
  intro p e s m below meth c H locs cells slots ls X I hn1 hn2 hl
  have hn : cells + σ0.2.1 ≤ σ.2.1 ∧ slots + σ0.2.2.1 ≤ σ.2.2.1 := ⟨hn1, hn2⟩
  have hl : lv_has ls 5 [(0, .ref v0), (1, .int v1), (2, .int v2)] := hl
  have hx := X.1
  have hb : c.code = cX4_lookAt := X.2.1
  have hown : s.vm.findClass RX4 = some m.cls := X.2.2.2.2.2.1
  have hts := X.2.2.2.2.2.2.1
  refine W.eq (g2 := F0 m 87 ls []) rfl ?_
  unfold T_X4_lookAt_87 at hf
  cases hf
  have k : s_V G (d + 3) M_X4_lookAt vs0 σ0 Y_X4_lookAt (90, [.ref v0, .int v1, .int v2, .int 0], σ) (e_V r) := k
  refine lv_iconst (v := 0) hx hb dX4_lookAt_87 (by decide) ?_
  refine lv_istore (lv' := [(4, .int 0), (0, .ref v0), (1, .int v1), (2, .int v2)]) hx hb dX4_lookAt_88 hl (by decide) rfl (fun ls hl => ?_)
  exact k.2 p e s m below meth c _ _ _ _ _ X I hn.1 hn.2 (lv_sub hl [1, 2, 3, 0] rfl)
set_option maxRecDepth 100000 in
set_option maxHeartbeats 4000000 in
theorem v_X4_lookAt_90 (f_X4_lookAt : Nat → Int32 → Int32 → sS → Option (Unit × sS)) {G : sG} {d : Nat} (lG_X4_lookAt : ∀ {y0 : Nat} {y1 : Int32} {y2 : Int32} {σ : sS} {q : Unit × sS}, f_X4_lookAt y0 y1 y2 σ = some q → s_le σ q.2) (hG_X4_lookAt : ∀ {y0 : Nat} {y1 : Int32} {y2 : Int32} {σ : sS} {q : Unit × sS}, f_X4_lookAt y0 y1 y2 σ = some q → s_T G (d + 2) M_X4_lookAt [.ref y0, .int y1, .int y2] σ (e_V q) ∧ ∃ fs, σ.1 y0 = some (.inr (4, fs))) {vs0 : List Value} {σ0 : sS} {v0 : Nat} {v1 : Int32} {v2 : Int32} {v4 : Int32} {σ : sS} {z : sZ Unit} {r : Unit × sS} (hf : T_X4_lookAt_90 f_X4_lookAt v0 v1 v2 v4 σ = some z) (k : s_K G (d + 3) M_X4_lookAt vs0 σ0 Y_X4_lookAt e_V z r) : s_V G (d + 3) M_X4_lookAt vs0 σ0 Y_X4_lookAt (90, [.ref v0, .int v1, .int v2, .int v4], σ) (e_V r) := by
  have le0 : s_le σ (e_V r).2 := s_lek hem_V (l_X4_lookAt_90 f_X4_lookAt lG_X4_lookAt hf) k
  refine ⟨le0, ?_⟩
  intro p e s m below meth c H locs cells slots ls X I hn1 hn2 hl
  have hn : cells + σ0.2.1 ≤ σ.2.1 ∧ slots + σ0.2.2.1 ≤ σ.2.2.1 := ⟨hn1, hn2⟩
  have hl : lv_has ls 5 [(0, .ref v0), (1, .int v1), (2, .int v2), (4, .int v4)] := hl
  have hx := X.1
  have hb : c.code = cX4_lookAt := X.2.1
  have hown : s.vm.findClass RX4 = some m.cls := X.2.2.2.2.2.1
  have hts := X.2.2.2.2.2.2.1
  refine W.eq (g2 := F0 m 90 ls []) rfl ?_
  unfold T_X4_lookAt_90 at hf
  obtain ⟨x1, h1, hf⟩ := s_bind hf
  obtain ⟨x2, h2, hf⟩ := s_bind hf
  refine lv_iload hx hb dX4_lookAt_90 (lv_at hl 3 rfl) ?_
  refine lv_aload_n hx hb dX4_lookAt_92 rfl (lv_at hl 0 rfl) ?_
  refine r_gr X I fl_X4_34 h1 dX4_lookAt_93 ?_
  refine r_gi X I fl_X4_85 h2 dX4_lookAt_96 ?_
  rcases s_ite hf with ⟨c3, hf⟩ | ⟨c3, hf⟩
  · refine lv_icmp_ge (tgt := 125) hx hb dX4_lookAt_99 (by decide) (fun _ => ?_) (fun n => absurd c3 n)
    cases hf
    have k : _ = r := k
    subst k
    refine lv_goto (tgt := 162) hx hb dX4_lookAt_125 (by decide) ?_
    exact r_vret X I rfl rfl hn dX4_lookAt_162
  · refine lv_icmp_ge (tgt := 125) hx hb dX4_lookAt_99 (by decide) (fun n => absurd n c3) (fun _ => ?_)
    obtain ⟨x3, h4, hf⟩ := s_bind hf
    obtain ⟨q4, h5, hf⟩ := s_bind hf
    obtain ⟨q5, h6, hf⟩ := s_bind hf
    cases hf
    have k : s_V G (d + 3) M_X4_lookAt vs0 σ0 Y_X4_lookAt (90, [.ref v0, .int v1, .int v2, .int (v4 + 1)], q5.2) (e_V r) := k
    have le7 : s_le q5.2 (e_V r).2 := k.1
    have le8 := s_le.tr (lG_X4_lookAt h6) le7
    refine lv_aload_n hx hb dX4_lookAt_102 rfl (lv_at hl 0 rfl) ?_
    refine lv_aload_n hx hb dX4_lookAt_103 rfl (lv_at hl 0 rfl) ?_
    refine r_gr X I fl_X4_30 h4 dX4_lookAt_104 ?_
    refine lv_iload_n hx hb dX4_lookAt_107 rfl (lv_at hl 1 rfl) ?_
    refine lv_iload hx hb dX4_lookAt_108 (lv_at hl 3 rfl) ?_
    refine r_callV (Y := M_X2_placedOf) (v := some (.int q4.1)) X I w_1298 my_X2_placedOf (by omega) (t_X2_placedOf (G := G) (d := d + 1) h5) (b_X2_placedOf h5) rfl rfl hl.1 rfl (Nat.le_of_ble_eq_true rfl) hn le8 dX4_lookAt_110 (fun H locs cells slots I hn1 hn2 => ?_)
    have I : s_I G q4.2 s H locs := I
    have hn : cells + σ0.2.1 ≤ q4.2.2.1 ∧ slots + σ0.2.2.1 ≤ q4.2.2.2.1 := ⟨hn1, hn2⟩
    refine lv_iload_n hx hb dX4_lookAt_113 rfl (lv_at hl 2 rfl) ?_
    refine lv_iconst (v := 1) hx hb dX4_lookAt_114 (by decide) ?_
    refine lv_iadd hx hb dX4_lookAt_115 ?_
    refine r_callV (Y := M_X4_lookAt) (v := none) X I w_1288 my_X4_lookAt (by omega) (hG_X4_lookAt h6).1 (hG_X4_lookAt h6).2 rfl rfl hl.1 rfl (Nat.le_of_ble_eq_true rfl) hn le7 dX4_lookAt_116 (fun H locs cells slots I hn1 hn2 => ?_)
    have I : s_I G q5.2 s H locs := I
    have hn : cells + σ0.2.1 ≤ q5.2.2.1 ∧ slots + σ0.2.2.1 ≤ q5.2.2.2.1 := ⟨hn1, hn2⟩
    refine lv_iinc (v := (v4 + 1)) (lv' := [(4, .int (v4 + 1)), (0, .ref v0), (1, .int v1), (2, .int v2)]) hx hb dX4_lookAt_119 hl (k := 3) rfl rfl (by decide) rfl (fun ls hl => ?_)
    refine lv_goto (tgt := 90) hx hb dX4_lookAt_122 (by decide) ?_
    exact k.2 p e s m below meth c _ _ _ _ _ X I hn.1 hn.2 (lv_sub hl [1, 2, 3, 0] rfl)
theorem v_X4_lookAt (f_X4_lookAt : Nat → Int32 → Int32 → sS → Option (Unit × sS)) {G : sG} {d : Nat} (lG_X4_lookAt : ∀ {y0 : Nat} {y1 : Int32} {y2 : Int32} {σ : sS} {q : Unit × sS}, f_X4_lookAt y0 y1 y2 σ = some q → s_le σ q.2) (hG_X4_lookAt : ∀ {y0 : Nat} {y1 : Int32} {y2 : Int32} {σ : sS} {q : Unit × sS}, f_X4_lookAt y0 y1 y2 σ = some q → s_T G (d + 2) M_X4_lookAt [.ref y0, .int y1, .int y2] σ (e_V q) ∧ ∃ fs, σ.1 y0 = some (.inr (4, fs))) {vs0 : List Value} {σ0 : sS} {x : sL} {z : sZ Unit} {r : Unit × sS} (hs : S_X4_lookAt f_X4_lookAt x = some z) (k : s_K G (d + 3) M_X4_lookAt vs0 σ0 Y_X4_lookAt e_V z r) : s_V G (d + 3) M_X4_lookAt vs0 σ0 Y_X4_lookAt x (e_V r) := by
  obtain ⟨pc, vs, σ⟩ := x
  unfold S_X4_lookAt at hs
  dsimp only at hs
  rcases s_ite hs with ⟨c, hs⟩ | ⟨-, hs⟩
  · subst c
    unfold U_X4_lookAt_0 at hs
    obtain ⟨a0, g0, hs⟩ := s_bind hs
    obtain ⟨a1, g1, hs⟩ := s_bind hs
    obtain ⟨a2, g2, hs⟩ := s_bind hs
    obtain ⟨u9, ge, hs⟩ := s_bind hs
    rw [g_r_to g0, g_i_to g1, g_i_to g2, g_e_to ge]
    exact v_X4_lookAt_0 f_X4_lookAt lG_X4_lookAt hG_X4_lookAt hs k
  rcases s_ite hs with ⟨c, hs⟩ | ⟨-, hs⟩
  · subst c
    unfold U_X4_lookAt_87 at hs
    obtain ⟨a0, g0, hs⟩ := s_bind hs
    obtain ⟨a1, g1, hs⟩ := s_bind hs
    obtain ⟨a2, g2, hs⟩ := s_bind hs
    obtain ⟨u9, ge, hs⟩ := s_bind hs
    rw [g_r_to g0, g_i_to g1, g_i_to g2, g_e_to ge]
    exact v_X4_lookAt_87 f_X4_lookAt lG_X4_lookAt hG_X4_lookAt hs k
  rcases s_ite hs with ⟨c, hs⟩ | ⟨-, hs⟩
  · subst c
    unfold U_X4_lookAt_90 at hs
    obtain ⟨a0, g0, hs⟩ := s_bind hs
    obtain ⟨a1, g1, hs⟩ := s_bind hs
    obtain ⟨a2, g2, hs⟩ := s_bind hs
    obtain ⟨a3, g3, hs⟩ := s_bind hs
    obtain ⟨u9, ge, hs⟩ := s_bind hs
    rw [g_r_to g0, g_i_to g1, g_i_to g2, g_i_to g3, g_e_to ge]
    exact v_X4_lookAt_90 f_X4_lookAt lG_X4_lookAt hG_X4_lookAt hs k
  cases hs
theorem lq_X4_lookAt : ∀ k : Nat, (∀ {y0 : Nat} {y1 : Int32} {y2 : Int32} {σ : sS} {q : Unit × sS}, F_X4_lookAt k y0 y1 y2 σ = some q → s_le σ q.2) := by
  intro k
  induction k with
  | zero => exact fun h => by cases h
  | succ k ih =>
    refine ?_
    · intro y0 y1 y2 σ q h
      have h : ((s_is σ y0 4).bind fun _ => s_run (S_X4_lookAt (F_X4_lookAt k)) (0, [.ref y0, .int y1, .int y2], σ)) = some q := h
      obtain ⟨-, -, h⟩ := s_bind h
      exact s_run_ind (V := fun x r => s_le x.2.2 r.2) (fun x z r hs hk => by
        have h9 := l_X4_lookAt_s (F_X4_lookAt k) ih hs
        cases z with
        | inl y => exact s_le.tr h9 hk
        | inr q => cases hk; exact h9) h
theorem tq_X4_lookAt {G : sG} {d : Nat} : ∀ k : Nat, (∀ {y0 : Nat} {y1 : Int32} {y2 : Int32} {σ : sS} {q : Unit × sS}, F_X4_lookAt k y0 y1 y2 σ = some q → s_T G (d + k + 2) M_X4_lookAt [.ref y0, .int y1, .int y2] σ (e_V q) ∧ ∃ fs, σ.1 y0 = some (.inr (4, fs))) := by
  intro k
  induction k with
  | zero => exact fun h => by cases h
  | succ k ih =>
    refine ?_
    · intro y0 y1 y2 σ q h
      have h : ((s_is σ y0 4).bind fun _ => s_run (S_X4_lookAt (F_X4_lookAt k)) (0, [.ref y0, .int y1, .int y2], σ)) = some q := h
      obtain ⟨u, hu, h⟩ := s_bind h
      refine ⟨?_, s_is_to hu⟩
      exact s_ofV (d := (d + k) + 3) rfl (by decide) (Nat.le_of_ble_eq_true rfl) rfl rfl (s_run_ind (V := fun x r => s_V G ((d + k) + 3) M_X4_lookAt [.ref y0, .int y1, .int y2] σ Y_X4_lookAt x (e_V r)) (fun x z r hs hk => v_X4_lookAt (F_X4_lookAt k) (lq_X4_lookAt k) ih hs (by cases z <;> exact hk)) h)
theorem l_X4_lookAt {k : Nat} {v0 : Nat} {v1 : Int32} {v2 : Int32} {σ : sS} {q : Unit × sS} (h : F_X4_lookAt k v0 v1 v2 σ = some q) : s_le σ q.2 := (lq_X4_lookAt k) h
theorem t_X4_lookAt {G : sG} {d : Nat} {v0 : Nat} {v1 : Int32} {v2 : Int32} {σ : sS} {q : Unit × sS} (h : F_X4_lookAt 64 v0 v1 v2 σ = some q) : s_T G (d + 66) M_X4_lookAt [.ref v0, .int v1, .int v2] σ (e_V q) := ((tq_X4_lookAt (G := G) (d := d) 64) h).1
theorem b_X4_lookAt {v0 : Nat} {v1 : Int32} {v2 : Int32} {σ : sS} {q : Unit × sS} (h : F_X4_lookAt 64 v0 v1 v2 σ = some q) : ∃ fs, σ.1 v0 = some (.inr (4, fs)) := by
  have h : ((s_is σ v0 4).bind fun _ => s_run (S_X4_lookAt (F_X4_lookAt 63)) (0, [.ref v0, .int v1, .int v2], σ)) = some q := h
  obtain ⟨u, hu, -⟩ := s_bind h
  exact s_is_to hu
/-! X4_slotOf -/
noncomputable def T_X4_slotOf_0 (v0 : Nat) (v1 : Int32) (σ : sS) : Option (sZ Int32) :=
  some (.inl (2, [.ref v0, .int v1, .int 0], σ))
noncomputable def U_X4_slotOf_0 (vs : List Value) (σ : sS) : Option (sZ Int32) := (g_r vs).bind fun a0 => (g_i a0.2).bind fun a1 => (g_e a1.2).bind fun _ => T_X4_slotOf_0 a0.1 a1.1 σ
noncomputable def T_X4_slotOf_2 (v0 : Nat) (v1 : Int32) (v2 : Int32) (σ : sS) : Option (sZ Int32) :=
  (s_fi σ v0 4 9).bind fun x1 =>
  if x1 ≤ v2 then (some (.inr ((-1), σ)))
  else ((s_fr σ v0 4 5).bind fun x2 =>
  (s_ai σ x2 v2).bind fun x3 =>
  if x3 = v1 then (some (.inr (v2, σ)))
  else (some (.inl (2, [.ref v0, .int v1, .int (v2 + 1)], σ))))
noncomputable def U_X4_slotOf_2 (vs : List Value) (σ : sS) : Option (sZ Int32) := (g_r vs).bind fun a0 => (g_i a0.2).bind fun a1 => (g_i a1.2).bind fun a2 => (g_e a2.2).bind fun _ => T_X4_slotOf_2 a0.1 a1.1 a2.1 σ
noncomputable def S_X4_slotOf (x : sL) : Option (sZ Int32) := if x.1 = 0 then U_X4_slotOf_0 x.2.1 x.2.2 else if x.1 = 2 then U_X4_slotOf_2 x.2.1 x.2.2 else none
def Y_X4_slotOf (pc : Nat) : List Nat := if pc = 0 then [0, 1] else if pc = 2 then [0, 1, 2] else []
noncomputable def F_X4_slotOf (v0 : Nat) (v1 : Int32) (σ : sS) : Option (Int32 × sS) := (s_is σ v0 4).bind fun _ => s_run S_X4_slotOf (0, [.ref v0, .int v1], σ)
theorem l_X4_slotOf_0 {v0 : Nat} {v1 : Int32} {σ : sS} {z : sZ Int32} (hf : T_X4_slotOf_0 v0 v1 σ = some z) : s_lz σ z := by
  unfold T_X4_slotOf_0 at hf
  cases hf
  exact s_le.rf
theorem l_X4_slotOf_2 {v0 : Nat} {v1 : Int32} {v2 : Int32} {σ : sS} {z : sZ Int32} (hf : T_X4_slotOf_2 v0 v1 v2 σ = some z) : s_lz σ z := by
  unfold T_X4_slotOf_2 at hf
  obtain ⟨x1, -, hf⟩ := s_bind hf
  rcases s_ite hf with ⟨-, hf⟩ | ⟨-, hf⟩
  · cases hf
    exact s_le.rf
  · obtain ⟨x2, -, hf⟩ := s_bind hf
    obtain ⟨x3, -, hf⟩ := s_bind hf
    rcases s_ite hf with ⟨-, hf⟩ | ⟨-, hf⟩
    · cases hf
      exact s_le.rf
    · cases hf
      exact s_le.rf
theorem l_X4_slotOf_s {x : sL} {z : sZ Int32} (hs : S_X4_slotOf x = some z) : s_lz x.2.2 z := by
  obtain ⟨pc, vs, σ⟩ := x
  unfold S_X4_slotOf at hs
  dsimp only at hs ⊢
  rcases s_ite hs with ⟨c, hs⟩ | ⟨-, hs⟩
  · subst c
    unfold U_X4_slotOf_0 at hs
    obtain ⟨a0, g0, hs⟩ := s_bind hs
    obtain ⟨a1, g1, hs⟩ := s_bind hs
    obtain ⟨u9, ge, hs⟩ := s_bind hs
    exact l_X4_slotOf_0 hs
  rcases s_ite hs with ⟨c, hs⟩ | ⟨-, hs⟩
  · subst c
    unfold U_X4_slotOf_2 at hs
    obtain ⟨a0, g0, hs⟩ := s_bind hs
    obtain ⟨a1, g1, hs⟩ := s_bind hs
    obtain ⟨a2, g2, hs⟩ := s_bind hs
    obtain ⟨u9, ge, hs⟩ := s_bind hs
    exact l_X4_slotOf_2 hs
  cases hs
theorem l_X4_slotOf {v0 : Nat} {v1 : Int32} {σ : sS} {q : Int32 × sS} (h : F_X4_slotOf v0 v1 σ = some q) : s_le σ q.2 := by
  unfold F_X4_slotOf at h
  obtain ⟨-, -, h⟩ := s_bind h
  exact s_run_ind (V := fun x r => s_le x.2.2 r.2) (fun x z r hs hk => by
    have h9 := l_X4_slotOf_s hs
    cases z with
    | inl y => exact s_le.tr h9 hk
    | inr q => cases hk; exact h9) h
theorem b_X4_slotOf {v0 : Nat} {v1 : Int32} {σ : sS} {q : Int32 × sS} (h : F_X4_slotOf v0 v1 σ = some q) : ∃ fs, σ.1 v0 = some (.inr (4, fs)) := by
  unfold F_X4_slotOf at h
  obtain ⟨u, hu, -⟩ := s_bind h
  exact s_is_to hu
set_option maxRecDepth 100000 in
set_option maxHeartbeats 4000000 in
theorem v_X4_slotOf_0 {G : sG} {d : Nat} {vs0 : List Value} {σ0 : sS} {v0 : Nat} {v1 : Int32} {σ : sS} {z : sZ Int32} {r : Int32 × sS} (hf : T_X4_slotOf_0 v0 v1 σ = some z) (k : s_K G (d + 1) M_X4_slotOf vs0 σ0 Y_X4_slotOf e_I z r) : s_V G (d + 1) M_X4_slotOf vs0 σ0 Y_X4_slotOf (0, [.ref v0, .int v1], σ) (e_I r) := by
  have le0 : s_le σ (e_I r).2 := s_lek hem_I (l_X4_slotOf_0 hf) k
  refine ⟨le0, ?_⟩
  intro p e s m below meth c H locs cells slots ls X I hn1 hn2 hl
  have hn : cells + σ0.2.1 ≤ σ.2.1 ∧ slots + σ0.2.2.1 ≤ σ.2.2.1 := ⟨hn1, hn2⟩
  have hl : lv_has ls 3 [(0, .ref v0), (1, .int v1)] := hl
  have hx := X.1
  have hb : c.code = cX4_slotOf := X.2.1
  have hown : s.vm.findClass RX4 = some m.cls := X.2.2.2.2.2.1
  have hts := X.2.2.2.2.2.2.1
  refine W.eq (g2 := F0 m 0 ls []) rfl ?_
  unfold T_X4_slotOf_0 at hf
  cases hf
  have k : s_V G (d + 1) M_X4_slotOf vs0 σ0 Y_X4_slotOf (2, [.ref v0, .int v1, .int 0], σ) (e_I r) := k
  refine lv_iconst (v := 0) hx hb dX4_slotOf_0 (by decide) ?_
  refine lv_istore_n (lv' := [(2, .int 0), (0, .ref v0), (1, .int v1)]) hx hb dX4_slotOf_1 rfl hl (by decide) rfl (fun ls hl => ?_)
  exact k.2 p e s m below meth c _ _ _ _ _ X I hn.1 hn.2 (lv_sub hl [1, 2, 0] rfl)
set_option maxRecDepth 100000 in
set_option maxHeartbeats 4000000 in
theorem v_X4_slotOf_2 {G : sG} {d : Nat} {vs0 : List Value} {σ0 : sS} {v0 : Nat} {v1 : Int32} {v2 : Int32} {σ : sS} {z : sZ Int32} {r : Int32 × sS} (hf : T_X4_slotOf_2 v0 v1 v2 σ = some z) (k : s_K G (d + 1) M_X4_slotOf vs0 σ0 Y_X4_slotOf e_I z r) : s_V G (d + 1) M_X4_slotOf vs0 σ0 Y_X4_slotOf (2, [.ref v0, .int v1, .int v2], σ) (e_I r) := by
  have le0 : s_le σ (e_I r).2 := s_lek hem_I (l_X4_slotOf_2 hf) k
  refine ⟨le0, ?_⟩
  intro p e s m below meth c H locs cells slots ls X I hn1 hn2 hl
  have hn : cells + σ0.2.1 ≤ σ.2.1 ∧ slots + σ0.2.2.1 ≤ σ.2.2.1 := ⟨hn1, hn2⟩
  have hl : lv_has ls 3 [(0, .ref v0), (1, .int v1), (2, .int v2)] := hl
  have hx := X.1
  have hb : c.code = cX4_slotOf := X.2.1
  have hown : s.vm.findClass RX4 = some m.cls := X.2.2.2.2.2.1
  have hts := X.2.2.2.2.2.2.1
  refine W.eq (g2 := F0 m 2 ls []) rfl ?_
  unfold T_X4_slotOf_2 at hf
  obtain ⟨x1, h1, hf⟩ := s_bind hf
  refine lv_iload_n hx hb dX4_slotOf_2 rfl (lv_at hl 2 rfl) ?_
  refine lv_aload_n hx hb dX4_slotOf_3 rfl (lv_at hl 0 rfl) ?_
  refine r_gi X I fl_X4_51 h1 dX4_slotOf_4 ?_
  rcases s_ite hf with ⟨c2, hf⟩ | ⟨c2, hf⟩
  · refine lv_icmp_ge (tgt := 28) hx hb dX4_slotOf_7 (by decide) (fun _ => ?_) (fun n => absurd c2 n)
    cases hf
    have k : _ = r := k
    subst k
    refine lv_iconst (v := (-1)) hx hb dX4_slotOf_28 (by decide) ?_
    exact r_iret X I rfl rfl rfl hn dX4_slotOf_29
  · refine lv_icmp_ge (tgt := 28) hx hb dX4_slotOf_7 (by decide) (fun n => absurd n c2) (fun _ => ?_)
    obtain ⟨x2, h3, hf⟩ := s_bind hf
    obtain ⟨x3, h4, hf⟩ := s_bind hf
    refine lv_aload_n hx hb dX4_slotOf_10 rfl (lv_at hl 0 rfl) ?_
    refine r_gr X I fl_X4_21 h3 dX4_slotOf_11 ?_
    refine lv_iload_n hx hb dX4_slotOf_14 rfl (lv_at hl 2 rfl) ?_
    refine r_iald X I h4 dX4_slotOf_15 ?_
    refine lv_iload_n hx hb dX4_slotOf_16 rfl (lv_at hl 1 rfl) ?_
    rcases s_ite hf with ⟨c5, hf⟩ | ⟨c5, hf⟩
    · refine lv_icmp_ne (tgt := 22) hx hb dX4_slotOf_17 (by decide) (fun n => absurd c5 n) (fun _ => ?_)
      cases hf
      have k : _ = r := k
      subst k
      refine lv_iload_n hx hb dX4_slotOf_20 rfl (lv_at hl 2 rfl) ?_
      exact r_iret X I rfl rfl rfl hn dX4_slotOf_21
    · refine lv_icmp_ne (tgt := 22) hx hb dX4_slotOf_17 (by decide) (fun _ => ?_) (fun n => absurd n c5)
      cases hf
      have k : s_V G (d + 1) M_X4_slotOf vs0 σ0 Y_X4_slotOf (2, [.ref v0, .int v1, .int (v2 + 1)], σ) (e_I r) := k
      refine lv_iinc (v := (v2 + 1)) (lv' := [(2, .int (v2 + 1)), (0, .ref v0), (1, .int v1)]) hx hb dX4_slotOf_22 hl (k := 2) rfl rfl (by decide) rfl (fun ls hl => ?_)
      refine lv_goto (tgt := 2) hx hb dX4_slotOf_25 (by decide) ?_
      exact k.2 p e s m below meth c _ _ _ _ _ X I hn.1 hn.2 (lv_sub hl [1, 2, 0] rfl)
theorem v_X4_slotOf {G : sG} {d : Nat} {vs0 : List Value} {σ0 : sS} {x : sL} {z : sZ Int32} {r : Int32 × sS} (hs : S_X4_slotOf x = some z) (k : s_K G (d + 1) M_X4_slotOf vs0 σ0 Y_X4_slotOf e_I z r) : s_V G (d + 1) M_X4_slotOf vs0 σ0 Y_X4_slotOf x (e_I r) := by
  obtain ⟨pc, vs, σ⟩ := x
  unfold S_X4_slotOf at hs
  dsimp only at hs
  rcases s_ite hs with ⟨c, hs⟩ | ⟨-, hs⟩
  · subst c
    unfold U_X4_slotOf_0 at hs
    obtain ⟨a0, g0, hs⟩ := s_bind hs
    obtain ⟨a1, g1, hs⟩ := s_bind hs
    obtain ⟨u9, ge, hs⟩ := s_bind hs
    rw [g_r_to g0, g_i_to g1, g_e_to ge]
    exact v_X4_slotOf_0 hs k
  rcases s_ite hs with ⟨c, hs⟩ | ⟨-, hs⟩
  · subst c
    unfold U_X4_slotOf_2 at hs
    obtain ⟨a0, g0, hs⟩ := s_bind hs
    obtain ⟨a1, g1, hs⟩ := s_bind hs
    obtain ⟨a2, g2, hs⟩ := s_bind hs
    obtain ⟨u9, ge, hs⟩ := s_bind hs
    rw [g_r_to g0, g_i_to g1, g_i_to g2, g_e_to ge]
    exact v_X4_slotOf_2 hs k
  cases hs
theorem t_X4_slotOf {G : sG} {d : Nat} {v0 : Nat} {v1 : Int32} {σ : sS} {q : Int32 × sS} (h : F_X4_slotOf v0 v1 σ = some q) : s_T G (d + 1) M_X4_slotOf [.ref v0, .int v1] σ (e_I q) := by
  unfold F_X4_slotOf at h
  obtain ⟨-, -, h⟩ := s_bind h
  exact s_ofV rfl (by decide) (Nat.le_of_ble_eq_true rfl) rfl rfl (s_run_ind (V := fun x r => s_V G (d + 1) M_X4_slotOf [.ref v0, .int v1] σ Y_X4_slotOf x (e_I r)) (fun x z r hs hk => v_X4_slotOf hs (by cases z <;> exact hk)) h)
/-! X4_listAssumed -/
noncomputable def T_X4_listAssumed_0 (v0 : Nat) (v1 : Int32) (σ : sS) : Option (sZ Unit) :=
  (s_fr σ v0 4 0).bind fun x1 =>
  (F_X2_kindOf x1 v1 σ).bind fun q2 =>
  if q2.1 = 4 then ((s_fi q2.2 v0 4 9).bind fun x3 =>
  if x3 < 3 then ((s_fr q2.2 v0 4 0).bind fun x4 =>
  (F_X2_firstOf x4 v1 q2.2).bind fun q5 =>
  (F_X4_placeOf v0 q5.1 q5.2).bind fun q6 =>
  if q6.1 = (-1) then (some (.inr ((), q6.2)))
  else ((F_X4_slotOf v0 q6.1 q6.2).bind fun q7 =>
  if q7.1 = (-1) then ((s_fr q7.2 v0 4 5).bind fun x8 =>
  (s_fi q7.2 v0 4 9).bind fun x9 =>
  (s_si q7.2 x8 x9 q6.1).bind fun σ10 =>
  (s_fi σ10 v0 4 9).bind fun x11 =>
  (s_pf σ10 v0 4 9 (.int (x11 + 1))).bind fun σ12 =>
  some (.inr ((), σ12)))
  else (some (.inr ((), q7.2)))))
  else (some (.inr ((), q2.2))))
  else (some (.inr ((), q2.2)))
noncomputable def U_X4_listAssumed_0 (vs : List Value) (σ : sS) : Option (sZ Unit) := (g_r vs).bind fun a0 => (g_i a0.2).bind fun a1 => (g_e a1.2).bind fun _ => T_X4_listAssumed_0 a0.1 a1.1 σ
noncomputable def S_X4_listAssumed (x : sL) : Option (sZ Unit) := if x.1 = 0 then U_X4_listAssumed_0 x.2.1 x.2.2 else none
def Y_X4_listAssumed (pc : Nat) : List Nat := if pc = 0 then [0, 1] else []
noncomputable def F_X4_listAssumed (v0 : Nat) (v1 : Int32) (σ : sS) : Option (Unit × sS) := (s_is σ v0 4).bind fun _ => s_run S_X4_listAssumed (0, [.ref v0, .int v1], σ)
theorem l_X4_listAssumed_0 {v0 : Nat} {v1 : Int32} {σ : sS} {z : sZ Unit} (hf : T_X4_listAssumed_0 v0 v1 σ = some z) : s_lz σ z := by
  unfold T_X4_listAssumed_0 at hf
  obtain ⟨x1, -, hf⟩ := s_bind hf
  obtain ⟨q2, hh, hf⟩ := s_bind hf
  refine s_lz.tr (l_X2_kindOf hh) ?_
  rcases s_ite hf with ⟨-, hf⟩ | ⟨-, hf⟩
  · obtain ⟨x3, -, hf⟩ := s_bind hf
    rcases s_ite hf with ⟨-, hf⟩ | ⟨-, hf⟩
    · obtain ⟨x4, -, hf⟩ := s_bind hf
      obtain ⟨q5, hh, hf⟩ := s_bind hf
      refine s_lz.tr (l_X2_firstOf hh) ?_
      obtain ⟨q6, hh, hf⟩ := s_bind hf
      refine s_lz.tr (l_X4_placeOf hh) ?_
      rcases s_ite hf with ⟨-, hf⟩ | ⟨-, hf⟩
      · cases hf
        exact s_le.rf
      · obtain ⟨q7, hh, hf⟩ := s_bind hf
        refine s_lz.tr (l_X4_slotOf hh) ?_
        rcases s_ite hf with ⟨-, hf⟩ | ⟨-, hf⟩
        · obtain ⟨x8, -, hf⟩ := s_bind hf
          obtain ⟨x9, -, hf⟩ := s_bind hf
          obtain ⟨σ10, hh, hf⟩ := s_bind hf
          refine s_lz.tr (s_le2 (s_si_2 hh)) ?_
          obtain ⟨x11, -, hf⟩ := s_bind hf
          obtain ⟨σ12, hh, hf⟩ := s_bind hf
          refine s_lz.tr (s_le2 (s_pf_2 hh)) ?_
          cases hf
          exact s_le.rf
        · cases hf
          exact s_le.rf
    · cases hf
      exact s_le.rf
  · cases hf
    exact s_le.rf
theorem l_X4_listAssumed_s {x : sL} {z : sZ Unit} (hs : S_X4_listAssumed x = some z) : s_lz x.2.2 z := by
  obtain ⟨pc, vs, σ⟩ := x
  unfold S_X4_listAssumed at hs
  dsimp only at hs ⊢
  rcases s_ite hs with ⟨c, hs⟩ | ⟨-, hs⟩
  · subst c
    unfold U_X4_listAssumed_0 at hs
    obtain ⟨a0, g0, hs⟩ := s_bind hs
    obtain ⟨a1, g1, hs⟩ := s_bind hs
    obtain ⟨u9, ge, hs⟩ := s_bind hs
    exact l_X4_listAssumed_0 hs
  cases hs
theorem l_X4_listAssumed {v0 : Nat} {v1 : Int32} {σ : sS} {q : Unit × sS} (h : F_X4_listAssumed v0 v1 σ = some q) : s_le σ q.2 := by
  unfold F_X4_listAssumed at h
  obtain ⟨-, -, h⟩ := s_bind h
  exact s_run_ind (V := fun x r => s_le x.2.2 r.2) (fun x z r hs hk => by
    have h9 := l_X4_listAssumed_s hs
    cases z with
    | inl y => exact s_le.tr h9 hk
    | inr q => cases hk; exact h9) h
theorem b_X4_listAssumed {v0 : Nat} {v1 : Int32} {σ : sS} {q : Unit × sS} (h : F_X4_listAssumed v0 v1 σ = some q) : ∃ fs, σ.1 v0 = some (.inr (4, fs)) := by
  unfold F_X4_listAssumed at h
  obtain ⟨u, hu, -⟩ := s_bind h
  exact s_is_to hu
set_option maxRecDepth 100000 in
set_option maxHeartbeats 4000000 in
theorem v_X4_listAssumed_0 {G : sG} {d : Nat} {vs0 : List Value} {σ0 : sS} {v0 : Nat} {v1 : Int32} {σ : sS} {z : sZ Unit} {r : Unit × sS} (hf : T_X4_listAssumed_0 v0 v1 σ = some z) (k : s_K G (d + 2) M_X4_listAssumed vs0 σ0 Y_X4_listAssumed e_V z r) : s_V G (d + 2) M_X4_listAssumed vs0 σ0 Y_X4_listAssumed (0, [.ref v0, .int v1], σ) (e_V r) := by
  have le0 : s_le σ (e_V r).2 := s_lek hem_V (l_X4_listAssumed_0 hf) k
  refine ⟨le0, ?_⟩
  intro p e s m below meth c H locs cells slots ls X I hn1 hn2 hl
  have hn : cells + σ0.2.1 ≤ σ.2.1 ∧ slots + σ0.2.2.1 ≤ σ.2.2.1 := ⟨hn1, hn2⟩
  have hl : lv_has ls 3 [(0, .ref v0), (1, .int v1)] := hl
  have hx := X.1
  have hb : c.code = cX4_listAssumed := X.2.1
  have hown : s.vm.findClass RX4 = some m.cls := X.2.2.2.2.2.1
  have hts := X.2.2.2.2.2.2.1
  refine W.eq (g2 := F0 m 0 ls []) rfl ?_
  unfold T_X4_listAssumed_0 at hf
  obtain ⟨x1, h1, hf⟩ := s_bind hf
  obtain ⟨q2, h2, hf⟩ := s_bind hf
  have le3 : s_le q2.2 (e_V r).2 := by
    refine s_lek hem_V ?_ k
    rcases s_ite hf with ⟨-, hf⟩ | ⟨-, hf⟩
    · obtain ⟨x3, -, hf⟩ := s_bind hf
      rcases s_ite hf with ⟨-, hf⟩ | ⟨-, hf⟩
      · obtain ⟨x4, -, hf⟩ := s_bind hf
        obtain ⟨q5, hh, hf⟩ := s_bind hf
        refine s_lz.tr (l_X2_firstOf hh) ?_
        obtain ⟨q6, hh, hf⟩ := s_bind hf
        refine s_lz.tr (l_X4_placeOf hh) ?_
        rcases s_ite hf with ⟨-, hf⟩ | ⟨-, hf⟩
        · cases hf
          exact s_le.rf
        · obtain ⟨q7, hh, hf⟩ := s_bind hf
          refine s_lz.tr (l_X4_slotOf hh) ?_
          rcases s_ite hf with ⟨-, hf⟩ | ⟨-, hf⟩
          · obtain ⟨x8, -, hf⟩ := s_bind hf
            obtain ⟨x9, -, hf⟩ := s_bind hf
            obtain ⟨σ10, hh, hf⟩ := s_bind hf
            refine s_lz.tr (s_le2 (s_si_2 hh)) ?_
            obtain ⟨x11, -, hf⟩ := s_bind hf
            obtain ⟨σ12, hh, hf⟩ := s_bind hf
            refine s_lz.tr (s_le2 (s_pf_2 hh)) ?_
            cases hf
            exact s_le.rf
          · cases hf
            exact s_le.rf
      · cases hf
        exact s_le.rf
    · cases hf
      exact s_le.rf
  refine lv_aload_n hx hb dX4_listAssumed_0 rfl (lv_at hl 0 rfl) ?_
  refine r_gr X I fl_X4_30 h1 dX4_listAssumed_1 ?_
  refine lv_iload_n hx hb dX4_listAssumed_4 rfl (lv_at hl 1 rfl) ?_
  refine r_callV (Y := M_X2_kindOf) (v := some (.int q2.1)) X I w_1297 my_X2_kindOf (by omega) (t_X2_kindOf (G := G) (d := d + 0) h2) (b_X2_kindOf h2) rfl rfl hl.1 rfl (Nat.le_of_ble_eq_true rfl) hn le3 dX4_listAssumed_5 (fun H locs cells slots I hn1 hn2 => ?_)
  have I : s_I G q2.2 s H locs := I
  have hn : cells + σ0.2.1 ≤ q2.2.2.1 ∧ slots + σ0.2.2.1 ≤ q2.2.2.2.1 := ⟨hn1, hn2⟩
  refine lv_iconst (v := 4) hx hb dX4_listAssumed_8 (by decide) ?_
  rcases s_ite hf with ⟨c4, hf⟩ | ⟨c4, hf⟩
  · refine lv_icmp_ne (tgt := 20) hx hb dX4_listAssumed_9 (by decide) (fun n => absurd c4 n) (fun _ => ?_)
    obtain ⟨x3, h5, hf⟩ := s_bind hf
    refine lv_aload_n hx hb dX4_listAssumed_12 rfl (lv_at hl 0 rfl) ?_
    refine r_gi X I fl_X4_51 h5 dX4_listAssumed_13 ?_
    refine lv_iconst (v := 3) hx hb dX4_listAssumed_16 (by decide) ?_
    rcases s_ite hf with ⟨c6, hf⟩ | ⟨c6, hf⟩
    · refine lv_icmp_lt (tgt := 21) hx hb dX4_listAssumed_17 (by decide) (fun _ => ?_) (fun n => absurd c6 n)
      obtain ⟨x4, h7, hf⟩ := s_bind hf
      obtain ⟨q5, h8, hf⟩ := s_bind hf
      obtain ⟨q6, h9, hf⟩ := s_bind hf
      have le10 : s_le q6.2 (e_V r).2 := by
        refine s_lek hem_V ?_ k
        rcases s_ite hf with ⟨-, hf⟩ | ⟨-, hf⟩
        · cases hf
          exact s_le.rf
        · obtain ⟨q7, hh, hf⟩ := s_bind hf
          refine s_lz.tr (l_X4_slotOf hh) ?_
          rcases s_ite hf with ⟨-, hf⟩ | ⟨-, hf⟩
          · obtain ⟨x8, -, hf⟩ := s_bind hf
            obtain ⟨x9, -, hf⟩ := s_bind hf
            obtain ⟨σ10, hh, hf⟩ := s_bind hf
            refine s_lz.tr (s_le2 (s_si_2 hh)) ?_
            obtain ⟨x11, -, hf⟩ := s_bind hf
            obtain ⟨σ12, hh, hf⟩ := s_bind hf
            refine s_lz.tr (s_le2 (s_pf_2 hh)) ?_
            cases hf
            exact s_le.rf
          · cases hf
            exact s_le.rf
      have le11 := s_le.tr (l_X4_placeOf h9) le10
      refine lv_aload_n hx hb dX4_listAssumed_21 rfl (lv_at hl 0 rfl) ?_
      refine lv_aload_n hx hb dX4_listAssumed_22 rfl (lv_at hl 0 rfl) ?_
      refine r_gr X I fl_X4_30 h7 dX4_listAssumed_23 ?_
      refine lv_iload_n hx hb dX4_listAssumed_26 rfl (lv_at hl 1 rfl) ?_
      refine r_callV (Y := M_X2_firstOf) (v := some (.int q5.1)) X I w_1299 my_X2_firstOf (by omega) (t_X2_firstOf (G := G) (d := d + 0) h8) (b_X2_firstOf h8) rfl rfl hl.1 rfl (Nat.le_of_ble_eq_true rfl) hn le11 dX4_listAssumed_27 (fun H locs cells slots I hn1 hn2 => ?_)
      have I : s_I G q5.2 s H locs := I
      have hn : cells + σ0.2.1 ≤ q5.2.2.1 ∧ slots + σ0.2.2.1 ≤ q5.2.2.2.1 := ⟨hn1, hn2⟩
      refine r_callV (Y := M_X4_placeOf) (v := some (.int q6.1)) X I w_1292 my_X4_placeOf (by omega) (t_X4_placeOf (G := G) (d := d + 0) h9) (b_X4_placeOf h9) rfl rfl hl.1 rfl (Nat.le_of_ble_eq_true rfl) hn le10 dX4_listAssumed_30 (fun H locs cells slots I hn1 hn2 => ?_)
      have I : s_I G q6.2 s H locs := I
      have hn : cells + σ0.2.1 ≤ q6.2.2.1 ∧ slots + σ0.2.2.1 ≤ q6.2.2.2.1 := ⟨hn1, hn2⟩
      refine lv_istore_n (lv' := [(2, .int q6.1), (0, .ref v0), (1, .int v1)]) hx hb dX4_listAssumed_33 rfl hl (by decide) rfl (fun ls hl => ?_)
      refine lv_iload_n hx hb dX4_listAssumed_34 rfl (lv_at hl 0 rfl) ?_
      refine lv_iconst (v := (-1)) hx hb dX4_listAssumed_35 (by decide) ?_
      rcases s_ite hf with ⟨c12, hf⟩ | ⟨c12, hf⟩
      · refine lv_icmp_eq (tgt := 68) hx hb dX4_listAssumed_36 (by decide) (fun _ => ?_) (fun n => absurd c12 n)
        cases hf
        have k : _ = r := k
        subst k
        exact r_vret X I rfl rfl hn dX4_listAssumed_68
      · refine lv_icmp_eq (tgt := 68) hx hb dX4_listAssumed_36 (by decide) (fun n => absurd n c12) (fun _ => ?_)
        obtain ⟨q7, h13, hf⟩ := s_bind hf
        have le14 : s_le q7.2 (e_V r).2 := by
          refine s_lek hem_V ?_ k
          rcases s_ite hf with ⟨-, hf⟩ | ⟨-, hf⟩
          · obtain ⟨x8, -, hf⟩ := s_bind hf
            obtain ⟨x9, -, hf⟩ := s_bind hf
            obtain ⟨σ10, hh, hf⟩ := s_bind hf
            refine s_lz.tr (s_le2 (s_si_2 hh)) ?_
            obtain ⟨x11, -, hf⟩ := s_bind hf
            obtain ⟨σ12, hh, hf⟩ := s_bind hf
            refine s_lz.tr (s_le2 (s_pf_2 hh)) ?_
            cases hf
            exact s_le.rf
          · cases hf
            exact s_le.rf
        refine lv_aload_n hx hb dX4_listAssumed_39 rfl (lv_at hl 1 rfl) ?_
        refine lv_iload_n hx hb dX4_listAssumed_40 rfl (lv_at hl 0 rfl) ?_
        refine r_callV (Y := M_X4_slotOf) (v := some (.int q7.1)) X I w_1306 my_X4_slotOf (by omega) (t_X4_slotOf (G := G) (d := d + 0) h13) (b_X4_slotOf h13) rfl rfl hl.1 rfl (Nat.le_of_ble_eq_true rfl) hn le14 dX4_listAssumed_41 (fun H locs cells slots I hn1 hn2 => ?_)
        have I : s_I G q7.2 s H locs := I
        have hn : cells + σ0.2.1 ≤ q7.2.2.1 ∧ slots + σ0.2.2.1 ≤ q7.2.2.2.1 := ⟨hn1, hn2⟩
        refine lv_iconst (v := (-1)) hx hb dX4_listAssumed_44 (by decide) ?_
        rcases s_ite hf with ⟨c15, hf⟩ | ⟨c15, hf⟩
        · refine lv_icmp_ne (tgt := 68) hx hb dX4_listAssumed_45 (by decide) (fun n => absurd c15 n) (fun _ => ?_)
          obtain ⟨x8, h16, hf⟩ := s_bind hf
          obtain ⟨x9, h17, hf⟩ := s_bind hf
          obtain ⟨σ10, h18, hf⟩ := s_bind hf
          obtain ⟨x11, h19, hf⟩ := s_bind hf
          obtain ⟨σ12, h20, hf⟩ := s_bind hf
          cases hf
          have k : _ = r := k
          subst k
          have le21 : s_le σ12 σ12 := s_le.rf
          have le22 := s_le.tr (s_le2 (s_pf_2 h20)) le21
          refine lv_aload_n hx hb dX4_listAssumed_48 rfl (lv_at hl 1 rfl) ?_
          refine r_gr X I fl_X4_21 h16 dX4_listAssumed_49 ?_
          refine lv_aload_n hx hb dX4_listAssumed_52 rfl (lv_at hl 1 rfl) ?_
          refine r_gi X I fl_X4_51 h17 dX4_listAssumed_53 ?_
          refine lv_iload_n hx hb dX4_listAssumed_56 rfl (lv_at hl 0 rfl) ?_
          refine r_iast X I h18 dX4_listAssumed_57 (fun H locs I => ?_)
          have hn := s_k2 (s_si_2 h18) hn
          refine lv_aload_n hx hb dX4_listAssumed_58 rfl (lv_at hl 1 rfl) ?_
          refine lv_dup hx hb dX4_listAssumed_59 rfl ?_
          refine r_gi X I fl_X4_51 h19 dX4_listAssumed_60 ?_
          refine lv_iconst (v := 1) hx hb dX4_listAssumed_63 (by decide) ?_
          refine lv_iadd hx hb dX4_listAssumed_64 ?_
          refine r_put X I fp_X4_51 (fun h => by cases h) h20 rfl rfl dX4_listAssumed_65 (fun H locs I => ?_)
          have hn := s_k2 (s_pf_2 h20) hn
          exact r_vret X I rfl rfl hn dX4_listAssumed_68
        · refine lv_icmp_ne (tgt := 68) hx hb dX4_listAssumed_45 (by decide) (fun _ => ?_) (fun n => absurd n c15)
          cases hf
          have k : _ = r := k
          subst k
          exact r_vret X I rfl rfl hn dX4_listAssumed_68
    · refine lv_icmp_lt (tgt := 21) hx hb dX4_listAssumed_17 (by decide) (fun n => absurd n c6) (fun _ => ?_)
      cases hf
      have k : _ = r := k
      subst k
      exact r_vret X I rfl rfl hn dX4_listAssumed_20
  · refine lv_icmp_ne (tgt := 20) hx hb dX4_listAssumed_9 (by decide) (fun _ => ?_) (fun n => absurd n c4)
    cases hf
    have k : _ = r := k
    subst k
    exact r_vret X I rfl rfl hn dX4_listAssumed_20
theorem v_X4_listAssumed {G : sG} {d : Nat} {vs0 : List Value} {σ0 : sS} {x : sL} {z : sZ Unit} {r : Unit × sS} (hs : S_X4_listAssumed x = some z) (k : s_K G (d + 2) M_X4_listAssumed vs0 σ0 Y_X4_listAssumed e_V z r) : s_V G (d + 2) M_X4_listAssumed vs0 σ0 Y_X4_listAssumed x (e_V r) := by
  obtain ⟨pc, vs, σ⟩ := x
  unfold S_X4_listAssumed at hs
  dsimp only at hs
  rcases s_ite hs with ⟨c, hs⟩ | ⟨-, hs⟩
  · subst c
    unfold U_X4_listAssumed_0 at hs
    obtain ⟨a0, g0, hs⟩ := s_bind hs
    obtain ⟨a1, g1, hs⟩ := s_bind hs
    obtain ⟨u9, ge, hs⟩ := s_bind hs
    rw [g_r_to g0, g_i_to g1, g_e_to ge]
    exact v_X4_listAssumed_0 hs k
  cases hs
theorem t_X4_listAssumed {G : sG} {d : Nat} {v0 : Nat} {v1 : Int32} {σ : sS} {q : Unit × sS} (h : F_X4_listAssumed v0 v1 σ = some q) : s_T G (d + 2) M_X4_listAssumed [.ref v0, .int v1] σ (e_V q) := by
  unfold F_X4_listAssumed at h
  obtain ⟨-, -, h⟩ := s_bind h
  exact s_ofV rfl (by decide) (Nat.le_of_ble_eq_true rfl) rfl rfl (s_run_ind (V := fun x r => s_V G (d + 2) M_X4_listAssumed [.ref v0, .int v1] σ Y_X4_listAssumed x (e_V r)) (fun x z r hs hk => v_X4_listAssumed hs (by cases z <;> exact hk)) h)
/-! X4_addStep -/
noncomputable def T_X4_addStep_0 (v0 : Nat) (v1 : Int32) (v2 : Int32) (v3 : Int32) (v4 : Int32) (v5 : Int32) (σ : sS) : Option (sZ Unit) :=
  if v2 = (-1) then (some (.inr ((), σ)))
  else ((s_fi σ v0 4 10).bind fun x1 =>
  if x1 < 560 then ((s_fi σ v0 4 10).bind fun x2 =>
  (s_fr σ v0 4 6).bind fun x3 =>
  (s_si σ x3 (x2 * 5) v1).bind fun σ4 =>
  (s_fr σ4 v0 4 6).bind fun x5 =>
  (s_si σ4 x5 ((x2 * 5) + 1) v2).bind fun σ6 =>
  (s_fr σ6 v0 4 6).bind fun x7 =>
  (s_si σ6 x7 ((x2 * 5) + 2) v3).bind fun σ8 =>
  (s_fr σ8 v0 4 6).bind fun x9 =>
  (s_si σ8 x9 ((x2 * 5) + 3) v4).bind fun σ10 =>
  (s_fr σ10 v0 4 6).bind fun x11 =>
  (s_si σ10 x11 ((x2 * 5) + 4) v5).bind fun σ12 =>
  (s_fi σ12 v0 4 10).bind fun x13 =>
  (s_pf σ12 v0 4 10 (.int (x13 + 1))).bind fun σ14 =>
  some (.inr ((), σ14)))
  else (some (.inr ((), σ))))
noncomputable def U_X4_addStep_0 (vs : List Value) (σ : sS) : Option (sZ Unit) := (g_r vs).bind fun a0 => (g_i a0.2).bind fun a1 => (g_i a1.2).bind fun a2 => (g_i a2.2).bind fun a3 => (g_i a3.2).bind fun a4 => (g_i a4.2).bind fun a5 => (g_e a5.2).bind fun _ => T_X4_addStep_0 a0.1 a1.1 a2.1 a3.1 a4.1 a5.1 σ
noncomputable def S_X4_addStep (x : sL) : Option (sZ Unit) := if x.1 = 0 then U_X4_addStep_0 x.2.1 x.2.2 else none
def Y_X4_addStep (pc : Nat) : List Nat := if pc = 0 then [0, 1, 2, 3, 4, 5] else []
noncomputable def F_X4_addStep (v0 : Nat) (v1 : Int32) (v2 : Int32) (v3 : Int32) (v4 : Int32) (v5 : Int32) (σ : sS) : Option (Unit × sS) := (s_is σ v0 4).bind fun _ => s_run S_X4_addStep (0, [.ref v0, .int v1, .int v2, .int v3, .int v4, .int v5], σ)
theorem l_X4_addStep_0 {v0 : Nat} {v1 : Int32} {v2 : Int32} {v3 : Int32} {v4 : Int32} {v5 : Int32} {σ : sS} {z : sZ Unit} (hf : T_X4_addStep_0 v0 v1 v2 v3 v4 v5 σ = some z) : s_lz σ z := by
  unfold T_X4_addStep_0 at hf
  rcases s_ite hf with ⟨-, hf⟩ | ⟨-, hf⟩
  · cases hf
    exact s_le.rf
  · obtain ⟨x1, -, hf⟩ := s_bind hf
    rcases s_ite hf with ⟨-, hf⟩ | ⟨-, hf⟩
    · obtain ⟨x2, -, hf⟩ := s_bind hf
      obtain ⟨x3, -, hf⟩ := s_bind hf
      obtain ⟨σ4, hh, hf⟩ := s_bind hf
      refine s_lz.tr (s_le2 (s_si_2 hh)) ?_
      obtain ⟨x5, -, hf⟩ := s_bind hf
      obtain ⟨σ6, hh, hf⟩ := s_bind hf
      refine s_lz.tr (s_le2 (s_si_2 hh)) ?_
      obtain ⟨x7, -, hf⟩ := s_bind hf
      obtain ⟨σ8, hh, hf⟩ := s_bind hf
      refine s_lz.tr (s_le2 (s_si_2 hh)) ?_
      obtain ⟨x9, -, hf⟩ := s_bind hf
      obtain ⟨σ10, hh, hf⟩ := s_bind hf
      refine s_lz.tr (s_le2 (s_si_2 hh)) ?_
      obtain ⟨x11, -, hf⟩ := s_bind hf
      obtain ⟨σ12, hh, hf⟩ := s_bind hf
      refine s_lz.tr (s_le2 (s_si_2 hh)) ?_
      obtain ⟨x13, -, hf⟩ := s_bind hf
      obtain ⟨σ14, hh, hf⟩ := s_bind hf
      refine s_lz.tr (s_le2 (s_pf_2 hh)) ?_
      cases hf
      exact s_le.rf
    · cases hf
      exact s_le.rf
theorem l_X4_addStep_s {x : sL} {z : sZ Unit} (hs : S_X4_addStep x = some z) : s_lz x.2.2 z := by
  obtain ⟨pc, vs, σ⟩ := x
  unfold S_X4_addStep at hs
  dsimp only at hs ⊢
  rcases s_ite hs with ⟨c, hs⟩ | ⟨-, hs⟩
  · subst c
    unfold U_X4_addStep_0 at hs
    obtain ⟨a0, g0, hs⟩ := s_bind hs
    obtain ⟨a1, g1, hs⟩ := s_bind hs
    obtain ⟨a2, g2, hs⟩ := s_bind hs
    obtain ⟨a3, g3, hs⟩ := s_bind hs
    obtain ⟨a4, g4, hs⟩ := s_bind hs
    obtain ⟨a5, g5, hs⟩ := s_bind hs
    obtain ⟨u9, ge, hs⟩ := s_bind hs
    exact l_X4_addStep_0 hs
  cases hs
theorem l_X4_addStep {v0 : Nat} {v1 : Int32} {v2 : Int32} {v3 : Int32} {v4 : Int32} {v5 : Int32} {σ : sS} {q : Unit × sS} (h : F_X4_addStep v0 v1 v2 v3 v4 v5 σ = some q) : s_le σ q.2 := by
  unfold F_X4_addStep at h
  obtain ⟨-, -, h⟩ := s_bind h
  exact s_run_ind (V := fun x r => s_le x.2.2 r.2) (fun x z r hs hk => by
    have h9 := l_X4_addStep_s hs
    cases z with
    | inl y => exact s_le.tr h9 hk
    | inr q => cases hk; exact h9) h
theorem b_X4_addStep {v0 : Nat} {v1 : Int32} {v2 : Int32} {v3 : Int32} {v4 : Int32} {v5 : Int32} {σ : sS} {q : Unit × sS} (h : F_X4_addStep v0 v1 v2 v3 v4 v5 σ = some q) : ∃ fs, σ.1 v0 = some (.inr (4, fs)) := by
  unfold F_X4_addStep at h
  obtain ⟨u, hu, -⟩ := s_bind h
  exact s_is_to hu
set_option maxRecDepth 100000 in
set_option maxHeartbeats 4000000 in
theorem v_X4_addStep_0 {G : sG} {d : Nat} {vs0 : List Value} {σ0 : sS} {v0 : Nat} {v1 : Int32} {v2 : Int32} {v3 : Int32} {v4 : Int32} {v5 : Int32} {σ : sS} {z : sZ Unit} {r : Unit × sS} (hf : T_X4_addStep_0 v0 v1 v2 v3 v4 v5 σ = some z) (k : s_K G (d + 1) M_X4_addStep vs0 σ0 Y_X4_addStep e_V z r) : s_V G (d + 1) M_X4_addStep vs0 σ0 Y_X4_addStep (0, [.ref v0, .int v1, .int v2, .int v3, .int v4, .int v5], σ) (e_V r) := by
  have le0 : s_le σ (e_V r).2 := s_lek hem_V (l_X4_addStep_0 hf) k
  refine ⟨le0, ?_⟩
  intro p e s m below meth c H locs cells slots ls X I hn1 hn2 hl
  have hn : cells + σ0.2.1 ≤ σ.2.1 ∧ slots + σ0.2.2.1 ≤ σ.2.2.1 := ⟨hn1, hn2⟩
  have hl : lv_has ls 7 [(0, .ref v0), (1, .int v1), (2, .int v2), (3, .int v3), (4, .int v4), (5, .int v5)] := hl
  have hx := X.1
  have hb : c.code = cX4_addStep := X.2.1
  have hown : s.vm.findClass RX4 = some m.cls := X.2.2.2.2.2.1
  have hts := X.2.2.2.2.2.2.1
  refine W.eq (g2 := F0 m 0 ls []) rfl ?_
  unfold T_X4_addStep_0 at hf
  refine lv_iload_n hx hb dX4_addStep_0 rfl (lv_at hl 2 rfl) ?_
  refine lv_iconst (v := (-1)) hx hb dX4_addStep_1 (by decide) ?_
  rcases s_ite hf with ⟨c1, hf⟩ | ⟨c1, hf⟩
  · refine lv_icmp_eq (tgt := 15) hx hb dX4_addStep_2 (by decide) (fun _ => ?_) (fun n => absurd c1 n)
    cases hf
    have k : _ = r := k
    subst k
    exact r_vret X I rfl rfl hn dX4_addStep_15
  · refine lv_icmp_eq (tgt := 15) hx hb dX4_addStep_2 (by decide) (fun n => absurd n c1) (fun _ => ?_)
    obtain ⟨x1, h2, hf⟩ := s_bind hf
    refine lv_aload_n hx hb dX4_addStep_5 rfl (lv_at hl 0 rfl) ?_
    refine r_gi X I fl_X4_54 h2 dX4_addStep_6 ?_
    refine lv_sipush (v := 560) hx hb dX4_addStep_9 (by decide) ?_
    rcases s_ite hf with ⟨c3, hf⟩ | ⟨c3, hf⟩
    · refine lv_icmp_lt (tgt := 16) hx hb dX4_addStep_12 (by decide) (fun _ => ?_) (fun n => absurd c3 n)
      obtain ⟨x2, h4, hf⟩ := s_bind hf
      obtain ⟨x3, h5, hf⟩ := s_bind hf
      obtain ⟨σ4, h6, hf⟩ := s_bind hf
      obtain ⟨x5, h7, hf⟩ := s_bind hf
      obtain ⟨σ6, h8, hf⟩ := s_bind hf
      obtain ⟨x7, h9, hf⟩ := s_bind hf
      obtain ⟨σ8, h10, hf⟩ := s_bind hf
      obtain ⟨x9, h11, hf⟩ := s_bind hf
      obtain ⟨σ10, h12, hf⟩ := s_bind hf
      obtain ⟨x11, h13, hf⟩ := s_bind hf
      obtain ⟨σ12, h14, hf⟩ := s_bind hf
      obtain ⟨x13, h15, hf⟩ := s_bind hf
      obtain ⟨σ14, h16, hf⟩ := s_bind hf
      cases hf
      have k : _ = r := k
      subst k
      have le17 : s_le σ14 σ14 := s_le.rf
      have le18 := s_le.tr (s_le2 (s_pf_2 h16)) le17
      have le19 := s_le.tr (s_le2 (s_si_2 h14)) le18
      have le20 := s_le.tr (s_le2 (s_si_2 h12)) le19
      have le21 := s_le.tr (s_le2 (s_si_2 h10)) le20
      have le22 := s_le.tr (s_le2 (s_si_2 h8)) le21
      refine lv_aload_n hx hb dX4_addStep_16 rfl (lv_at hl 0 rfl) ?_
      refine r_gi X I fl_X4_54 h4 dX4_addStep_17 ?_
      refine lv_iconst (v := 5) hx hb dX4_addStep_20 (by decide) ?_
      refine lv_imul hx hb dX4_addStep_21 ?_
      refine lv_istore (lv' := [(6, .int (x2 * 5)), (0, .ref v0), (1, .int v1), (2, .int v2), (3, .int v3), (4, .int v4), (5, .int v5)]) hx hb dX4_addStep_22 hl (by decide) rfl (fun ls hl => ?_)
      refine lv_aload_n hx hb dX4_addStep_24 rfl (lv_at hl 1 rfl) ?_
      refine r_gr X I fl_X4_24 h5 dX4_addStep_25 ?_
      refine lv_iload hx hb dX4_addStep_28 (lv_at hl 0 rfl) ?_
      refine lv_iload_n hx hb dX4_addStep_30 rfl (lv_at hl 2 rfl) ?_
      refine r_iast X I h6 dX4_addStep_31 (fun H locs I => ?_)
      have hn := s_k2 (s_si_2 h6) hn
      refine lv_aload_n hx hb dX4_addStep_32 rfl (lv_at hl 1 rfl) ?_
      refine r_gr X I fl_X4_24 h7 dX4_addStep_33 ?_
      refine lv_iload hx hb dX4_addStep_36 (lv_at hl 0 rfl) ?_
      refine lv_iconst (v := 1) hx hb dX4_addStep_38 (by decide) ?_
      refine lv_iadd hx hb dX4_addStep_39 ?_
      refine lv_iload_n hx hb dX4_addStep_40 rfl (lv_at hl 3 rfl) ?_
      refine r_iast X I h8 dX4_addStep_41 (fun H locs I => ?_)
      have hn := s_k2 (s_si_2 h8) hn
      refine lv_aload_n hx hb dX4_addStep_42 rfl (lv_at hl 1 rfl) ?_
      refine r_gr X I fl_X4_24 h9 dX4_addStep_43 ?_
      refine lv_iload hx hb dX4_addStep_46 (lv_at hl 0 rfl) ?_
      refine lv_iconst (v := 2) hx hb dX4_addStep_48 (by decide) ?_
      refine lv_iadd hx hb dX4_addStep_49 ?_
      refine lv_iload_n hx hb dX4_addStep_50 rfl (lv_at hl 4 rfl) ?_
      refine r_iast X I h10 dX4_addStep_51 (fun H locs I => ?_)
      have hn := s_k2 (s_si_2 h10) hn
      refine lv_aload_n hx hb dX4_addStep_52 rfl (lv_at hl 1 rfl) ?_
      refine r_gr X I fl_X4_24 h11 dX4_addStep_53 ?_
      refine lv_iload hx hb dX4_addStep_56 (lv_at hl 0 rfl) ?_
      refine lv_iconst (v := 3) hx hb dX4_addStep_58 (by decide) ?_
      refine lv_iadd hx hb dX4_addStep_59 ?_
      refine lv_iload hx hb dX4_addStep_60 (lv_at hl 5 rfl) ?_
      refine r_iast X I h12 dX4_addStep_62 (fun H locs I => ?_)
      have hn := s_k2 (s_si_2 h12) hn
      refine lv_aload_n hx hb dX4_addStep_63 rfl (lv_at hl 1 rfl) ?_
      refine r_gr X I fl_X4_24 h13 dX4_addStep_64 ?_
      refine lv_iload hx hb dX4_addStep_67 (lv_at hl 0 rfl) ?_
      refine lv_iconst (v := 4) hx hb dX4_addStep_69 (by decide) ?_
      refine lv_iadd hx hb dX4_addStep_70 ?_
      refine lv_iload hx hb dX4_addStep_71 (lv_at hl 6 rfl) ?_
      refine r_iast X I h14 dX4_addStep_73 (fun H locs I => ?_)
      have hn := s_k2 (s_si_2 h14) hn
      refine lv_aload_n hx hb dX4_addStep_74 rfl (lv_at hl 1 rfl) ?_
      refine lv_dup hx hb dX4_addStep_75 rfl ?_
      refine r_gi X I fl_X4_54 h15 dX4_addStep_76 ?_
      refine lv_iconst (v := 1) hx hb dX4_addStep_79 (by decide) ?_
      refine lv_iadd hx hb dX4_addStep_80 ?_
      refine r_put X I fp_X4_54 (fun h => by cases h) h16 rfl rfl dX4_addStep_81 (fun H locs I => ?_)
      have hn := s_k2 (s_pf_2 h16) hn
      exact r_vret X I rfl rfl hn dX4_addStep_84
    · refine lv_icmp_lt (tgt := 16) hx hb dX4_addStep_12 (by decide) (fun n => absurd n c3) (fun _ => ?_)
      cases hf
      have k : _ = r := k
      subst k
      exact r_vret X I rfl rfl hn dX4_addStep_15
theorem v_X4_addStep {G : sG} {d : Nat} {vs0 : List Value} {σ0 : sS} {x : sL} {z : sZ Unit} {r : Unit × sS} (hs : S_X4_addStep x = some z) (k : s_K G (d + 1) M_X4_addStep vs0 σ0 Y_X4_addStep e_V z r) : s_V G (d + 1) M_X4_addStep vs0 σ0 Y_X4_addStep x (e_V r) := by
  obtain ⟨pc, vs, σ⟩ := x
  unfold S_X4_addStep at hs
  dsimp only at hs
  rcases s_ite hs with ⟨c, hs⟩ | ⟨-, hs⟩
  · subst c
    unfold U_X4_addStep_0 at hs
    obtain ⟨a0, g0, hs⟩ := s_bind hs
    obtain ⟨a1, g1, hs⟩ := s_bind hs
    obtain ⟨a2, g2, hs⟩ := s_bind hs
    obtain ⟨a3, g3, hs⟩ := s_bind hs
    obtain ⟨a4, g4, hs⟩ := s_bind hs
    obtain ⟨a5, g5, hs⟩ := s_bind hs
    obtain ⟨u9, ge, hs⟩ := s_bind hs
    rw [g_r_to g0, g_i_to g1, g_i_to g2, g_i_to g3, g_i_to g4, g_i_to g5, g_e_to ge]
    exact v_X4_addStep_0 hs k
  cases hs
theorem t_X4_addStep {G : sG} {d : Nat} {v0 : Nat} {v1 : Int32} {v2 : Int32} {v3 : Int32} {v4 : Int32} {v5 : Int32} {σ : sS} {q : Unit × sS} (h : F_X4_addStep v0 v1 v2 v3 v4 v5 σ = some q) : s_T G (d + 1) M_X4_addStep [.ref v0, .int v1, .int v2, .int v3, .int v4, .int v5] σ (e_V q) := by
  unfold F_X4_addStep at h
  obtain ⟨-, -, h⟩ := s_bind h
  exact s_ofV rfl (by decide) (Nat.le_of_ble_eq_true rfl) rfl rfl (s_run_ind (V := fun x r => s_V G (d + 1) M_X4_addStep [.ref v0, .int v1, .int v2, .int v3, .int v4, .int v5] σ Y_X4_addStep x (e_V r)) (fun x z r hs hk => v_X4_addStep hs (by cases z <;> exact hk)) h)
