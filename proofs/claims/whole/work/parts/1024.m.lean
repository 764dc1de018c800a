/-! X7_areInOrder -/
noncomputable def T_X7_areInOrder_0 (v0 : Int32) (v1 : Int32) (v2 : Int32) (v3 : Int32) (σ : sS) : Option (sZ Int32) :=
  if v0 = 0 then (if v2 = (-1) then (if v3 = (-1) then (some (.inr (1, σ)))
  else (some (.inr (0, σ))))
  else (some (.inr (0, σ))))
  else (if v1 = (-1) then (if v2 = (-1) then (some (.inl (30, [.int v2, .int v3], σ)))
  else (some (.inr (0, σ))))
  else (some (.inl (30, [.int v2, .int v3], σ))))
noncomputable def U_X7_areInOrder_0 (vs : List Value) (σ : sS) : Option (sZ Int32) := (g_i vs).bind fun a0 => (g_i a0.2).bind fun a1 => (g_i a1.2).bind fun a2 => (g_i a2.2).bind fun a3 => (g_e a3.2).bind fun _ => T_X7_areInOrder_0 a0.1 a1.1 a2.1 a3.1 σ
noncomputable def T_X7_areInOrder_30 (v2 : Int32) (v3 : Int32) (σ : sS) : Option (sZ Int32) :=
  if v2 = (-1) then (if v3 = (-1) then (some (.inr (1, σ)))
  else (some (.inr (0, σ))))
  else (some (.inr (1, σ)))
noncomputable def U_X7_areInOrder_30 (vs : List Value) (σ : sS) : Option (sZ Int32) := (g_i vs).bind fun a0 => (g_i a0.2).bind fun a1 => (g_e a1.2).bind fun _ => T_X7_areInOrder_30 a0.1 a1.1 σ
noncomputable def S_X7_areInOrder (x : sL) : Option (sZ Int32) := if x.1 = 0 then U_X7_areInOrder_0 x.2.1 x.2.2 else if x.1 = 30 then U_X7_areInOrder_30 x.2.1 x.2.2 else none
def Y_X7_areInOrder (pc : Nat) : List Nat := if pc = 0 then [0, 1, 2, 3] else if pc = 30 then [2, 3] else []
noncomputable def F_X7_areInOrder (v0 : Int32) (v1 : Int32) (v2 : Int32) (v3 : Int32) (σ : sS) : Option (Int32 × sS) := s_run S_X7_areInOrder (0, [.int v0, .int v1, .int v2, .int v3], σ)
theorem l_X7_areInOrder_0 {v0 : Int32} {v1 : Int32} {v2 : Int32} {v3 : Int32} {σ : sS} {z : sZ Int32} (hf : T_X7_areInOrder_0 v0 v1 v2 v3 σ = some z) : s_lz σ z := by
  unfold T_X7_areInOrder_0 at hf
  rcases s_ite hf with ⟨-, hf⟩ | ⟨-, hf⟩
  · rcases s_ite hf with ⟨-, hf⟩ | ⟨-, hf⟩
    · rcases s_ite hf with ⟨-, hf⟩ | ⟨-, hf⟩
      · cases hf
        exact s_le.rf
      · cases hf
        exact s_le.rf
    · cases hf
      exact s_le.rf
  · rcases s_ite hf with ⟨-, hf⟩ | ⟨-, hf⟩
    · rcases s_ite hf with ⟨-, hf⟩ | ⟨-, hf⟩
      · cases hf
        exact s_le.rf
      · cases hf
        exact s_le.rf
    · cases hf
      exact s_le.rf
theorem l_X7_areInOrder_30 {v2 : Int32} {v3 : Int32} {σ : sS} {z : sZ Int32} (hf : T_X7_areInOrder_30 v2 v3 σ = some z) : s_lz σ z := by
  unfold T_X7_areInOrder_30 at hf
  rcases s_ite hf with ⟨-, hf⟩ | ⟨-, hf⟩
  · rcases s_ite hf with ⟨-, hf⟩ | ⟨-, hf⟩
    · cases hf
      exact s_le.rf
    · cases hf
      exact s_le.rf
  · cases hf
    exact s_le.rf
theorem l_X7_areInOrder_s {x : sL} {z : sZ Int32} (hs : S_X7_areInOrder x = some z) : s_lz x.2.2 z := by
  obtain ⟨pc, vs, σ⟩ := x
  unfold S_X7_areInOrder at hs
  dsimp only at hs ⊢
  rcases s_ite hs with ⟨c, hs⟩ | ⟨-, hs⟩
  · subst c
    unfold U_X7_areInOrder_0 at hs
    obtain ⟨a0, g0, hs⟩ := s_bind hs
    obtain ⟨a1, g1, hs⟩ := s_bind hs
    obtain ⟨a2, g2, hs⟩ := s_bind hs
    obtain ⟨a3, g3, hs⟩ := s_bind hs
    obtain ⟨u9, ge, hs⟩ := s_bind hs
    exact l_X7_areInOrder_0 hs
  rcases s_ite hs with ⟨c, hs⟩ | ⟨-, hs⟩
  · subst c
    unfold U_X7_areInOrder_30 at hs
    obtain ⟨a0, g0, hs⟩ := s_bind hs
    obtain ⟨a1, g1, hs⟩ := s_bind hs
    obtain ⟨u9, ge, hs⟩ := s_bind hs
    exact l_X7_areInOrder_30 hs
  cases hs
theorem l_X7_areInOrder {v0 : Int32} {v1 : Int32} {v2 : Int32} {v3 : Int32} {σ : sS} {q : Int32 × sS} (h : F_X7_areInOrder v0 v1 v2 v3 σ = some q) : s_le σ q.2 := by
  unfold F_X7_areInOrder at h
  exact s_run_ind (V := fun x r => s_le x.2.2 r.2) (fun x z r hs hk => by
    have h9 := l_X7_areInOrder_s hs
    cases z with
    | inl y => exact s_le.tr h9 hk
    | inr q => cases hk; exact h9) h
set_option maxRecDepth 100000 in
set_option maxHeartbeats 4000000 in
theorem v_X7_areInOrder_0 {G : sG} {d : Nat} {vs0 : List Value} {σ0 : sS} {v0 : Int32} {v1 : Int32} {v2 : Int32} {v3 : Int32} {σ : sS} {z : sZ Int32} {r : Int32 × sS} (hf : T_X7_areInOrder_0 v0 v1 v2 v3 σ = some z) (k : s_K G (d + 1) M_X7_areInOrder vs0 σ0 Y_X7_areInOrder e_I z r) : s_V G (d + 1) M_X7_areInOrder vs0 σ0 Y_X7_areInOrder (0, [.int v0, .int v1, .int v2, .int v3], σ) (e_I r) := by
  have le0 : s_le σ (e_I r).2 := s_lek hem_I (l_X7_areInOrder_0 hf) k
  refine ⟨le0, ?_⟩
  intro p e s m below meth c H locs cells slots ls X I hn1 hn2 hl
  have hn : cells + σ0.2.1 ≤ σ.2.1 ∧ slots + σ0.2.2.1 ≤ σ.2.2.1 := ⟨hn1, hn2⟩
  have hl : lv_has ls 4 [(0, .int v0), (1, .int v1), (2, .int v2), (3, .int v3)] := hl
  have hx := X.1
  have hb : c.code = cX7_areInOrder := X.2.1
  have hown : s.vm.findClass RX7 = some m.cls := X.2.2.2.2.2.1
  have hts := X.2.2.2.2.2.2.1
  refine W.eq (g2 := F0 m 0 ls []) rfl ?_
  unfold T_X7_areInOrder_0 at hf
  refine lv_iload_n hx hb dX7_areInOrder_0 rfl (lv_at hl 0 rfl) ?_
  rcases s_ite hf with ⟨c1, hf⟩ | ⟨c1, hf⟩
  · refine lv_if_ne (tgt := 20) hx hb dX7_areInOrder_1 (by decide) (fun n => absurd c1 n) (fun _ => ?_)
    refine lv_iload_n hx hb dX7_areInOrder_4 rfl (lv_at hl 2 rfl) ?_
    refine lv_iconst (v := (-1)) hx hb dX7_areInOrder_5 (by decide) ?_
    rcases s_ite hf with ⟨c2, hf⟩ | ⟨c2, hf⟩
    · refine lv_icmp_ne (tgt := 18) hx hb dX7_areInOrder_6 (by decide) (fun n => absurd c2 n) (fun _ => ?_)
      refine lv_iload_n hx hb dX7_areInOrder_9 rfl (lv_at hl 3 rfl) ?_
      refine lv_iconst (v := (-1)) hx hb dX7_areInOrder_10 (by decide) ?_
      rcases s_ite hf with ⟨c3, hf⟩ | ⟨c3, hf⟩
      · refine lv_icmp_ne (tgt := 18) hx hb dX7_areInOrder_11 (by decide) (fun n => absurd c3 n) (fun _ => ?_)
        cases hf
        have k : _ = r := k
        subst k
        refine lv_iconst (v := 1) hx hb dX7_areInOrder_14 (by decide) ?_
        refine lv_goto (tgt := 19) hx hb dX7_areInOrder_15 (by decide) ?_
        exact r_iret X I rfl rfl rfl hn dX7_areInOrder_19
      · refine lv_icmp_ne (tgt := 18) hx hb dX7_areInOrder_11 (by decide) (fun _ => ?_) (fun n => absurd n c3)
        cases hf
        have k : _ = r := k
        subst k
        refine lv_iconst (v := 0) hx hb dX7_areInOrder_18 (by decide) ?_
        exact r_iret X I rfl rfl rfl hn dX7_areInOrder_19
    · refine lv_icmp_ne (tgt := 18) hx hb dX7_areInOrder_6 (by decide) (fun _ => ?_) (fun n => absurd n c2)
      cases hf
      have k : _ = r := k
      subst k
      refine lv_iconst (v := 0) hx hb dX7_areInOrder_18 (by decide) ?_
      exact r_iret X I rfl rfl rfl hn dX7_areInOrder_19
  · refine lv_if_ne (tgt := 20) hx hb dX7_areInOrder_1 (by decide) (fun _ => ?_) (fun n => absurd n c1)
    refine lv_iload_n hx hb dX7_areInOrder_20 rfl (lv_at hl 1 rfl) ?_
    refine lv_iconst (v := (-1)) hx hb dX7_areInOrder_21 (by decide) ?_
    rcases s_ite hf with ⟨c4, hf⟩ | ⟨c4, hf⟩
    · refine lv_icmp_ne (tgt := 30) hx hb dX7_areInOrder_22 (by decide) (fun n => absurd c4 n) (fun _ => ?_)
      refine lv_iload_n hx hb dX7_areInOrder_25 rfl (lv_at hl 2 rfl) ?_
      refine lv_iconst (v := (-1)) hx hb dX7_areInOrder_26 (by decide) ?_
      rcases s_ite hf with ⟨c5, hf⟩ | ⟨c5, hf⟩
      · refine lv_icmp_ne (tgt := 44) hx hb dX7_areInOrder_27 (by decide) (fun n => absurd c5 n) (fun _ => ?_)
        cases hf
        have k : s_V G (d + 1) M_X7_areInOrder vs0 σ0 Y_X7_areInOrder (30, [.int v2, .int v3], σ) (e_I r) := k
        exact k.2 p e s m below meth c _ _ _ _ _ X I hn.1 hn.2 (lv_sub hl [2, 3] rfl)
      · refine lv_icmp_ne (tgt := 44) hx hb dX7_areInOrder_27 (by decide) (fun _ => ?_) (fun n => absurd n c5)
        cases hf
        have k : _ = r := k
        subst k
        refine lv_iconst (v := 0) hx hb dX7_areInOrder_44 (by decide) ?_
        exact r_iret X I rfl rfl rfl hn dX7_areInOrder_45
    · refine lv_icmp_ne (tgt := 30) hx hb dX7_areInOrder_22 (by decide) (fun _ => ?_) (fun n => absurd n c4)
      cases hf
      have k : s_V G (d + 1) M_X7_areInOrder vs0 σ0 Y_X7_areInOrder (30, [.int v2, .int v3], σ) (e_I r) := k
      exact k.2 p e s m below meth c _ _ _ _ _ X I hn.1 hn.2 (lv_sub hl [2, 3] rfl)
set_option maxRecDepth 100000 in
set_option maxHeartbeats 4000000 in
theorem v_X7_areInOrder_30 {G : sG} {d : Nat} {vs0 : List Value} {σ0 : sS} {v2 : Int32} {v3 : Int32} {σ : sS} {z : sZ Int32} {r : Int32 × sS} (hf : T_X7_areInOrder_30 v2 v3 σ = some z) (k : s_K G (d + 1) M_X7_areInOrder vs0 σ0 Y_X7_areInOrder e_I z r) : s_V G (d + 1) M_X7_areInOrder vs0 σ0 Y_X7_areInOrder (30, [.int v2, .int v3], σ) (e_I r) := by
  have le0 : s_le σ (e_I r).2 := s_lek hem_I (l_X7_areInOrder_30 hf) k
  refine ⟨le0, ?_⟩
  intro p e s m below meth c H locs cells slots ls X I hn1 hn2 hl
  have hn : cells + σ0.2.1 ≤ σ.2.1 ∧ slots + σ0.2.2.1 ≤ σ.2.2.1 := ⟨hn1, hn2⟩
  have hl : lv_has ls 4 [(2, .int v2), (3, .int v3)] := hl
  have hx := X.1
  have hb : c.code = cX7_areInOrder := X.2.1
  have hown : s.vm.findClass RX7 = some m.cls := X.2.2.2.2.2.1
  have hts := X.2.2.2.2.2.2.1
  refine W.eq (g2 := F0 m 30 ls []) rfl ?_
  unfold T_X7_areInOrder_30 at hf
  refine lv_iload_n hx hb dX7_areInOrder_30 rfl (lv_at hl 0 rfl) ?_
  refine lv_iconst (v := (-1)) hx hb dX7_areInOrder_31 (by decide) ?_
  rcases s_ite hf with ⟨c1, hf⟩ | ⟨c1, hf⟩
  · refine lv_icmp_ne (tgt := 40) hx hb dX7_areInOrder_32 (by decide) (fun n => absurd c1 n) (fun _ => ?_)
    refine lv_iload_n hx hb dX7_areInOrder_35 rfl (lv_at hl 1 rfl) ?_
    refine lv_iconst (v := (-1)) hx hb dX7_areInOrder_36 (by decide) ?_
    rcases s_ite hf with ⟨c2, hf⟩ | ⟨c2, hf⟩
    · refine lv_icmp_ne (tgt := 44) hx hb dX7_areInOrder_37 (by decide) (fun n => absurd c2 n) (fun _ => ?_)
      cases hf
      have k : _ = r := k
      subst k
      refine lv_iconst (v := 1) hx hb dX7_areInOrder_40 (by decide) ?_
      refine lv_goto (tgt := 45) hx hb dX7_areInOrder_41 (by decide) ?_
      exact r_iret X I rfl rfl rfl hn dX7_areInOrder_45
    · refine lv_icmp_ne (tgt := 44) hx hb dX7_areInOrder_37 (by decide) (fun _ => ?_) (fun n => absurd n c2)
      cases hf
      have k : _ = r := k
      subst k
      refine lv_iconst (v := 0) hx hb dX7_areInOrder_44 (by decide) ?_
      exact r_iret X I rfl rfl rfl hn dX7_areInOrder_45
  · refine lv_icmp_ne (tgt := 40) hx hb dX7_areInOrder_32 (by decide) (fun _ => ?_) (fun n => absurd n c1)
    cases hf
    have k : _ = r := k
    subst k
    refine lv_iconst (v := 1) hx hb dX7_areInOrder_40 (by decide) ?_
    refine lv_goto (tgt := 45) hx hb dX7_areInOrder_41 (by decide) ?_
    exact r_iret X I rfl rfl rfl hn dX7_areInOrder_45
theorem v_X7_areInOrder {G : sG} {d : Nat} {vs0 : List Value} {σ0 : sS} {x : sL} {z : sZ Int32} {r : Int32 × sS} (hs : S_X7_areInOrder x = some z) (k : s_K G (d + 1) M_X7_areInOrder vs0 σ0 Y_X7_areInOrder e_I z r) : s_V G (d + 1) M_X7_areInOrder vs0 σ0 Y_X7_areInOrder x (e_I r) := by
  obtain ⟨pc, vs, σ⟩ := x
  unfold S_X7_areInOrder at hs
  dsimp only at hs
  rcases s_ite hs with ⟨c, hs⟩ | ⟨-, hs⟩
  · subst c
    unfold U_X7_areInOrder_0 at hs
    obtain ⟨a0, g0, hs⟩ := s_bind hs
    obtain ⟨a1, g1, hs⟩ := s_bind hs
    obtain ⟨a2, g2, hs⟩ := s_bind hs
    obtain ⟨a3, g3, hs⟩ := s_bind hs
    obtain ⟨u9, ge, hs⟩ := s_bind hs
    rw [g_i_to g0, g_i_to g1, g_i_to g2, g_i_to g3, g_e_to ge]
    exact v_X7_areInOrder_0 hs k
  rcases s_ite hs with ⟨c, hs⟩ | ⟨-, hs⟩
  · subst c
    unfold U_X7_areInOrder_30 at hs
    obtain ⟨a0, g0, hs⟩ := s_bind hs
    obtain ⟨a1, g1, hs⟩ := s_bind hs
    obtain ⟨u9, ge, hs⟩ := s_bind hs
    rw [g_i_to g0, g_i_to g1, g_e_to ge]
    exact v_X7_areInOrder_30 hs k
  cases hs
theorem t_X7_areInOrder {G : sG} {d : Nat} {v0 : Int32} {v1 : Int32} {v2 : Int32} {v3 : Int32} {σ : sS} {q : Int32 × sS} (h : F_X7_areInOrder v0 v1 v2 v3 σ = some q) : s_T G (d + 1) M_X7_areInOrder [.int v0, .int v1, .int v2, .int v3] σ (e_I q) := by
  unfold F_X7_areInOrder at h
  exact s_ofV rfl (by decide) (Nat.le_of_ble_eq_true rfl) rfl rfl (s_run_ind (V := fun x r => s_V G (d + 1) M_X7_areInOrder [.int v0, .int v1, .int v2, .int v3] σ Y_X7_areInOrder x (e_I r)) (fun x z r hs hk => v_X7_areInOrder hs (by cases z <;> exact hk)) h)
/-! X1_standOn -/
noncomputable def T_X1_standOn_0 (v0 : Nat) (v1 : Int32) (σ : sS) : Option (sZ Unit) :=
  some (.inl (13, [.ref v0, .int v1, .long (1 <<< ((v1 : Int32).toInt64 &&& 63)), .long 0, .long (1 <<< ((v1 : Int32).toInt64 &&& 63)), .int 0], σ))
noncomputable def U_X1_standOn_0 (vs : List Value) (σ : sS) : Option (sZ Unit) := (g_r vs).bind fun a0 => (g_i a0.2).bind fun a1 => (g_e a1.2).bind fun _ => T_X1_standOn_0 a0.1 a1.1 σ
noncomputable def T_X1_standOn_13 (v0 : Nat) (v1 : Int32) (v2 : Int64) (v4 : Int64) (v6 : Int64) (v8 : Int32) (σ : sS) : Option (sZ Unit) :=
  if (3 : Int32) ≤ v8 then ((F_X1_ofLine v0 v1 2 σ).bind fun q1 =>
  (F_X1_premiseOf v0 v1 0 q1.2).bind fun q2 =>
  if q1.1 = 10 then (if q2.1 < 0 then (some (.inl (121, [.ref v0, .int v1, .long v2, .long v4, .long v6, .int q1.1], q2.2)))
  else ((F_X1_ofLine v0 q2.1 2 q2.2).bind fun q3 =>
  if q3.1 = 1 then (some (.inl (121, [.ref v0, .int v1, .long v2, .long (v4 &&& ((1 <<< ((q2.1 : Int32).toInt64 &&& 63)) ^^^ (-1))), .long v6, .int q1.1], q3.2)))
  else (some (.inl (121, [.ref v0, .int v1, .long v2, .long v4, .long v6, .int q1.1], q3.2)))))
  else (some (.inl (121, [.ref v0, .int v1, .long v2, .long v4, .long v6, .int q1.1], q2.2))))
  else ((F_X1_premiseOf v0 v1 v8 σ).bind fun q4 =>
  if q4.1 < 0 then (some (.inl (63, [.ref v0, .int v1, .long v2, .long v4, .long v6, .int v8], q4.2)))
  else (if v1 ≤ q4.1 then (some (.inl (63, [.ref v0, .int v1, .long v2, .long v4, .long v6, .int v8], q4.2)))
  else ((s_fr q4.2 v0 1 7).bind fun x5 =>
  (s_al q4.2 x5 q4.1).bind fun x6 =>
  (s_fr q4.2 v0 1 8).bind fun x7 =>
  (s_al q4.2 x7 q4.1).bind fun x8 =>
  some (.inl (63, [.ref v0, .int v1, .long v2, .long (v4 ||| x6), .long (v6 ||| x8), .int v8], q4.2)))))
noncomputable def U_X1_standOn_13 (vs : List Value) (σ : sS) : Option (sZ Unit) := (g_r vs).bind fun a0 => (g_i a0.2).bind fun a1 => (g_l a1.2).bind fun a2 => (g_l a2.2).bind fun a3 => (g_l a3.2).bind fun a4 => (g_i a4.2).bind fun a5 => (g_e a5.2).bind fun _ => T_X1_standOn_13 a0.1 a1.1 a2.1 a3.1 a4.1 a5.1 σ
noncomputable def T_X1_standOn_63 (v0 : Nat) (v1 : Int32) (v2 : Int64) (v4 : Int64) (v6 : Int64) (v8 : Int32) (σ : sS) : Option (sZ Unit) :=
  some (.inl (13, [.ref v0, .int v1, .long v2, .long v4, .long v6, .int (v8 + 1)], σ))
noncomputable def U_X1_standOn_63 (vs : List Value) (σ : sS) : Option (sZ Unit) := (g_r vs).bind fun a0 => (g_i a0.2).bind fun a1 => (g_l a1.2).bind fun a2 => (g_l a2.2).bind fun a3 => (g_l a3.2).bind fun a4 => (g_i a4.2).bind fun a5 => (g_e a5.2).bind fun _ => T_X1_standOn_63 a0.1 a1.1 a2.1 a3.1 a4.1 a5.1 σ
noncomputable def T_X1_standOn_121 (v0 : Nat) (v1 : Int32) (v2 : Int64) (v4 : Int64) (v6 : Int64) (v8 : Int32) (σ : sS) : Option (sZ Unit) :=
  (s_fr σ v0 1 7).bind fun x1 =>
  if v8 = 0 then (some (.inl (137, [.ref v0, .int v1, .long v2, .long v6, .int v1, .ref x1], σ)))
  else (if v8 = 1 then (some (.inl (137, [.ref v0, .int v1, .long v2, .long v6, .int v1, .ref x1], σ)))
  else (some (.inl (143, [.ref v0, .int v1, .long v6, .long v4, .int v1, .ref x1], σ))))
noncomputable def U_X1_standOn_121 (vs : List Value) (σ : sS) : Option (sZ Unit) := (g_r vs).bind fun a0 => (g_i a0.2).bind fun a1 => (g_l a1.2).bind fun a2 => (g_l a2.2).bind fun a3 => (g_l a3.2).bind fun a4 => (g_i a4.2).bind fun a5 => (g_e a5.2).bind fun _ => T_X1_standOn_121 a0.1 a1.1 a2.1 a3.1 a4.1 a5.1 σ
noncomputable def T_X1_standOn_137 (v0 : Nat) (v1 : Int32) (v2 : Int64) (v6 : Int64) (w0 : Int32) (w1 : Nat) (σ : sS) : Option (sZ Unit) :=
  some (.inl (143, [.ref v0, .int v1, .long v6, .long v2, .int w0, .ref w1], σ))
noncomputable def U_X1_standOn_137 (vs : List Value) (σ : sS) : Option (sZ Unit) := (g_r vs).bind fun a0 => (g_i a0.2).bind fun a1 => (g_l a1.2).bind fun a2 => (g_l a2.2).bind fun a3 => (g_i a3.2).bind fun a4 => (g_r a4.2).bind fun a5 => (g_e a5.2).bind fun _ => T_X1_standOn_137 a0.1 a1.1 a2.1 a3.1 a4.1 a5.1 σ
noncomputable def T_X1_standOn_143 (v0 : Nat) (v1 : Int32) (v6 : Int64) (w0 : Int64) (w1 : Int32) (w2 : Nat) (σ : sS) : Option (sZ Unit) :=
  (s_sl σ w2 w1 w0).bind fun σ1 =>
  (s_fr σ1 v0 1 8).bind fun x2 =>
  (s_sl σ1 x2 v1 v6).bind fun σ3 =>
  some (.inr ((), σ3))
noncomputable def U_X1_standOn_143 (vs : List Value) (σ : sS) : Option (sZ Unit) := (g_r vs).bind fun a0 => (g_i a0.2).bind fun a1 => (g_l a1.2).bind fun a2 => (g_l a2.2).bind fun a3 => (g_i a3.2).bind fun a4 => (g_r a4.2).bind fun a5 => (g_e a5.2).bind fun _ => T_X1_standOn_143 a0.1 a1.1 a2.1 a3.1 a4.1 a5.1 σ
noncomputable def S_X1_standOn (x : sL) : Option (sZ Unit) := if x.1 = 0 then U_X1_standOn_0 x.2.1 x.2.2 else if x.1 = 13 then U_X1_standOn_13 x.2.1 x.2.2 else if x.1 = 63 then U_X1_standOn_63 x.2.1 x.2.2 else if x.1 = 121 then U_X1_standOn_121 x.2.1 x.2.2 else if x.1 = 137 then U_X1_standOn_137 x.2.1 x.2.2 else if x.1 = 143 then U_X1_standOn_143 x.2.1 x.2.2 else none
def Y_X1_standOn (pc : Nat) : List Nat := if pc = 0 then [0, 1] else if pc = 13 then [0, 1, 2, 4, 6, 8] else if pc = 63 then [0, 1, 2, 4, 6, 8] else if pc = 121 then [0, 1, 2, 4, 6, 8] else if pc = 137 then [0, 1, 2, 6] else if pc = 143 then [0, 1, 6] else []
noncomputable def F_X1_standOn (v0 : Nat) (v1 : Int32) (σ : sS) : Option (Unit × sS) := (s_is σ v0 1).bind fun _ => s_run S_X1_standOn (0, [.ref v0, .int v1], σ)
theorem l_X1_standOn_0 {v0 : Nat} {v1 : Int32} {σ : sS} {z : sZ Unit} (hf : T_X1_standOn_0 v0 v1 σ = some z) : s_lz σ z := by
  unfold T_X1_standOn_0 at hf
  cases hf
  exact s_le.rf
theorem l_X1_standOn_13 {v0 : Nat} {v1 : Int32} {v2 : Int64} {v4 : Int64} {v6 : Int64} {v8 : Int32} {σ : sS} {z : sZ Unit} (hf : T_X1_standOn_13 v0 v1 v2 v4 v6 v8 σ = some z) : s_lz σ z := by
  unfold T_X1_standOn_13 at hf
  rcases s_ite hf with ⟨-, hf⟩ | ⟨-, hf⟩
  · obtain ⟨q1, hh, hf⟩ := s_bind hf
    refine s_lz.tr (l_X1_ofLine hh) ?_
    obtain ⟨q2, hh, hf⟩ := s_bind hf
    refine s_lz.tr (l_X1_premiseOf hh) ?_
    rcases s_ite hf with ⟨-, hf⟩ | ⟨-, hf⟩
    · rcases s_ite hf with ⟨-, hf⟩ | ⟨-, hf⟩
      · cases hf
        exact s_le.rf
      · obtain ⟨q3, hh, hf⟩ := s_bind hf
        refine s_lz.tr (l_X1_ofLine hh) ?_
        rcases s_ite hf with ⟨-, hf⟩ | ⟨-, hf⟩
        · cases hf
          exact s_le.rf
        · cases hf
          exact s_le.rf
    · cases hf
      exact s_le.rf
  · obtain ⟨q4, hh, hf⟩ := s_bind hf
    refine s_lz.tr (l_X1_premiseOf hh) ?_
    rcases s_ite hf with ⟨-, hf⟩ | ⟨-, hf⟩
    · cases hf
      exact s_le.rf
    · rcases s_ite hf with ⟨-, hf⟩ | ⟨-, hf⟩
      · cases hf
        exact s_le.rf
      · obtain ⟨x5, -, hf⟩ := s_bind hf
        obtain ⟨x6, -, hf⟩ := s_bind hf
        obtain ⟨x7, -, hf⟩ := s_bind hf
        obtain ⟨x8, -, hf⟩ := s_bind hf
        cases hf
        exact s_le.rf
theorem l_X1_standOn_63 {v0 : Nat} {v1 : Int32} {v2 : Int64} {v4 : Int64} {v6 : Int64} {v8 : Int32} {σ : sS} {z : sZ Unit} (hf : T_X1_standOn_63 v0 v1 v2 v4 v6 v8 σ = some z) : s_lz σ z := by
  unfold T_X1_standOn_63 at hf
  cases hf
  exact s_le.rf
theorem l_X1_standOn_121 {v0 : Nat} {v1 : Int32} {v2 : Int64} {v4 : Int64} {v6 : Int64} {v8 : Int32} {σ : sS} {z : sZ Unit} (hf : T_X1_standOn_121 v0 v1 v2 v4 v6 v8 σ = some z) : s_lz σ z := by
  unfold T_X1_standOn_121 at hf
  obtain ⟨x1, -, hf⟩ := s_bind hf
  rcases s_ite hf with ⟨-, hf⟩ | ⟨-, hf⟩
  · cases hf
    exact s_le.rf
  · rcases s_ite hf with ⟨-, hf⟩ | ⟨-, hf⟩
    · cases hf
      exact s_le.rf
    · cases hf
      exact s_le.rf
theorem l_X1_standOn_137 {v0 : Nat} {v1 : Int32} {v2 : Int64} {v6 : Int64} {w0 : Int32} {w1 : Nat} {σ : sS} {z : sZ Unit} (hf : T_X1_standOn_137 v0 v1 v2 v6 w0 w1 σ = some z) : s_lz σ z := by
  unfold T_X1_standOn_137 at hf
  cases hf
  exact s_le.rf
theorem l_X1_standOn_143 {v0 : Nat} {v1 : Int32} {v6 : Int64} {w0 : Int64} {w1 : Int32} {w2 : Nat} {σ : sS} {z : sZ Unit} (hf : T_X1_standOn_143 v0 v1 v6 w0 w1 w2 σ = some z) : s_lz σ z := by
  unfold T_X1_standOn_143 at hf
  obtain ⟨σ1, hh, hf⟩ := s_bind hf
  refine s_lz.tr (s_le2 (s_sl_2 hh)) ?_
  obtain ⟨x2, -, hf⟩ := s_bind hf
  obtain ⟨σ3, hh, hf⟩ := s_bind hf
  refine s_lz.tr (s_le2 (s_sl_2 hh)) ?_
  cases hf
  exact s_le.rf
theorem l_X1_standOn_s {x : sL} {z : sZ Unit} (hs : S_X1_standOn x = some z) : s_lz x.2.2 z := by
  obtain ⟨pc, vs, σ⟩ := x
  unfold S_X1_standOn at hs
  dsimp only at hs ⊢
  rcases s_ite hs with ⟨c, hs⟩ | ⟨-, hs⟩
  · subst c
    unfold U_X1_standOn_0 at hs
    obtain ⟨a0, g0, hs⟩ := s_bind hs
    obtain ⟨a1, g1, hs⟩ := s_bind hs
    obtain ⟨u9, ge, hs⟩ := s_bind hs
    exact l_X1_standOn_0 hs
  rcases s_ite hs with ⟨c, hs⟩ | ⟨-, hs⟩
  · subst c
    unfold U_X1_standOn_13 at hs
    obtain ⟨a0, g0, hs⟩ := s_bind hs
    obtain ⟨a1, g1, hs⟩ := s_bind hs
    obtain ⟨a2, g2, hs⟩ := s_bind hs
    obtain ⟨a3, g3, hs⟩ := s_bind hs
    obtain ⟨a4, g4, hs⟩ := s_bind hs
    obtain ⟨a5, g5, hs⟩ := s_bind hs
    obtain ⟨u9, ge, hs⟩ := s_bind hs
    exact l_X1_standOn_13 hs
  rcases s_ite hs with ⟨c, hs⟩ | ⟨-, hs⟩
  · subst c
    unfold U_X1_standOn_63 at hs
    obtain ⟨a0, g0, hs⟩ := s_bind hs
    obtain ⟨a1, g1, hs⟩ := s_bind hs
    obtain ⟨a2, g2, hs⟩ := s_bind hs
    obtain ⟨a3, g3, hs⟩ := s_bind hs
    obtain ⟨a4, g4, hs⟩ := s_bind hs
    obtain ⟨a5, g5, hs⟩ := s_bind hs
    obtain ⟨u9, ge, hs⟩ := s_bind hs
    exact l_X1_standOn_63 hs
  rcases s_ite hs with ⟨c, hs⟩ | ⟨-, hs⟩
  · subst c
    unfold U_X1_standOn_121 at hs
    obtain ⟨a0, g0, hs⟩ := s_bind hs
    obtain ⟨a1, g1, hs⟩ := s_bind hs
    obtain ⟨a2, g2, hs⟩ := s_bind hs
    obtain ⟨a3, g3, hs⟩ := s_bind hs
    obtain ⟨a4, g4, hs⟩ := s_bind hs
    obtain ⟨a5, g5, hs⟩ := s_bind hs
    obtain ⟨u9, ge, hs⟩ := s_bind hs
    exact l_X1_standOn_121 hs
  rcases s_ite hs with ⟨c, hs⟩ | ⟨-, hs⟩
  · subst c
    unfold U_X1_standOn_137 at hs
    obtain ⟨a0, g0, hs⟩ := s_bind hs
    obtain ⟨a1, g1, hs⟩ := s_bind hs
    obtain ⟨a2, g2, hs⟩ := s_bind hs
    obtain ⟨a3, g3, hs⟩ := s_bind hs
    obtain ⟨a4, g4, hs⟩ := s_bind hs
    obtain ⟨a5, g5, hs⟩ := s_bind hs
    obtain ⟨u9, ge, hs⟩ := s_bind hs
    exact l_X1_standOn_137 hs
  rcases s_ite hs with ⟨c, hs⟩ | ⟨-, hs⟩
  · subst c
    unfold U_X1_standOn_143 at hs
    obtain ⟨a0, g0, hs⟩ := s_bind hs
    obtain ⟨a1, g1, hs⟩ := s_bind hs
    obtain ⟨a2, g2, hs⟩ := s_bind hs
    obtain ⟨a3, g3, hs⟩ := s_bind hs
    obtain ⟨a4, g4, hs⟩ := s_bind hs
    obtain ⟨a5, g5, hs⟩ := s_bind hs
    obtain ⟨u9, ge, hs⟩ := s_bind hs
    exact l_X1_standOn_143 hs
  cases hs
theorem l_X1_standOn {v0 : Nat} {v1 : Int32} {σ : sS} {q : Unit × sS} (h : F_X1_standOn v0 v1 σ = some q) : s_le σ q.2 := by
  unfold F_X1_standOn at h
  obtain ⟨-, -, h⟩ := s_bind h
  exact s_run_ind (V := fun x r => s_le x.2.2 r.2) (fun x z r hs hk => by
    have h9 := l_X1_standOn_s hs
    cases z with
    | inl y => exact s_le.tr h9 hk
    | inr q => cases hk; exact h9) h
theorem b_X1_standOn {v0 : Nat} {v1 : Int32} {σ : sS} {q : Unit × sS} (h : F_X1_standOn v0 v1 σ = some q) : ∃ fs, σ.1 v0 = some (.inr (1, fs)) := by
  unfold F_X1_standOn at h
  obtain ⟨u, hu, -⟩ := s_bind h
  exact s_is_to hu
set_option maxRecDepth 100000 in
set_option maxHeartbeats 4000000 in
theorem v_X1_standOn_0 {G : sG} {d : Nat} {vs0 : List Value} {σ0 : sS} {v0 : Nat} {v1 : Int32} {σ : sS} {z : sZ Unit} {r : Unit × sS} (hf : T_X1_standOn_0 v0 v1 σ = some z) (k : s_K G (d + 3) M_X1_standOn vs0 σ0 Y_X1_standOn e_V z r) : s_V G (d + 3) M_X1_standOn vs0 σ0 Y_X1_standOn (0, [.ref v0, .int v1], σ) (e_V r) := by
  have le0 : s_le σ (e_V r).2 := s_lek hem_V (l_X1_standOn_0 hf) k
  refine ⟨le0, ?_⟩
  intro p e s m below meth c H locs cells slots ls X I hn1 hn2 hl
  have hn : cells + σ0.2.1 ≤ σ.2.1 ∧ slots + σ0.2.2.1 ≤ σ.2.2.1 := ⟨hn1, hn2⟩
  have hl : lv_has ls 10 [(0, .ref v0), (1, .int v1)] := hl
  have hx := X.1
  have hb : c.code = cX1_standOn := X.2.1
  have hown : s.vm.findClass RX1 = some m.cls := X.2.2.2.2.2.1
  have hts := X.2.2.2.2.2.2.1
  refine W.eq (g2 := F0 m 0 ls []) rfl ?_
  unfold T_X1_standOn_0 at hf
  cases hf
  have k : s_V G (d + 3) M_X1_standOn vs0 σ0 Y_X1_standOn (13, [.ref v0, .int v1, .long (1 <<< ((v1 : Int32).toInt64 &&& 63)), .long 0, .long (1 <<< ((v1 : Int32).toInt64 &&& 63)), .int 0], σ) (e_V r) := k
  refine lv_lconst (v := 1) hx hb dX1_standOn_0 (by decide) ?_
  refine lv_iload_n hx hb dX1_standOn_1 rfl (lv_at hl 1 rfl) ?_
  refine lv_lshl hx hb dX1_standOn_2 rfl ?_
  refine lv_lstore_n (lv' := [(2, .long (1 <<< ((v1 : Int32).toInt64 &&& 63))), (0, .ref v0), (1, .int v1)]) hx hb dX1_standOn_3 rfl hl (by decide) rfl (fun ls hl => ?_)
  refine lv_lconst (v := 0) hx hb dX1_standOn_4 (by decide) ?_
  refine lv_lstore (lv' := [(4, .long 0), (2, .long (1 <<< ((v1 : Int32).toInt64 &&& 63))), (0, .ref v0), (1, .int v1)]) hx hb dX1_standOn_5 hl (by decide) rfl (fun ls hl => ?_)
  refine lv_lload_n hx hb dX1_standOn_7 rfl (lv_at hl 1 rfl) ?_
  refine lv_lstore (lv' := [(6, .long (1 <<< ((v1 : Int32).toInt64 &&& 63))), (4, .long 0), (2, .long (1 <<< ((v1 : Int32).toInt64 &&& 63))), (0, .ref v0), (1, .int v1)]) hx hb dX1_standOn_8 hl (by decide) rfl (fun ls hl => ?_)
  refine lv_iconst (v := 0) hx hb dX1_standOn_10 (by decide) ?_
  refine lv_istore (lv' := [(8, .int 0), (6, .long (1 <<< ((v1 : Int32).toInt64 &&& 63))), (4, .long 0), (2, .long (1 <<< ((v1 : Int32).toInt64 &&& 63))), (0, .ref v0), (1, .int v1)]) hx hb dX1_standOn_11 hl (by decide) rfl (fun ls hl => ?_)
  exact k.2 p e s m below meth c _ _ _ _ _ X I hn.1 hn.2 (lv_sub hl [4, 5, 3, 2, 1, 0] rfl)
set_option maxRecDepth 100000 in
set_option maxHeartbeats 4000000 in
theorem v_X1_standOn_13 {G : sG} {d : Nat} {vs0 : List Value} {σ0 : sS} {v0 : Nat} {v1 : Int32} {v2 : Int64} {v4 : Int64} {v6 : Int64} {v8 : Int32} {σ : sS} {z : sZ Unit} {r : Unit × sS} (hf : T_X1_standOn_13 v0 v1 v2 v4 v6 v8 σ = some z) (k : s_K G (d + 3) M_X1_standOn vs0 σ0 Y_X1_standOn e_V z r) : s_V G (d + 3) M_X1_standOn vs0 σ0 Y_X1_standOn (13, [.ref v0, .int v1, .long v2, .long v4, .long v6, .int v8], σ) (e_V r) := by
  have le0 : s_le σ (e_V r).2 := s_lek hem_V (l_X1_standOn_13 hf) k
  refine ⟨le0, ?_⟩
  intro p e s m below meth c H locs cells slots ls X I hn1 hn2 hl
  have hn : cells + σ0.2.1 ≤ σ.2.1 ∧ slots + σ0.2.2.1 ≤ σ.2.2.1 := ⟨hn1, hn2⟩
  have hl : lv_has ls 10 [(0, .ref v0), (1, .int v1), (2, .long v2), (4, .long v4), (6, .long v6), (8, .int v8)] := hl
  have hx := X.1
  have hb : c.code = cX1_standOn := X.2.1
  have hown : s.vm.findClass RX1 = some m.cls := X.2.2.2.2.2.1
  have hts := X.2.2.2.2.2.2.1
  refine W.eq (g2 := F0 m 13 ls []) rfl ?_
  unfold T_X1_standOn_13 at hf
  refine lv_iload hx hb dX1_standOn_13 (lv_at hl 5 rfl) ?_
  refine lv_iconst (v := 3) hx hb dX1_standOn_15 (by decide) ?_
  rcases s_ite hf with ⟨c1, hf⟩ | ⟨c1, hf⟩
  · refine lv_icmp_ge (tgt := 69) hx hb dX1_standOn_16 (by decide) (fun _ => ?_) (fun n => absurd c1 n)
    obtain ⟨q1, h2, hf⟩ := s_bind hf
    obtain ⟨q2, h3, hf⟩ := s_bind hf
    have le4 : s_le q2.2 (e_V r).2 := by
      refine s_lek hem_V ?_ k
      rcases s_ite hf with ⟨-, hf⟩ | ⟨-, hf⟩
      · rcases s_ite hf with ⟨-, hf⟩ | ⟨-, hf⟩
        · cases hf
          exact s_le.rf
        · obtain ⟨q3, hh, hf⟩ := s_bind hf
          refine s_lz.tr (l_X1_ofLine hh) ?_
          rcases s_ite hf with ⟨-, hf⟩ | ⟨-, hf⟩
          · cases hf
            exact s_le.rf
          · cases hf
            exact s_le.rf
      · cases hf
        exact s_le.rf
    have le5 := s_le.tr (l_X1_premiseOf h3) le4
    refine lv_aload_n hx hb dX1_standOn_69 rfl (lv_at hl 0 rfl) ?_
    refine lv_iload_n hx hb dX1_standOn_70 rfl (lv_at hl 1 rfl) ?_
    refine lv_iconst (v := 2) hx hb dX1_standOn_71 (by decide) ?_
    refine r_callV (Y := M_X1_ofLine) (v := some (.int q1.1)) X I w_529 my_X1_ofLine (by omega) (t_X1_ofLine (G := G) (d := d + 1) h2) (b_X1_ofLine h2) rfl rfl hl.1 rfl (Nat.le_of_ble_eq_true rfl) hn le5 dX1_standOn_72 (fun H locs cells slots I hn1 hn2 => ?_)
    have I : s_I G q1.2 s H locs := I
    have hn : cells + σ0.2.1 ≤ q1.2.2.1 ∧ slots + σ0.2.2.1 ≤ q1.2.2.2.1 := ⟨hn1, hn2⟩
    refine lv_istore (lv' := [(8, .int q1.1), (0, .ref v0), (1, .int v1), (2, .long v2), (4, .long v4), (6, .long v6)]) hx hb dX1_standOn_75 hl (by decide) rfl (fun ls hl => ?_)
    refine lv_aload_n hx hb dX1_standOn_77 rfl (lv_at hl 1 rfl) ?_
    refine lv_iload_n hx hb dX1_standOn_78 rfl (lv_at hl 2 rfl) ?_
    refine lv_iconst (v := 0) hx hb dX1_standOn_79 (by decide) ?_
    refine r_callV (Y := M_X1_premiseOf) (v := some (.int q2.1)) X I w_1156 my_X1_premiseOf (by omega) (t_X1_premiseOf (G := G) (d := d + 0) h3) (b_X1_premiseOf h3) rfl rfl hl.1 rfl (Nat.le_of_ble_eq_true rfl) hn le4 dX1_standOn_80 (fun H locs cells slots I hn1 hn2 => ?_)
    have I : s_I G q2.2 s H locs := I
    have hn : cells + σ0.2.1 ≤ q2.2.2.1 ∧ slots + σ0.2.2.1 ≤ q2.2.2.2.1 := ⟨hn1, hn2⟩
    refine lv_istore (lv' := [(9, .int q2.1), (8, .int q1.1), (0, .ref v0), (1, .int v1), (2, .long v2), (4, .long v4), (6, .long v6)]) hx hb dX1_standOn_83 hl (by decide) rfl (fun ls hl => ?_)
    refine lv_iload hx hb dX1_standOn_85 (lv_at hl 1 rfl) ?_
    refine lv_bipush (v := 10) hx hb dX1_standOn_87 (by decide) ?_
    rcases s_ite hf with ⟨c6, hf⟩ | ⟨c6, hf⟩
    · refine lv_icmp_ne (tgt := 121) hx hb dX1_standOn_89 (by decide) (fun n => absurd c6 n) (fun _ => ?_)
      refine lv_iload hx hb dX1_standOn_92 (lv_at hl 0 rfl) ?_
      rcases s_ite hf with ⟨c7, hf⟩ | ⟨c7, hf⟩
      · refine lv_if_lt (tgt := 121) hx hb dX1_standOn_94 (by decide) (fun _ => ?_) (fun n => absurd c7 n)
        cases hf
        have k : s_V G (d + 3) M_X1_standOn vs0 σ0 Y_X1_standOn (121, [.ref v0, .int v1, .long v2, .long v4, .long v6, .int q1.1], q2.2) (e_V r) := k
        exact k.2 p e s m below meth c _ _ _ _ _ X I hn.1 hn.2 (lv_sub hl [2, 3, 4, 5, 6, 1] rfl)
      · refine lv_if_lt (tgt := 121) hx hb dX1_standOn_94 (by decide) (fun n => absurd n c7) (fun _ => ?_)
        obtain ⟨q3, h8, hf⟩ := s_bind hf
        have le9 : s_le q3.2 (e_V r).2 := by
          refine s_lek hem_V ?_ k
          rcases s_ite hf with ⟨-, hf⟩ | ⟨-, hf⟩
          · cases hf
            exact s_le.rf
          · cases hf
            exact s_le.rf
        refine lv_aload_n hx hb dX1_standOn_97 rfl (lv_at hl 2 rfl) ?_
        refine lv_iload hx hb dX1_standOn_98 (lv_at hl 0 rfl) ?_
        refine lv_iconst (v := 2) hx hb dX1_standOn_100 (by decide) ?_
        refine r_callV (Y := M_X1_ofLine) (v := some (.int q3.1)) X I w_529 my_X1_ofLine (by omega) (t_X1_ofLine (G := G) (d := d + 1) h8) (b_X1_ofLine h8) rfl rfl hl.1 rfl (Nat.le_of_ble_eq_true rfl) hn le9 dX1_standOn_101 (fun H locs cells slots I hn1 hn2 => ?_)
        have I : s_I G q3.2 s H locs := I
        have hn : cells + σ0.2.1 ≤ q3.2.2.1 ∧ slots + σ0.2.2.1 ≤ q3.2.2.2.1 := ⟨hn1, hn2⟩
        refine lv_iconst (v := 1) hx hb dX1_standOn_104 (by decide) ?_
        rcases s_ite hf with ⟨c10, hf⟩ | ⟨c10, hf⟩
        · refine lv_icmp_ne (tgt := 121) hx hb dX1_standOn_105 (by decide) (fun n => absurd c10 n) (fun _ => ?_)
          cases hf
          have k : s_V G (d + 3) M_X1_standOn vs0 σ0 Y_X1_standOn (121, [.ref v0, .int v1, .long v2, .long (v4 &&& ((1 <<< ((q2.1 : Int32).toInt64 &&& 63)) ^^^ (-1))), .long v6, .int q1.1], q3.2) (e_V r) := k
          refine lv_lload hx hb dX1_standOn_108 (lv_at hl 5 rfl) ?_
          refine lv_lconst (v := 1) hx hb dX1_standOn_110 (by decide) ?_
          refine lv_iload hx hb dX1_standOn_111 (lv_at hl 0 rfl) ?_
          refine lv_lshl hx hb dX1_standOn_113 rfl ?_
          refine lv_ldc2 (own := RX1) hx hb hown (hts _ w_1157) dX1_standOn_114 ?_
          refine lv_lxor hx hb dX1_standOn_117 ?_
          refine lv_land hx hb dX1_standOn_118 ?_
          refine lv_lstore (lv' := [(4, .long (v4 &&& ((1 <<< ((q2.1 : Int32).toInt64 &&& 63)) ^^^ (-1)))), (9, .int q2.1), (8, .int q1.1), (0, .ref v0), (1, .int v1), (2, .long v2), (6, .long v6)]) hx hb dX1_standOn_119 hl (by decide) rfl (fun ls hl => ?_)
          exact k.2 p e s m below meth c _ _ _ _ _ X I hn.1 hn.2 (lv_sub hl [3, 4, 5, 0, 6, 2] rfl)
        · refine lv_icmp_ne (tgt := 121) hx hb dX1_standOn_105 (by decide) (fun _ => ?_) (fun n => absurd n c10)
          cases hf
          have k : s_V G (d + 3) M_X1_standOn vs0 σ0 Y_X1_standOn (121, [.ref v0, .int v1, .long v2, .long v4, .long v6, .int q1.1], q3.2) (e_V r) := k
          exact k.2 p e s m below meth c _ _ _ _ _ X I hn.1 hn.2 (lv_sub hl [2, 3, 4, 5, 6, 1] rfl)
    · refine lv_icmp_ne (tgt := 121) hx hb dX1_standOn_89 (by decide) (fun _ => ?_) (fun n => absurd n c6)
      cases hf
      have k : s_V G (d + 3) M_X1_standOn vs0 σ0 Y_X1_standOn (121, [.ref v0, .int v1, .long v2, .long v4, .long v6, .int q1.1], q2.2) (e_V r) := k
      exact k.2 p e s m below meth c _ _ _ _ _ X I hn.1 hn.2 (lv_sub hl [2, 3, 4, 5, 6, 1] rfl)
  · refine lv_icmp_ge (tgt := 69) hx hb dX1_standOn_16 (by decide) (fun n => absurd n c1) (fun _ => ?_)
    obtain ⟨q4, h11, hf⟩ := s_bind hf
    have le12 : s_le q4.2 (e_V r).2 := by
      refine s_lek hem_V ?_ k
      rcases s_ite hf with ⟨-, hf⟩ | ⟨-, hf⟩
      · cases hf
        exact s_le.rf
      · rcases s_ite hf with ⟨-, hf⟩ | ⟨-, hf⟩
        · cases hf
          exact s_le.rf
        · obtain ⟨x5, -, hf⟩ := s_bind hf
          obtain ⟨x6, -, hf⟩ := s_bind hf
          obtain ⟨x7, -, hf⟩ := s_bind hf
          obtain ⟨x8, -, hf⟩ := s_bind hf
          cases hf
          exact s_le.rf
    refine lv_aload_n hx hb dX1_standOn_19 rfl (lv_at hl 0 rfl) ?_
    refine lv_iload_n hx hb dX1_standOn_20 rfl (lv_at hl 1 rfl) ?_
    refine lv_iload hx hb dX1_standOn_21 (lv_at hl 5 rfl) ?_
    refine r_callV (Y := M_X1_premiseOf) (v := some (.int q4.1)) X I w_1156 my_X1_premiseOf (by omega) (t_X1_premiseOf (G := G) (d := d + 0) h11) (b_X1_premiseOf h11) rfl rfl hl.1 rfl (Nat.le_of_ble_eq_true rfl) hn le12 dX1_standOn_23 (fun H locs cells slots I hn1 hn2 => ?_)
    have I : s_I G q4.2 s H locs := I
    have hn : cells + σ0.2.1 ≤ q4.2.2.1 ∧ slots + σ0.2.2.1 ≤ q4.2.2.2.1 := ⟨hn1, hn2⟩
    refine lv_istore (lv' := [(9, .int q4.1), (0, .ref v0), (1, .int v1), (2, .long v2), (4, .long v4), (6, .long v6), (8, .int v8)]) hx hb dX1_standOn_26 hl (by decide) rfl (fun ls hl => ?_)
    refine lv_iload hx hb dX1_standOn_28 (lv_at hl 0 rfl) ?_
    rcases s_ite hf with ⟨c13, hf⟩ | ⟨c13, hf⟩
    · refine lv_if_lt (tgt := 63) hx hb dX1_standOn_30 (by decide) (fun _ => ?_) (fun n => absurd c13 n)
      cases hf
      have k : s_V G (d + 3) M_X1_standOn vs0 σ0 Y_X1_standOn (63, [.ref v0, .int v1, .long v2, .long v4, .long v6, .int v8], q4.2) (e_V r) := k
      exact k.2 p e s m below meth c _ _ _ _ _ X I hn.1 hn.2 (lv_sub hl [1, 2, 3, 4, 5, 6] rfl)
    · refine lv_if_lt (tgt := 63) hx hb dX1_standOn_30 (by decide) (fun n => absurd n c13) (fun _ => ?_)
      refine lv_iload hx hb dX1_standOn_33 (lv_at hl 0 rfl) ?_
      refine lv_iload_n hx hb dX1_standOn_35 rfl (lv_at hl 2 rfl) ?_
      rcases s_ite hf with ⟨c14, hf⟩ | ⟨c14, hf⟩
      · refine lv_icmp_ge (tgt := 63) hx hb dX1_standOn_36 (by decide) (fun _ => ?_) (fun n => absurd c14 n)
        cases hf
        have k : s_V G (d + 3) M_X1_standOn vs0 σ0 Y_X1_standOn (63, [.ref v0, .int v1, .long v2, .long v4, .long v6, .int v8], q4.2) (e_V r) := k
        exact k.2 p e s m below meth c _ _ _ _ _ X I hn.1 hn.2 (lv_sub hl [1, 2, 3, 4, 5, 6] rfl)
      · refine lv_icmp_ge (tgt := 63) hx hb dX1_standOn_36 (by decide) (fun n => absurd n c14) (fun _ => ?_)
        obtain ⟨x5, h15, hf⟩ := s_bind hf
        obtain ⟨x6, h16, hf⟩ := s_bind hf
        obtain ⟨x7, h17, hf⟩ := s_bind hf
        obtain ⟨x8, h18, hf⟩ := s_bind hf
        cases hf
        have k : s_V G (d + 3) M_X1_standOn vs0 σ0 Y_X1_standOn (63, [.ref v0, .int v1, .long v2, .long (v4 ||| x6), .long (v6 ||| x8), .int v8], q4.2) (e_V r) := k
        refine lv_lload hx hb dX1_standOn_39 (lv_at hl 4 rfl) ?_
        refine lv_aload_n hx hb dX1_standOn_41 rfl (lv_at hl 1 rfl) ?_
        refine r_gr X I fl_X1_26 h15 dX1_standOn_42 ?_
        refine lv_iload hx hb dX1_standOn_45 (lv_at hl 0 rfl) ?_
        refine r_lald X I h16 dX1_standOn_47 ?_
        refine lv_lor hx hb dX1_standOn_48 ?_
        refine lv_lstore (lv' := [(4, .long (v4 ||| x6)), (9, .int q4.1), (0, .ref v0), (1, .int v1), (2, .long v2), (6, .long v6), (8, .int v8)]) hx hb dX1_standOn_49 hl (by decide) rfl (fun ls hl => ?_)
        refine lv_lload hx hb dX1_standOn_51 (lv_at hl 5 rfl) ?_
        refine lv_aload_n hx hb dX1_standOn_53 rfl (lv_at hl 2 rfl) ?_
        refine r_gr X I fl_X1_29 h17 dX1_standOn_54 ?_
        refine lv_iload hx hb dX1_standOn_57 (lv_at hl 1 rfl) ?_
        refine r_lald X I h18 dX1_standOn_59 ?_
        refine lv_lor hx hb dX1_standOn_60 ?_
        refine lv_lstore (lv' := [(6, .long (v6 ||| x8)), (4, .long (v4 ||| x6)), (9, .int q4.1), (0, .ref v0), (1, .int v1), (2, .long v2), (8, .int v8)]) hx hb dX1_standOn_61 hl (by decide) rfl (fun ls hl => ?_)
        exact k.2 p e s m below meth c _ _ _ _ _ X I hn.1 hn.2 (lv_sub hl [3, 4, 5, 1, 0, 6] rfl)
set_option maxRecDepth 100000 in
set_option maxHeartbeats 4000000 in
theorem v_X1_standOn_63 {G : sG} {d : Nat} {vs0 : List Value} {σ0 : sS} {v0 : Nat} {v1 : Int32} {v2 : Int64} {v4 : Int64} {v6 : Int64} {v8 : Int32} {σ : sS} {z : sZ Unit} {r : Unit × sS} (hf : T_X1_standOn_63 v0 v1 v2 v4 v6 v8 σ = some z) (k : s_K G (d + 3) M_X1_standOn vs0 σ0 Y_X1_standOn e_V z r) : s_V G (d + 3) M_X1_standOn vs0 σ0 Y_X1_standOn (63, [.ref v0, .int v1, .long v2, .long v4, .long v6, .int v8], σ) (e_V r) := by
  have le0 : s_le σ (e_V r).2 := s_lek hem_V (l_X1_standOn_63 hf) k
  refine ⟨le0, ?_⟩
  intro p e s m below meth c H locs cells slots ls X I hn1 hn2 hl
  have hn : cells + σ0.2.1 ≤ σ.2.1 ∧ slots + σ0.2.2.1 ≤ σ.2.2.1 := ⟨hn1, hn2⟩
  have hl : lv_has ls 10 [(0, .ref v0), (1, .int v1), (2, .long v2), (4, .long v4), (6, .long v6), (8, .int v8)] := hl
  have hx := X.1
  have hb : c.code = cX1_standOn := X.2.1
  have hown : s.vm.findClass RX1 = some m.cls := X.2.2.2.2.2.1
  have hts := X.2.2.2.2.2.2.1
  refine W.eq (g2 := F0 m 63 ls []) rfl ?_
  unfold T_X1_standOn_63 at hf
  cases hf
  have k : s_V G (d + 3) M_X1_standOn vs0 σ0 Y_X1_standOn (13, [.ref v0, .int v1, .long v2, .long v4, .long v6, .int (v8 + 1)], σ) (e_V r) := k
  refine lv_iinc (v := (v8 + 1)) (lv' := [(8, .int (v8 + 1)), (0, .ref v0), (1, .int v1), (2, .long v2), (4, .long v4), (6, .long v6)]) hx hb dX1_standOn_63 hl (k := 5) rfl rfl (by decide) rfl (fun ls hl => ?_)
  refine lv_goto (tgt := 13) hx hb dX1_standOn_66 (by decide) ?_
  exact k.2 p e s m below meth c _ _ _ _ _ X I hn.1 hn.2 (lv_sub hl [1, 2, 3, 4, 5, 0] rfl)
set_option maxRecDepth 100000 in
set_option maxHeartbeats 4000000 in
theorem v_X1_standOn_121 {G : sG} {d : Nat} {vs0 : List Value} {σ0 : sS} {v0 : Nat} {v1 : Int32} {v2 : Int64} {v4 : Int64} {v6 : Int64} {v8 : Int32} {σ : sS} {z : sZ Unit} {r : Unit × sS} (hf : T_X1_standOn_121 v0 v1 v2 v4 v6 v8 σ = some z) (k : s_K G (d + 3) M_X1_standOn vs0 σ0 Y_X1_standOn e_V z r) : s_V G (d + 3) M_X1_standOn vs0 σ0 Y_X1_standOn (121, [.ref v0, .int v1, .long v2, .long v4, .long v6, .int v8], σ) (e_V r) := by
  have le0 : s_le σ (e_V r).2 := s_lek hem_V (l_X1_standOn_121 hf) k
  refine ⟨le0, ?_⟩
  intro p e s m below meth c H locs cells slots ls X I hn1 hn2 hl
  have hn : cells + σ0.2.1 ≤ σ.2.1 ∧ slots + σ0.2.2.1 ≤ σ.2.2.1 := ⟨hn1, hn2⟩
  have hl : lv_has ls 10 [(0, .ref v0), (1, .int v1), (2, .long v2), (4, .long v4), (6, .long v6), (8, .int v8)] := hl
  have hx := X.1
  have hb : c.code = cX1_standOn := X.2.1
  have hown : s.vm.findClass RX1 = some m.cls := X.2.2.2.2.2.1
  have hts := X.2.2.2.2.2.2.1
  refine W.eq (g2 := F0 m 121 ls []) rfl ?_
  unfold T_X1_standOn_121 at hf
  obtain ⟨x1, h1, hf⟩ := s_bind hf
  refine lv_aload_n hx hb dX1_standOn_121 rfl (lv_at hl 0 rfl) ?_
  refine r_gr X I fl_X1_26 h1 dX1_standOn_122 ?_
  refine lv_iload_n hx hb dX1_standOn_125 rfl (lv_at hl 1 rfl) ?_
  refine lv_iload hx hb dX1_standOn_126 (lv_at hl 5 rfl) ?_
  rcases s_ite hf with ⟨c2, hf⟩ | ⟨c2, hf⟩
  · refine lv_if_eq (tgt := 137) hx hb dX1_standOn_128 (by decide) (fun _ => ?_) (fun n => absurd c2 n)
    cases hf
    have k : s_V G (d + 3) M_X1_standOn vs0 σ0 Y_X1_standOn (137, [.ref v0, .int v1, .long v2, .long v6, .int v1, .ref x1], σ) (e_V r) := k
    exact k.2 p e s m below meth c _ _ _ _ _ X I hn.1 hn.2 (lv_sub hl [0, 1, 2, 4] rfl)
  · refine lv_if_eq (tgt := 137) hx hb dX1_standOn_128 (by decide) (fun n => absurd n c2) (fun _ => ?_)
    refine lv_iload hx hb dX1_standOn_131 (lv_at hl 5 rfl) ?_
    refine lv_iconst (v := 1) hx hb dX1_standOn_133 (by decide) ?_
    rcases s_ite hf with ⟨c3, hf⟩ | ⟨c3, hf⟩
    · refine lv_icmp_ne (tgt := 141) hx hb dX1_standOn_134 (by decide) (fun n => absurd c3 n) (fun _ => ?_)
      cases hf
      have k : s_V G (d + 3) M_X1_standOn vs0 σ0 Y_X1_standOn (137, [.ref v0, .int v1, .long v2, .long v6, .int v1, .ref x1], σ) (e_V r) := k
      exact k.2 p e s m below meth c _ _ _ _ _ X I hn.1 hn.2 (lv_sub hl [0, 1, 2, 4] rfl)
    · refine lv_icmp_ne (tgt := 141) hx hb dX1_standOn_134 (by decide) (fun _ => ?_) (fun n => absurd n c3)
      cases hf
      have k : s_V G (d + 3) M_X1_standOn vs0 σ0 Y_X1_standOn (143, [.ref v0, .int v1, .long v6, .long v4, .int v1, .ref x1], σ) (e_V r) := k
      refine lv_lload hx hb dX1_standOn_141 (lv_at hl 3 rfl) ?_
      exact k.2 p e s m below meth c _ _ _ _ _ X I hn.1 hn.2 (lv_sub hl [0, 1, 4] rfl)
set_option maxRecDepth 100000 in
set_option maxHeartbeats 4000000 in
theorem v_X1_standOn_137 {G : sG} {d : Nat} {vs0 : List Value} {σ0 : sS} {v0 : Nat} {v1 : Int32} {v2 : Int64} {v6 : Int64} {w0 : Int32} {w1 : Nat} {σ : sS} {z : sZ Unit} {r : Unit × sS} (hf : T_X1_standOn_137 v0 v1 v2 v6 w0 w1 σ = some z) (k : s_K G (d + 3) M_X1_standOn vs0 σ0 Y_X1_standOn e_V z r) : s_V G (d + 3) M_X1_standOn vs0 σ0 Y_X1_standOn (137, [.ref v0, .int v1, .long v2, .long v6, .int w0, .ref w1], σ) (e_V r) := by
  have le0 : s_le σ (e_V r).2 := s_lek hem_V (l_X1_standOn_137 hf) k
  refine ⟨le0, ?_⟩
  intro p e s m below meth c H locs cells slots ls X I hn1 hn2 hl
  have hn : cells + σ0.2.1 ≤ σ.2.1 ∧ slots + σ0.2.2.1 ≤ σ.2.2.1 := ⟨hn1, hn2⟩
  have hl : lv_has ls 10 [(0, .ref v0), (1, .int v1), (2, .long v2), (6, .long v6)] := hl
  have hx := X.1
  have hb : c.code = cX1_standOn := X.2.1
  have hown : s.vm.findClass RX1 = some m.cls := X.2.2.2.2.2.1
  have hts := X.2.2.2.2.2.2.1
  refine W.eq (g2 := F0 m 137 ls [.int w0, .ref w1]) rfl ?_
  unfold T_X1_standOn_137 at hf
  cases hf
  have k : s_V G (d + 3) M_X1_standOn vs0 σ0 Y_X1_standOn (143, [.ref v0, .int v1, .long v6, .long v2, .int w0, .ref w1], σ) (e_V r) := k
  refine lv_lload_n hx hb dX1_standOn_137 rfl (lv_at hl 2 rfl) ?_
  refine lv_goto (tgt := 143) hx hb dX1_standOn_138 (by decide) ?_
  exact k.2 p e s m below meth c _ _ _ _ _ X I hn.1 hn.2 (lv_sub hl [0, 1, 3] rfl)
set_option maxRecDepth 100000 in
set_option maxHeartbeats 4000000 in
theorem v_X1_standOn_143 {G : sG} {d : Nat} {vs0 : List Value} {σ0 : sS} {v0 : Nat} {v1 : Int32} {v6 : Int64} {w0 : Int64} {w1 : Int32} {w2 : Nat} {σ : sS} {z : sZ Unit} {r : Unit × sS} (hf : T_X1_standOn_143 v0 v1 v6 w0 w1 w2 σ = some z) (k : s_K G (d + 3) M_X1_standOn vs0 σ0 Y_X1_standOn e_V z r) : s_V G (d + 3) M_X1_standOn vs0 σ0 Y_X1_standOn (143, [.ref v0, .int v1, .long v6, .long w0, .int w1, .ref w2], σ) (e_V r) := by
  have le0 : s_le σ (e_V r).2 := s_lek hem_V (l_X1_standOn_143 hf) k
  refine ⟨le0, ?_⟩
  intro p e s m below meth c H locs cells slots ls X I hn1 hn2 hl
  have hn : cells + σ0.2.1 ≤ σ.2.1 ∧ slots + σ0.2.2.1 ≤ σ.2.2.1 := ⟨hn1, hn2⟩
  have hl : lv_has ls 10 [(0, .ref v0), (1, .int v1), (6, .long v6)] := hl
  have hx := X.1
  have hb : c.code = cX1_standOn := X.2.1
  have hown : s.vm.findClass RX1 = some m.cls := X.2.2.2.2.2.1
  have hts := X.2.2.2.2.2.2.1
  refine W.eq (g2 := F0 m 143 ls [.long w0, .int w1, .ref w2]) rfl ?_
  unfold T_X1_standOn_143 at hf
  obtain ⟨σ1, h1, hf⟩ := s_bind hf
  obtain ⟨x2, h2, hf⟩ := s_bind hf
  obtain ⟨σ3, h3, hf⟩ := s_bind hf
  cases hf
  have k : _ = r := k
  subst k
  have le4 : s_le σ3 σ3 := s_le.rf
  have le5 := s_le.tr (s_le2 (s_sl_2 h3)) le4
  refine r_last X I h1 dX1_standOn_143 (fun H locs I => ?_)
  have hn := s_k2 (s_sl_2 h1) hn
  refine lv_aload_n hx hb dX1_standOn_144 rfl (lv_at hl 0 rfl) ?_
  refine r_gr X I fl_X1_29 h2 dX1_standOn_145 ?_
  refine lv_iload_n hx hb dX1_standOn_148 rfl (lv_at hl 1 rfl) ?_
  refine lv_lload hx hb dX1_standOn_149 (lv_at hl 2 rfl) ?_
  refine r_last X I h3 dX1_standOn_151 (fun H locs I => ?_)
  have hn := s_k2 (s_sl_2 h3) hn
  exact r_vret X I rfl rfl hn dX1_standOn_152
theorem v_X1_standOn {G : sG} {d : Nat} {vs0 : List Value} {σ0 : sS} {x : sL} {z : sZ Unit} {r : Unit × sS} (hs : S_X1_standOn x = some z) (k : s_K G (d + 3) M_X1_standOn vs0 σ0 Y_X1_standOn e_V z r) : s_V G (d + 3) M_X1_standOn vs0 σ0 Y_X1_standOn x (e_V r) := by
  obtain ⟨pc, vs, σ⟩ := x
  unfold S_X1_standOn at hs
  dsimp only at hs
  rcases s_ite hs with ⟨c, hs⟩ | ⟨-, hs⟩
  · subst c
    unfold U_X1_standOn_0 at hs
    obtain ⟨a0, g0, hs⟩ := s_bind hs
    obtain ⟨a1, g1, hs⟩ := s_bind hs
    obtain ⟨u9, ge, hs⟩ := s_bind hs
    rw [g_r_to g0, g_i_to g1, g_e_to ge]
    exact v_X1_standOn_0 hs k
  rcases s_ite hs with ⟨c, hs⟩ | ⟨-, hs⟩
  · subst c
    unfold U_X1_standOn_13 at hs
    obtain ⟨a0, g0, hs⟩ := s_bind hs
    obtain ⟨a1, g1, hs⟩ := s_bind hs
    obtain ⟨a2, g2, hs⟩ := s_bind hs
    obtain ⟨a3, g3, hs⟩ := s_bind hs
    obtain ⟨a4, g4, hs⟩ := s_bind hs
    obtain ⟨a5, g5, hs⟩ := s_bind hs
    obtain ⟨u9, ge, hs⟩ := s_bind hs
    rw [g_r_to g0, g_i_to g1, g_l_to g2, g_l_to g3, g_l_to g4, g_i_to g5, g_e_to ge]
    exact v_X1_standOn_13 hs k
  rcases s_ite hs with ⟨c, hs⟩ | ⟨-, hs⟩
  · subst c
    unfold U_X1_standOn_63 at hs
    obtain ⟨a0, g0, hs⟩ := s_bind hs
    obtain ⟨a1, g1, hs⟩ := s_bind hs
    obtain ⟨a2, g2, hs⟩ := s_bind hs
    obtain ⟨a3, g3, hs⟩ := s_bind hs
    obtain ⟨a4, g4, hs⟩ := s_bind hs
    obtain ⟨a5, g5, hs⟩ := s_bind hs
    obtain ⟨u9, ge, hs⟩ := s_bind hs
    rw [g_r_to g0, g_i_to g1, g_l_to g2, g_l_to g3, g_l_to g4, g_i_to g5, g_e_to ge]
    exact v_X1_standOn_63 hs k
  rcases s_ite hs with ⟨c, hs⟩ | ⟨-, hs⟩
  · subst c
    unfold U_X1_standOn_121 at hs
    obtain ⟨a0, g0, hs⟩ := s_bind hs
    obtain ⟨a1, g1, hs⟩ := s_bind hs
    obtain ⟨a2, g2, hs⟩ := s_bind hs
    obtain ⟨a3, g3, hs⟩ := s_bind hs
    obtain ⟨a4, g4, hs⟩ := s_bind hs
    obtain ⟨a5, g5, hs⟩ := s_bind hs
    obtain ⟨u9, ge, hs⟩ := s_bind hs
    rw [g_r_to g0, g_i_to g1, g_l_to g2, g_l_to g3, g_l_to g4, g_i_to g5, g_e_to ge]
    exact v_X1_standOn_121 hs k
  rcases s_ite hs with ⟨c, hs⟩ | ⟨-, hs⟩
  · subst c
    unfold U_X1_standOn_137 at hs
    obtain ⟨a0, g0, hs⟩ := s_bind hs
    obtain ⟨a1, g1, hs⟩ := s_bind hs
    obtain ⟨a2, g2, hs⟩ := s_bind hs
    obtain ⟨a3, g3, hs⟩ := s_bind hs
    obtain ⟨a4, g4, hs⟩ := s_bind hs
    obtain ⟨a5, g5, hs⟩ := s_bind hs
    obtain ⟨u9, ge, hs⟩ := s_bind hs
    rw [g_r_to g0, g_i_to g1, g_l_to g2, g_l_to g3, g_i_to g4, g_r_to g5, g_e_to ge]
    exact v_X1_standOn_137 hs k
  rcases s_ite hs with ⟨c, hs⟩ | ⟨-, hs⟩
  · subst c
    unfold U_X1_standOn_143 at hs
    obtain ⟨a0, g0, hs⟩ := s_bind hs
    obtain ⟨a1, g1, hs⟩ := s_bind hs
    obtain ⟨a2, g2, hs⟩ := s_bind hs
    obtain ⟨a3, g3, hs⟩ := s_bind hs
    obtain ⟨a4, g4, hs⟩ := s_bind hs
    obtain ⟨a5, g5, hs⟩ := s_bind hs
    obtain ⟨u9, ge, hs⟩ := s_bind hs
    rw [g_r_to g0, g_i_to g1, g_l_to g2, g_l_to g3, g_i_to g4, g_r_to g5, g_e_to ge]
    exact v_X1_standOn_143 hs k
  cases hs
theorem t_X1_standOn {G : sG} {d : Nat} {v0 : Nat} {v1 : Int32} {σ : sS} {q : Unit × sS} (h : F_X1_standOn v0 v1 σ = some q) : s_T G (d + 3) M_X1_standOn [.ref v0, .int v1] σ (e_V q) := by
  unfold F_X1_standOn at h
  obtain ⟨-, -, h⟩ := s_bind h
  exact s_ofV rfl (by decide) (Nat.le_of_ble_eq_true rfl) rfl rfl (s_run_ind (V := fun x r => s_V G (d + 3) M_X1_standOn [.ref v0, .int v1] σ Y_X1_standOn x (e_V r)) (fun x z r hs hk => v_X1_standOn hs (by cases z <;> exact hk)) h)
/-! X1_addLine -/
noncomputable def T_X1_addLine_0 (v0 : Nat) (v1 : Int32) (v2 : Int32) (v3 : Int32) (v4 : Int32) (v5 : Int32) (v6 : Int32) (σ : sS) : Option (sZ Int32) :=
  (s_fi σ v0 1 6).bind fun x1 =>
  if x1 < 40 then ((s_fi σ v0 1 6).bind fun x2 =>
  (s_fr σ v0 1 13).bind fun x3 =>
  (s_si σ x3 ((x2 * 6) + 0) v1).bind fun σ4 =>
  (s_fr σ4 v0 1 13).bind fun x5 =>
  (s_si σ4 x5 ((x2 * 6) + 1) v2).bind fun σ6 =>
  (s_fr σ6 v0 1 13).bind fun x7 =>
  (s_si σ6 x7 ((x2 * 6) + 2) v3).bind fun σ8 =>
  (s_fr σ8 v0 1 13).bind fun x9 =>
  (s_si σ8 x9 ((x2 * 6) + 3) v4).bind fun σ10 =>
  (s_fr σ10 v0 1 13).bind fun x11 =>
  (s_si σ10 x11 (((x2 * 6) + 3) + 1) v5).bind fun σ12 =>
  (s_fr σ12 v0 1 13).bind fun x13 =>
  (s_si σ12 x13 (((x2 * 6) + 3) + 2) v6).bind fun σ14 =>
  (s_fi σ14 v0 1 6).bind fun x15 =>
  (s_pf σ14 v0 1 6 (.int (x15 + 1))).bind fun σ16 =>
  (s_fi σ16 v0 1 6).bind fun x17 =>
  (F_X1_standOn v0 (x17 - 1) σ16).bind fun q18 =>
  (s_fi q18.2 v0 1 6).bind fun x19 =>
  some (.inr ((x19 - 1), q18.2)))
  else (some (.inr ((-1), σ)))
noncomputable def U_X1_addLine_0 (vs : List Value) (σ : sS) : Option (sZ Int32) := (g_r vs).bind fun a0 => (g_i a0.2).bind fun a1 => (g_i a1.2).bind fun a2 => (g_i a2.2).bind fun a3 => (g_i a3.2).bind fun a4 => (g_i a4.2).bind fun a5 => (g_i a5.2).bind fun a6 => (g_e a6.2).bind fun _ => T_X1_addLine_0 a0.1 a1.1 a2.1 a3.1 a4.1 a5.1 a6.1 σ
noncomputable def S_X1_addLine (x : sL) : Option (sZ Int32) := if x.1 = 0 then U_X1_addLine_0 x.2.1 x.2.2 else none
def Y_X1_addLine (pc : Nat) : List Nat := if pc = 0 then [0, 1, 2, 3, 4, 5, 6] else []
noncomputable def F_X1_addLine (v0 : Nat) (v1 : Int32) (v2 : Int32) (v3 : Int32) (v4 : Int32) (v5 : Int32) (v6 : Int32) (σ : sS) : Option (Int32 × sS) := (s_is σ v0 1).bind fun _ => s_run S_X1_addLine (0, [.ref v0, .int v1, .int v2, .int v3, .int v4, .int v5, .int v6], σ)
theorem l_X1_addLine_0 {v0 : Nat} {v1 : Int32} {v2 : Int32} {v3 : Int32} {v4 : Int32} {v5 : Int32} {v6 : Int32} {σ : sS} {z : sZ Int32} (hf : T_X1_addLine_0 v0 v1 v2 v3 v4 v5 v6 σ = some z) : s_lz σ z := by
  unfold T_X1_addLine_0 at hf
  obtain ⟨x1, -, hf⟩ := s_bind hf
  rcases s_ite hf with ⟨-, hf⟩ | ⟨-, hf⟩
  · obtain ⟨x2, -, hf⟩ := s_bind hf
    obtain ⟨x3, -, hf⟩ := s_bind hf
    obtain ⟨σ4, hh, hf⟩ := s_bind hf
    refine s_lz.tr (s_le2 (s_si_2 hh)) ?_
    obtain ⟨x5, -, hf⟩ := s_bind hf
    obtain ⟨σ6, hh, hf⟩ := s_bind hf
    refine s_lz.tr (s_le2 (s_si_2 hh)) ?_
    obtain ⟨x7, -, hf⟩ := s_bind hf
    obtain ⟨σ8, hh, hf⟩ := s_bind hf
    refine s_lz.tr (s_le2 (s_si_2 hh)) ?_
    obtain ⟨x9, -, hf⟩ := s_bind hf
    obtain ⟨σ10, hh, hf⟩ := s_bind hf
    refine s_lz.tr (s_le2 (s_si_2 hh)) ?_
    obtain ⟨x11, -, hf⟩ := s_bind hf
    obtain ⟨σ12, hh, hf⟩ := s_bind hf
    refine s_lz.tr (s_le2 (s_si_2 hh)) ?_
    obtain ⟨x13, -, hf⟩ := s_bind hf
    obtain ⟨σ14, hh, hf⟩ := s_bind hf
    refine s_lz.tr (s_le2 (s_si_2 hh)) ?_
    obtain ⟨x15, -, hf⟩ := s_bind hf
    obtain ⟨σ16, hh, hf⟩ := s_bind hf
    refine s_lz.tr (s_le2 (s_pf_2 hh)) ?_
    obtain ⟨x17, -, hf⟩ := s_bind hf
    obtain ⟨q18, hh, hf⟩ := s_bind hf
    refine s_lz.tr (l_X1_standOn hh) ?_
    obtain ⟨x19, -, hf⟩ := s_bind hf
    cases hf
    exact s_le.rf
  · cases hf
    exact s_le.rf
theorem l_X1_addLine_s {x : sL} {z : sZ Int32} (hs : S_X1_addLine x = some z) : s_lz x.2.2 z := by
  obtain ⟨pc, vs, σ⟩ := x
  unfold S_X1_addLine at hs
  dsimp only at hs ⊢
  rcases s_ite hs with ⟨c, hs⟩ | ⟨-, hs⟩
  · subst c
    unfold U_X1_addLine_0 at hs
    obtain ⟨a0, g0, hs⟩ := s_bind hs
    obtain ⟨a1, g1, hs⟩ := s_bind hs
    obtain ⟨a2, g2, hs⟩ := s_bind hs
    obtain ⟨a3, g3, hs⟩ := s_bind hs
    obtain ⟨a4, g4, hs⟩ := s_bind hs
    obtain ⟨a5, g5, hs⟩ := s_bind hs
    obtain ⟨a6, g6, hs⟩ := s_bind hs
    obtain ⟨u9, ge, hs⟩ := s_bind hs
    exact l_X1_addLine_0 hs
  cases hs
theorem l_X1_addLine {v0 : Nat} {v1 : Int32} {v2 : Int32} {v3 : Int32} {v4 : Int32} {v5 : Int32} {v6 : Int32} {σ : sS} {q : Int32 × sS} (h : F_X1_addLine v0 v1 v2 v3 v4 v5 v6 σ = some q) : s_le σ q.2 := by
  unfold F_X1_addLine at h
  obtain ⟨-, -, h⟩ := s_bind h
  exact s_run_ind (V := fun x r => s_le x.2.2 r.2) (fun x z r hs hk => by
    have h9 := l_X1_addLine_s hs
    cases z with
    | inl y => exact s_le.tr h9 hk
    | inr q => cases hk; exact h9) h
theorem b_X1_addLine {v0 : Nat} {v1 : Int32} {v2 : Int32} {v3 : Int32} {v4 : Int32} {v5 : Int32} {v6 : Int32} {σ : sS} {q : Int32 × sS} (h : F_X1_addLine v0 v1 v2 v3 v4 v5 v6 σ = some q) : ∃ fs, σ.1 v0 = some (.inr (1, fs)) := by
  unfold F_X1_addLine at h
  obtain ⟨u, hu, -⟩ := s_bind h
  exact s_is_to hu
set_option maxRecDepth 100000 in
set_option maxHeartbeats 4000000 in
theorem v_X1_addLine_0 {G : sG} {d : Nat} {vs0 : List Value} {σ0 : sS} {v0 : Nat} {v1 : Int32} {v2 : Int32} {v3 : Int32} {v4 : Int32} {v5 : Int32} {v6 : Int32} {σ : sS} {z : sZ Int32} {r : Int32 × sS} (hf : T_X1_addLine_0 v0 v1 v2 v3 v4 v5 v6 σ = some z) (k : s_K G (d + 4) M_X1_addLine vs0 σ0 Y_X1_addLine e_I z r) : s_V G (d + 4) M_X1_addLine vs0 σ0 Y_X1_addLine (0, [.ref v0, .int v1, .int v2, .int v3, .int v4, .int v5, .int v6], σ) (e_I r) := by
  have le0 : s_le σ (e_I r).2 := s_lek hem_I (l_X1_addLine_0 hf) k
  refine ⟨le0, ?_⟩
  intro p e s m below meth c H locs cells slots ls X I hn1 hn2 hl
  have hn : cells + σ0.2.1 ≤ σ.2.1 ∧ slots + σ0.2.2.1 ≤ σ.2.2.1 := ⟨hn1, hn2⟩
  have hl : lv_has ls 8 [(0, .ref v0), (1, .int v1), (2, .int v2), (3, .int v3), (4, .int v4), (5, .int v5), (6, .int v6)] := hl
  have hx := X.1
  have hb : c.code = cX1_addLine := X.2.1
  have hown : s.vm.findClass RX1 = some m.cls := X.2.2.2.2.2.1
  have hts := X.2.2.2.2.2.2.1
  refine W.eq (g2 := F0 m 0 ls []) rfl ?_
  unfold T_X1_addLine_0 at hf
  obtain ⟨x1, h1, hf⟩ := s_bind hf
  refine lv_aload_n hx hb dX1_addLine_0 rfl (lv_at hl 0 rfl) ?_
  refine r_gi X I fl_X1_51 h1 dX1_addLine_1 ?_
  refine lv_bipush (v := 40) hx hb dX1_addLine_4 (by decide) ?_
  rcases s_ite hf with ⟨c2, hf⟩ | ⟨c2, hf⟩
  · refine lv_icmp_lt (tgt := 11) hx hb dX1_addLine_6 (by decide) (fun _ => ?_) (fun n => absurd c2 n)
    obtain ⟨x2, h3, hf⟩ := s_bind hf
    obtain ⟨x3, h4, hf⟩ := s_bind hf
    obtain ⟨σ4, h5, hf⟩ := s_bind hf
    obtain ⟨x5, h6, hf⟩ := s_bind hf
    obtain ⟨σ6, h7, hf⟩ := s_bind hf
    obtain ⟨x7, h8, hf⟩ := s_bind hf
    obtain ⟨σ8, h9, hf⟩ := s_bind hf
    obtain ⟨x9, h10, hf⟩ := s_bind hf
    obtain ⟨σ10, h11, hf⟩ := s_bind hf
    obtain ⟨x11, h12, hf⟩ := s_bind hf
    obtain ⟨σ12, h13, hf⟩ := s_bind hf
    obtain ⟨x13, h14, hf⟩ := s_bind hf
    obtain ⟨σ14, h15, hf⟩ := s_bind hf
    obtain ⟨x15, h16, hf⟩ := s_bind hf
    obtain ⟨σ16, h17, hf⟩ := s_bind hf
    obtain ⟨x17, h18, hf⟩ := s_bind hf
    obtain ⟨q18, h19, hf⟩ := s_bind hf
    obtain ⟨x19, h20, hf⟩ := s_bind hf
    cases hf
    have k : _ = r := k
    subst k
    have le21 : s_le q18.2 q18.2 := s_le.rf
    have le22 := s_le.tr (l_X1_standOn h19) le21
    have le23 := s_le.tr (s_le2 (s_pf_2 h17)) le22
    have le24 := s_le.tr (s_le2 (s_si_2 h15)) le23
    have le25 := s_le.tr (s_le2 (s_si_2 h13)) le24
    have le26 := s_le.tr (s_le2 (s_si_2 h11)) le25
    have le27 := s_le.tr (s_le2 (s_si_2 h9)) le26
    have le28 := s_le.tr (s_le2 (s_si_2 h7)) le27
    refine lv_aload_n hx hb dX1_addLine_11 rfl (lv_at hl 0 rfl) ?_
    refine r_gi X I fl_X1_51 h3 dX1_addLine_12 ?_
    refine lv_bipush (v := 6) hx hb dX1_addLine_15 (by decide) ?_
    refine lv_imul hx hb dX1_addLine_17 ?_
    refine lv_istore (lv' := [(7, .int (x2 * 6)), (0, .ref v0), (1, .int v1), (2, .int v2), (3, .int v3), (4, .int v4), (5, .int v5), (6, .int v6)]) hx hb dX1_addLine_18 hl (by decide) rfl (fun ls hl => ?_)
    refine lv_aload_n hx hb dX1_addLine_20 rfl (lv_at hl 1 rfl) ?_
    refine r_gr X I fl_X1_38 h4 dX1_addLine_21 ?_
    refine lv_iload hx hb dX1_addLine_24 (lv_at hl 0 rfl) ?_
    refine lv_iconst (v := 0) hx hb dX1_addLine_26 (by decide) ?_
    refine lv_iadd hx hb dX1_addLine_27 ?_
    refine lv_iload_n hx hb dX1_addLine_28 rfl (lv_at hl 2 rfl) ?_
    refine r_iast X I h5 dX1_addLine_29 (fun H locs I => ?_)
    have hn := s_k2 (s_si_2 h5) hn
    refine lv_aload_n hx hb dX1_addLine_30 rfl (lv_at hl 1 rfl) ?_
    refine r_gr X I fl_X1_38 h6 dX1_addLine_31 ?_
    refine lv_iload hx hb dX1_addLine_34 (lv_at hl 0 rfl) ?_
    refine lv_iconst (v := 1) hx hb dX1_addLine_36 (by decide) ?_
    refine lv_iadd hx hb dX1_addLine_37 ?_
    refine lv_iload_n hx hb dX1_addLine_38 rfl (lv_at hl 3 rfl) ?_
    refine r_iast X I h7 dX1_addLine_39 (fun H locs I => ?_)
    have hn := s_k2 (s_si_2 h7) hn
    refine lv_aload_n hx hb dX1_addLine_40 rfl (lv_at hl 1 rfl) ?_
    refine r_gr X I fl_X1_38 h8 dX1_addLine_41 ?_
    refine lv_iload hx hb dX1_addLine_44 (lv_at hl 0 rfl) ?_
    refine lv_iconst (v := 2) hx hb dX1_addLine_46 (by decide) ?_
    refine lv_iadd hx hb dX1_addLine_47 ?_
    refine lv_iload_n hx hb dX1_addLine_48 rfl (lv_at hl 4 rfl) ?_
    refine r_iast X I h9 dX1_addLine_49 (fun H locs I => ?_)
    have hn := s_k2 (s_si_2 h9) hn
    refine lv_aload_n hx hb dX1_addLine_50 rfl (lv_at hl 1 rfl) ?_
    refine r_gr X I fl_X1_38 h10 dX1_addLine_51 ?_
    refine lv_iload hx hb dX1_addLine_54 (lv_at hl 0 rfl) ?_
    refine lv_iconst (v := 3) hx hb dX1_addLine_56 (by decide) ?_
    refine lv_iadd hx hb dX1_addLine_57 ?_
    refine lv_iload hx hb dX1_addLine_58 (lv_at hl 5 rfl) ?_
    refine r_iast X I h11 dX1_addLine_60 (fun H locs I => ?_)
    have hn := s_k2 (s_si_2 h11) hn
    refine lv_aload_n hx hb dX1_addLine_61 rfl (lv_at hl 1 rfl) ?_
    refine r_gr X I fl_X1_38 h12 dX1_addLine_62 ?_
    refine lv_iload hx hb dX1_addLine_65 (lv_at hl 0 rfl) ?_
    refine lv_iconst (v := 3) hx hb dX1_addLine_67 (by decide) ?_
    refine lv_iadd hx hb dX1_addLine_68 ?_
    refine lv_iconst (v := 1) hx hb dX1_addLine_69 (by decide) ?_
    refine lv_iadd hx hb dX1_addLine_70 ?_
    refine lv_iload hx hb dX1_addLine_71 (lv_at hl 6 rfl) ?_
    refine r_iast X I h13 dX1_addLine_73 (fun H locs I => ?_)
    have hn := s_k2 (s_si_2 h13) hn
    refine lv_aload_n hx hb dX1_addLine_74 rfl (lv_at hl 1 rfl) ?_
    refine r_gr X I fl_X1_38 h14 dX1_addLine_75 ?_
    refine lv_iload hx hb dX1_addLine_78 (lv_at hl 0 rfl) ?_
    refine lv_iconst (v := 3) hx hb dX1_addLine_80 (by decide) ?_
    refine lv_iadd hx hb dX1_addLine_81 ?_
    refine lv_iconst (v := 2) hx hb dX1_addLine_82 (by decide) ?_
    refine lv_iadd hx hb dX1_addLine_83 ?_
    refine lv_iload hx hb dX1_addLine_84 (lv_at hl 7 rfl) ?_
    refine r_iast X I h15 dX1_addLine_86 (fun H locs I => ?_)
    have hn := s_k2 (s_si_2 h15) hn
    refine lv_aload_n hx hb dX1_addLine_87 rfl (lv_at hl 1 rfl) ?_
    refine lv_dup hx hb dX1_addLine_88 rfl ?_
    refine r_gi X I fl_X1_51 h16 dX1_addLine_89 ?_
    refine lv_iconst (v := 1) hx hb dX1_addLine_92 (by decide) ?_
    refine lv_iadd hx hb dX1_addLine_93 ?_
    refine r_put X I fp_X1_51 (fun h => by cases h) h17 rfl rfl dX1_addLine_94 (fun H locs I => ?_)
    have hn := s_k2 (s_pf_2 h17) hn
    refine lv_aload_n hx hb dX1_addLine_97 rfl (lv_at hl 1 rfl) ?_
    refine lv_aload_n hx hb dX1_addLine_98 rfl (lv_at hl 1 rfl) ?_
    refine r_gi X I fl_X1_51 h18 dX1_addLine_99 ?_
    refine lv_iconst (v := 1) hx hb dX1_addLine_102 (by decide) ?_
    refine lv_isub hx hb dX1_addLine_103 ?_
    refine r_callV (Y := M_X1_standOn) (v := none) X I w_1152 my_X1_standOn (by omega) (t_X1_standOn (G := G) (d := d + 0) h19) (b_X1_standOn h19) rfl rfl hl.1 rfl (Nat.le_of_ble_eq_true rfl) hn le21 dX1_addLine_104 (fun H locs cells slots I hn1 hn2 => ?_)
    have I : s_I G q18.2 s H locs := I
    have hn : cells + σ0.2.1 ≤ q18.2.2.1 ∧ slots + σ0.2.2.1 ≤ q18.2.2.2.1 := ⟨hn1, hn2⟩
    refine lv_aload_n hx hb dX1_addLine_107 rfl (lv_at hl 1 rfl) ?_
    refine r_gi X I fl_X1_51 h20 dX1_addLine_108 ?_
    refine lv_iconst (v := 1) hx hb dX1_addLine_111 (by decide) ?_
    refine lv_isub hx hb dX1_addLine_112 ?_
    exact r_iret X I rfl rfl rfl hn dX1_addLine_113
  · refine lv_icmp_lt (tgt := 11) hx hb dX1_addLine_6 (by decide) (fun n => absurd n c2) (fun _ => ?_)
    cases hf
    have k : _ = r := k
    subst k
    refine lv_iconst (v := (-1)) hx hb dX1_addLine_9 (by decide) ?_
    exact r_iret X I rfl rfl rfl hn dX1_addLine_10
theorem v_X1_addLine {G : sG} {d : Nat} {vs0 : List Value} {σ0 : sS} {x : sL} {z : sZ Int32} {r : Int32 × sS} (hs : S_X1_addLine x = some z) (k : s_K G (d + 4) M_X1_addLine vs0 σ0 Y_X1_addLine e_I z r) : s_V G (d + 4) M_X1_addLine vs0 σ0 Y_X1_addLine x (e_I r) := by
  obtain ⟨pc, vs, σ⟩ := x
  unfold S_X1_addLine at hs
  dsimp only at hs
  rcases s_ite hs with ⟨c, hs⟩ | ⟨-, hs⟩
  · subst c
    unfold U_X1_addLine_0 at hs
    obtain ⟨a0, g0, hs⟩ := s_bind hs
    obtain ⟨a1, g1, hs⟩ := s_bind hs
    obtain ⟨a2, g2, hs⟩ := s_bind hs
    obtain ⟨a3, g3, hs⟩ := s_bind hs
    obtain ⟨a4, g4, hs⟩ := s_bind hs
    obtain ⟨a5, g5, hs⟩ := s_bind hs
    obtain ⟨a6, g6, hs⟩ := s_bind hs
    obtain ⟨u9, ge, hs⟩ := s_bind hs
    rw [g_r_to g0, g_i_to g1, g_i_to g2, g_i_to g3, g_i_to g4, g_i_to g5, g_i_to g6, g_e_to ge]
    exact v_X1_addLine_0 hs k
  cases hs
theorem t_X1_addLine {G : sG} {d : Nat} {v0 : Nat} {v1 : Int32} {v2 : Int32} {v3 : Int32} {v4 : Int32} {v5 : Int32} {v6 : Int32} {σ : sS} {q : Int32 × sS} (h : F_X1_addLine v0 v1 v2 v3 v4 v5 v6 σ = some q) : s_T G (d + 4) M_X1_addLine [.ref v0, .int v1, .int v2, .int v3, .int v4, .int v5, .int v6] σ (e_I q) := by
  unfold F_X1_addLine at h
  obtain ⟨-, -, h⟩ := s_bind h
  exact s_ofV rfl (by decide) (Nat.le_of_ble_eq_true rfl) rfl rfl (s_run_ind (V := fun x r => s_V G (d + 4) M_X1_addLine [.ref v0, .int v1, .int v2, .int v3, .int v4, .int v5, .int v6] σ Y_X1_addLine x (e_I r)) (fun x z r hs hk => v_X1_addLine hs (by cases z <;> exact hk)) h)
/-! X7_line -/
noncomputable def T_X7_line_0 (v0 : Nat) (v1 : Int32) (v2 : Int32) (v3 : Int32) (v4 : Int32) (v5 : Int32) (v6 : Int32) (σ : sS) : Option (sZ (Int32 ⊕ String)) :=
  (F_X7_needHouse v0 v1 σ).bind fun q1 => s_sum q1.1 (fun x2 => (F_X7_needFormula v0 v2 q1.2).bind fun q4 => s_sum q4.1 (fun x5 => if v3 < 0 then (some (.inr (.inr "java/lang/IndexOutOfBoundsException", s_ex q4.2)))
  else (if v3 < 16 then (if v3 = 0 then ((F_X7_needCustomer v0 v4 q4.2).bind fun q10 => s_sum q10.1 (fun x11 => some (.inl (49, [.ref v0, .int v1, .int v2, .int v3, .int v4, .int v5, .int v6], q10.2))) (fun E12 => some (.inr (.inr E12, q10.2))))
  else ((F_X7_needPremise v0 v4 q4.2).bind fun q7 => s_sum q7.1 (fun x8 => some (.inl (49, [.ref v0, .int v1, .int v2, .int v3, .int v4, .int v5, .int v6], q7.2))) (fun E9 => some (.inr (.inr E9, q7.2)))))
  else (some (.inr (.inr "java/lang/IndexOutOfBoundsException", s_ex q4.2))))) (fun E6 => some (.inr (.inr E6, q4.2)))) (fun E3 => some (.inr (.inr E3, q1.2)))
noncomputable def U_X7_line_0 (vs : List Value) (σ : sS) : Option (sZ (Int32 ⊕ String)) := (g_r vs).bind fun a0 => (g_i a0.2).bind fun a1 => (g_i a1.2).bind fun a2 => (g_i a2.2).bind fun a3 => (g_i a3.2).bind fun a4 => (g_i a4.2).bind fun a5 => (g_i a5.2).bind fun a6 => (g_e a6.2).bind fun _ => T_X7_line_0 a0.1 a1.1 a2.1 a3.1 a4.1 a5.1 a6.1 σ
noncomputable def T_X7_line_49 (v0 : Nat) (v1 : Int32) (v2 : Int32) (v3 : Int32) (v4 : Int32) (v5 : Int32) (v6 : Int32) (σ : sS) : Option (sZ (Int32 ⊕ String)) :=
  (F_X7_needPremise v0 v5 σ).bind fun q1 => s_sum q1.1 (fun x2 => (F_X7_needPremise v0 v6 q1.2).bind fun q4 => s_sum q4.1 (fun x5 => (F_X7_areInOrder v3 v4 v5 v6 q4.2).bind fun q7 =>
  if q7.1 = 0 then (some (.inr (.inr "java/lang/IllegalArgumentException", s_ex q7.2)))
  else ((s_fr q7.2 v0 7 1).bind fun x8 =>
  (s_fi q7.2 x8 1 6).bind fun x9 =>
  if x9 < 40 then ((s_fr q7.2 v0 7 1).bind fun x10 =>
  (F_X1_addLine x10 v1 v2 v3 v4 v5 v6 q7.2).bind fun q11 =>
  some (.inr (.inl q11.1, q11.2)))
  else (some (.inr (.inr "java/lang/UnsupportedOperationException", s_ex q7.2))))) (fun E6 => some (.inr (.inr E6, q4.2)))) (fun E3 => some (.inr (.inr E3, q1.2)))
noncomputable def U_X7_line_49 (vs : List Value) (σ : sS) : Option (sZ (Int32 ⊕ String)) := (g_r vs).bind fun a0 => (g_i a0.2).bind fun a1 => (g_i a1.2).bind fun a2 => (g_i a2.2).bind fun a3 => (g_i a3.2).bind fun a4 => (g_i a4.2).bind fun a5 => (g_i a5.2).bind fun a6 => (g_e a6.2).bind fun _ => T_X7_line_49 a0.1 a1.1 a2.1 a3.1 a4.1 a5.1 a6.1 σ
noncomputable def S_X7_line (x : sL) : Option (sZ (Int32 ⊕ String)) := if x.1 = 0 then U_X7_line_0 x.2.1 x.2.2 else if x.1 = 49 then U_X7_line_49 x.2.1 x.2.2 else none
def Y_X7_line (pc : Nat) : List Nat := if pc = 0 then [0, 1, 2, 3, 4, 5, 6] else if pc = 49 then [0, 1, 2, 3, 4, 5, 6] else []
noncomputable def F_X7_line (v0 : Nat) (v1 : Int32) (v2 : Int32) (v3 : Int32) (v4 : Int32) (v5 : Int32) (v6 : Int32) (σ : sS) : Option ((Int32 ⊕ String) × sS) := (s_is σ v0 7).bind fun _ => s_run S_X7_line (0, [.ref v0, .int v1, .int v2, .int v3, .int v4, .int v5, .int v6], σ)
theorem l_X7_line_0 {v0 : Nat} {v1 : Int32} {v2 : Int32} {v3 : Int32} {v4 : Int32} {v5 : Int32} {v6 : Int32} {σ : sS} {z : sZ (Int32 ⊕ String)} (hf : T_X7_line_0 v0 v1 v2 v3 v4 v5 v6 σ = some z) : s_lz σ z := by
  unfold T_X7_line_0 at hf
  obtain ⟨q1, hh, hf⟩ := s_bind hf
  refine s_lz.tr (l_X7_needHouse hh) ?_
  rcases s_sum_some hf with ⟨x2, -, hf⟩ | ⟨E3, -, hf⟩
  · obtain ⟨q4, hh, hf⟩ := s_bind hf
    refine s_lz.tr (l_X7_needFormula hh) ?_
    rcases s_sum_some hf with ⟨x5, -, hf⟩ | ⟨E6, -, hf⟩
    · rcases s_ite hf with ⟨-, hf⟩ | ⟨-, hf⟩
      · cases hf
        exact s_ex_le
      · rcases s_ite hf with ⟨-, hf⟩ | ⟨-, hf⟩
        · rcases s_ite hf with ⟨-, hf⟩ | ⟨-, hf⟩
          · obtain ⟨q10, hh, hf⟩ := s_bind hf
            refine s_lz.tr (l_X7_needCustomer hh) ?_
            rcases s_sum_some hf with ⟨x11, -, hf⟩ | ⟨E12, -, hf⟩
            · cases hf
              exact s_le.rf
            · cases hf
              exact s_le.rf
          · obtain ⟨q7, hh, hf⟩ := s_bind hf
            refine s_lz.tr (l_X7_needPremise hh) ?_
            rcases s_sum_some hf with ⟨x8, -, hf⟩ | ⟨E9, -, hf⟩
            · cases hf
              exact s_le.rf
            · cases hf
              exact s_le.rf
        · cases hf
          exact s_ex_le
    · cases hf
      exact s_le.rf
  · cases hf
    exact s_le.rf
theorem l_X7_line_49 {v0 : Nat} {v1 : Int32} {v2 : Int32} {v3 : Int32} {v4 : Int32} {v5 : Int32} {v6 : Int32} {σ : sS} {z : sZ (Int32 ⊕ String)} (hf : T_X7_line_49 v0 v1 v2 v3 v4 v5 v6 σ = some z) : s_lz σ z := by
  unfold T_X7_line_49 at hf
  obtain ⟨q1, hh, hf⟩ := s_bind hf
  refine s_lz.tr (l_X7_needPremise hh) ?_
  rcases s_sum_some hf with ⟨x2, -, hf⟩ | ⟨E3, -, hf⟩
  · obtain ⟨q4, hh, hf⟩ := s_bind hf
    refine s_lz.tr (l_X7_needPremise hh) ?_
    rcases s_sum_some hf with ⟨x5, -, hf⟩ | ⟨E6, -, hf⟩
    · obtain ⟨q7, hh, hf⟩ := s_bind hf
      refine s_lz.tr (l_X7_areInOrder hh) ?_
      rcases s_ite hf with ⟨-, hf⟩ | ⟨-, hf⟩
      · cases hf
        exact s_ex_le
      · obtain ⟨x8, -, hf⟩ := s_bind hf
        obtain ⟨x9, -, hf⟩ := s_bind hf
        rcases s_ite hf with ⟨-, hf⟩ | ⟨-, hf⟩
        · obtain ⟨x10, -, hf⟩ := s_bind hf
          obtain ⟨q11, hh, hf⟩ := s_bind hf
          refine s_lz.tr (l_X1_addLine hh) ?_
          cases hf
          exact s_le.rf
        · cases hf
          exact s_ex_le
    · cases hf
      exact s_le.rf
  · cases hf
    exact s_le.rf
theorem l_X7_line_s {x : sL} {z : sZ (Int32 ⊕ String)} (hs : S_X7_line x = some z) : s_lz x.2.2 z := by
  obtain ⟨pc, vs, σ⟩ := x
  unfold S_X7_line at hs
  dsimp only at hs ⊢
  rcases s_ite hs with ⟨c, hs⟩ | ⟨-, hs⟩
  · subst c
    unfold U_X7_line_0 at hs
    obtain ⟨a0, g0, hs⟩ := s_bind hs
    obtain ⟨a1, g1, hs⟩ := s_bind hs
    obtain ⟨a2, g2, hs⟩ := s_bind hs
    obtain ⟨a3, g3, hs⟩ := s_bind hs
    obtain ⟨a4, g4, hs⟩ := s_bind hs
    obtain ⟨a5, g5, hs⟩ := s_bind hs
    obtain ⟨a6, g6, hs⟩ := s_bind hs
    obtain ⟨u9, ge, hs⟩ := s_bind hs
    exact l_X7_line_0 hs
  rcases s_ite hs with ⟨c, hs⟩ | ⟨-, hs⟩
  · subst c
    unfold U_X7_line_49 at hs
    obtain ⟨a0, g0, hs⟩ := s_bind hs
    obtain ⟨a1, g1, hs⟩ := s_bind hs
    obtain ⟨a2, g2, hs⟩ := s_bind hs
    obtain ⟨a3, g3, hs⟩ := s_bind hs
    obtain ⟨a4, g4, hs⟩ := s_bind hs
    obtain ⟨a5, g5, hs⟩ := s_bind hs
    obtain ⟨a6, g6, hs⟩ := s_bind hs
    obtain ⟨u9, ge, hs⟩ := s_bind hs
    exact l_X7_line_49 hs
  cases hs
theorem l_X7_line {v0 : Nat} {v1 : Int32} {v2 : Int32} {v3 : Int32} {v4 : Int32} {v5 : Int32} {v6 : Int32} {σ : sS} {q : (Int32 ⊕ String) × sS} (h : F_X7_line v0 v1 v2 v3 v4 v5 v6 σ = some q) : s_le σ q.2 := by
  unfold F_X7_line at h
  obtain ⟨-, -, h⟩ := s_bind h
  exact s_run_ind (V := fun x r => s_le x.2.2 r.2) (fun x z r hs hk => by
    have h9 := l_X7_line_s hs
    cases z with
    | inl y => exact s_le.tr h9 hk
    | inr q => cases hk; exact h9) h
theorem b_X7_line {v0 : Nat} {v1 : Int32} {v2 : Int32} {v3 : Int32} {v4 : Int32} {v5 : Int32} {v6 : Int32} {σ : sS} {q : (Int32 ⊕ String) × sS} (h : F_X7_line v0 v1 v2 v3 v4 v5 v6 σ = some q) : ∃ fs, σ.1 v0 = some (.inr (7, fs)) := by
  unfold F_X7_line at h
  obtain ⟨u, hu, -⟩ := s_bind h
  exact s_is_to hu
set_option maxRecDepth 100000 in
set_option maxHeartbeats 4000000 in
theorem v_X7_line_0 {G : sG} {d : Nat} {vs0 : List Value} {σ0 : sS} {v0 : Nat} {v1 : Int32} {v2 : Int32} {v3 : Int32} {v4 : Int32} {v5 : Int32} {v6 : Int32} {σ : sS} {z : sZ (Int32 ⊕ String)} {r : (Int32 ⊕ String) × sS} (hf : T_X7_line_0 v0 v1 v2 v3 v4 v5 v6 σ = some z) (k : s_K G (d + 5) M_X7_line vs0 σ0 Y_X7_line e_IX z r) : s_V G (d + 5) M_X7_line vs0 σ0 Y_X7_line (0, [.ref v0, .int v1, .int v2, .int v3, .int v4, .int v5, .int v6], σ) (e_IX r) := by
  have le0 : s_le σ (e_IX r).2 := s_lek hem_IX (l_X7_line_0 hf) k
  refine ⟨le0, ?_⟩
  intro p e s m below meth c H locs cells slots ls X I hn1 hn2 hl
  have hn : cells + σ0.2.1 ≤ σ.2.1 ∧ slots + σ0.2.2.1 ≤ σ.2.2.1 := ⟨hn1, hn2⟩
  have hl : lv_has ls 7 [(0, .ref v0), (1, .int v1), (2, .int v2), (3, .int v3), (4, .int v4), (5, .int v5), (6, .int v6)] := hl
  have hx := X.1
  have hb : c.code = cX7_line := X.2.1
  have hown : s.vm.findClass RX7 = some m.cls := X.2.2.2.2.2.1
  have hts := X.2.2.2.2.2.2.1
  refine W.eq (g2 := F0 m 0 ls []) rfl ?_
  unfold T_X7_line_0 at hf
  obtain ⟨q1, h1, hf⟩ := s_bind hf
  refine lv_aload_n hx hb dX7_line_0 rfl (lv_at hl 0 rfl) ?_
  refine lv_iload_n hx hb dX7_line_1 rfl (lv_at hl 1 rfl) ?_
  rcases s_sum_some hf with ⟨x2, hq2, hf⟩ | ⟨E3, hq2, hf⟩
  · have le3 : s_le q1.2 (e_IX r).2 := by
      refine s_lek hem_IX ?_ k
      obtain ⟨q4, hh, hf⟩ := s_bind hf
      refine s_lz.tr (l_X7_needFormula hh) ?_
      rcases s_sum_some hf with ⟨x5, -, hf⟩ | ⟨E6, -, hf⟩
      · rcases s_ite hf with ⟨-, hf⟩ | ⟨-, hf⟩
        · cases hf
          exact s_ex_le
        · rcases s_ite hf with ⟨-, hf⟩ | ⟨-, hf⟩
          · rcases s_ite hf with ⟨-, hf⟩ | ⟨-, hf⟩
            · obtain ⟨q10, hh, hf⟩ := s_bind hf
              refine s_lz.tr (l_X7_needCustomer hh) ?_
              rcases s_sum_some hf with ⟨x11, -, hf⟩ | ⟨E12, -, hf⟩
              · cases hf
                exact s_le.rf
              · cases hf
                exact s_le.rf
            · obtain ⟨q7, hh, hf⟩ := s_bind hf
              refine s_lz.tr (l_X7_needPremise hh) ?_
              rcases s_sum_some hf with ⟨x8, -, hf⟩ | ⟨E9, -, hf⟩
              · cases hf
                exact s_le.rf
              · cases hf
                exact s_le.rf
          · cases hf
            exact s_ex_le
      · cases hf
        exact s_le.rf
    refine r_callV (Y := M_X7_needHouse) (v := none) X I w_1087 my_X7_needHouse (by omega) (t_X7_needHouse (G := G) (d := d + 3) h1) (b_X7_needHouse h1) (e_VX_l hq2) rfl hl.1 rfl (Nat.le_of_ble_eq_true rfl) hn le3 dX7_line_2 (fun H locs cells slots I hn1 hn2 => ?_)
    have I : s_I G q1.2 s H locs := I
    have hn : cells + σ0.2.1 ≤ q1.2.2.1 ∧ slots + σ0.2.2.1 ≤ q1.2.2.2.1 := ⟨hn1, hn2⟩
    obtain ⟨q4, h4, hf⟩ := s_bind hf
    refine lv_aload_n hx hb dX7_line_5 rfl (lv_at hl 0 rfl) ?_
    refine lv_iload_n hx hb dX7_line_6 rfl (lv_at hl 2 rfl) ?_
    rcases s_sum_some hf with ⟨x5, hq5, hf⟩ | ⟨E6, hq5, hf⟩
    · have le6 : s_le q4.2 (e_IX r).2 := by
        refine s_lek hem_IX ?_ k
        rcases s_ite hf with ⟨-, hf⟩ | ⟨-, hf⟩
        · cases hf
          exact s_ex_le
        · rcases s_ite hf with ⟨-, hf⟩ | ⟨-, hf⟩
          · rcases s_ite hf with ⟨-, hf⟩ | ⟨-, hf⟩
            · obtain ⟨q10, hh, hf⟩ := s_bind hf
              refine s_lz.tr (l_X7_needCustomer hh) ?_
              rcases s_sum_some hf with ⟨x11, -, hf⟩ | ⟨E12, -, hf⟩
              · cases hf
                exact s_le.rf
              · cases hf
                exact s_le.rf
            · obtain ⟨q7, hh, hf⟩ := s_bind hf
              refine s_lz.tr (l_X7_needPremise hh) ?_
              rcases s_sum_some hf with ⟨x8, -, hf⟩ | ⟨E9, -, hf⟩
              · cases hf
                exact s_le.rf
              · cases hf
                exact s_le.rf
          · cases hf
            exact s_ex_le
      refine r_callV (Y := M_X7_needFormula) (v := none) X I w_1016 my_X7_needFormula (by omega) (t_X7_needFormula (G := G) (d := d + 3) h4) (b_X7_needFormula h4) (e_VX_l hq5) rfl hl.1 rfl (Nat.le_of_ble_eq_true rfl) hn le6 dX7_line_7 (fun H locs cells slots I hn1 hn2 => ?_)
      have I : s_I G q4.2 s H locs := I
      have hn : cells + σ0.2.1 ≤ q4.2.2.1 ∧ slots + σ0.2.2.1 ≤ q4.2.2.2.1 := ⟨hn1, hn2⟩
      refine lv_iload_n hx hb dX7_line_10 rfl (lv_at hl 3 rfl) ?_
      rcases s_ite hf with ⟨c7, hf⟩ | ⟨c7, hf⟩
      · refine lv_if_lt (tgt := 20) hx hb dX7_line_11 (by decide) (fun _ => ?_) (fun n => absurd c7 n)
        cases hf
        have k : _ = r := k
        subst k
        exact r_throw X I rfl th_X7_156_158 hl.1 (Nat.le_of_ble_eq_true rfl) hn rfl dX7_line_20 dX7_line_23 dX7_line_24 dX7_line_26 dX7_line_29
      · refine lv_if_lt (tgt := 20) hx hb dX7_line_11 (by decide) (fun n => absurd n c7) (fun _ => ?_)
        refine lv_iload_n hx hb dX7_line_14 rfl (lv_at hl 3 rfl) ?_
        refine lv_bipush (v := 16) hx hb dX7_line_15 (by decide) ?_
        rcases s_ite hf with ⟨c8, hf⟩ | ⟨c8, hf⟩
        · refine lv_icmp_lt (tgt := 30) hx hb dX7_line_17 (by decide) (fun _ => ?_) (fun n => absurd c8 n)
          refine lv_iload_n hx hb dX7_line_30 rfl (lv_at hl 3 rfl) ?_
          rcases s_ite hf with ⟨c9, hf⟩ | ⟨c9, hf⟩
          · refine lv_if_ne (tgt := 43) hx hb dX7_line_31 (by decide) (fun n => absurd c9 n) (fun _ => ?_)
            obtain ⟨q10, h10, hf⟩ := s_bind hf
            refine lv_aload_n hx hb dX7_line_34 rfl (lv_at hl 0 rfl) ?_
            refine lv_iload hx hb dX7_line_35 (lv_at hl 4 rfl) ?_
            rcases s_sum_some hf with ⟨x11, hq11, hf⟩ | ⟨E12, hq11, hf⟩
            · have le12 : s_le q10.2 (e_IX r).2 := by
                refine s_lek hem_IX ?_ k
                cases hf
                exact s_le.rf
              refine r_callV (Y := M_X7_needCustomer) (v := none) X I w_1115 my_X7_needCustomer (by omega) (t_X7_needCustomer (G := G) (d := d + 3) h10) (b_X7_needCustomer h10) (e_VX_l hq11) rfl hl.1 rfl (Nat.le_of_ble_eq_true rfl) hn le12 dX7_line_37 (fun H locs cells slots I hn1 hn2 => ?_)
              have I : s_I G q10.2 s H locs := I
              have hn : cells + σ0.2.1 ≤ q10.2.2.1 ∧ slots + σ0.2.2.1 ≤ q10.2.2.2.1 := ⟨hn1, hn2⟩
              cases hf
              have k : s_V G (d + 5) M_X7_line vs0 σ0 Y_X7_line (49, [.ref v0, .int v1, .int v2, .int v3, .int v4, .int v5, .int v6], q10.2) (e_IX r) := k
              refine lv_goto (tgt := 49) hx hb dX7_line_40 (by decide) ?_
              exact k.2 p e s m below meth c _ _ _ _ _ X I hn.1 hn.2 (lv_sub hl [0, 1, 2, 3, 4, 5, 6] rfl)
            · cases hf
              have k : _ = r := k
              subst k
              exact r_callVx (Y := M_X7_needCustomer) X I rfl w_1115 my_X7_needCustomer (by omega) (t_X7_needCustomer (G := G) (d := d + 3) h10) (b_X7_needCustomer h10) (e_VX_r hq11) rfl hl.1 rfl (Nat.le_of_ble_eq_true rfl) hn rfl dX7_line_37
          · refine lv_if_ne (tgt := 43) hx hb dX7_line_31 (by decide) (fun _ => ?_) (fun n => absurd n c9)
            obtain ⟨q7, h13, hf⟩ := s_bind hf
            refine lv_aload_n hx hb dX7_line_43 rfl (lv_at hl 0 rfl) ?_
            refine lv_iload hx hb dX7_line_44 (lv_at hl 4 rfl) ?_
            rcases s_sum_some hf with ⟨x8, hq14, hf⟩ | ⟨E9, hq14, hf⟩
            · have le15 : s_le q7.2 (e_IX r).2 := by
                refine s_lek hem_IX ?_ k
                cases hf
                exact s_le.rf
              refine r_callV (Y := M_X7_needPremise) (v := none) X I w_1134 my_X7_needPremise (by omega) (t_X7_needPremise (G := G) (d := d + 2) h13) (b_X7_needPremise h13) (e_VX_l hq14) rfl hl.1 rfl (Nat.le_of_ble_eq_true rfl) hn le15 dX7_line_46 (fun H locs cells slots I hn1 hn2 => ?_)
              have I : s_I G q7.2 s H locs := I
              have hn : cells + σ0.2.1 ≤ q7.2.2.1 ∧ slots + σ0.2.2.1 ≤ q7.2.2.2.1 := ⟨hn1, hn2⟩
              cases hf
              have k : s_V G (d + 5) M_X7_line vs0 σ0 Y_X7_line (49, [.ref v0, .int v1, .int v2, .int v3, .int v4, .int v5, .int v6], q7.2) (e_IX r) := k
              exact k.2 p e s m below meth c _ _ _ _ _ X I hn.1 hn.2 (lv_sub hl [0, 1, 2, 3, 4, 5, 6] rfl)
            · cases hf
              have k : _ = r := k
              subst k
              exact r_callVx (Y := M_X7_needPremise) X I rfl w_1134 my_X7_needPremise (by omega) (t_X7_needPremise (G := G) (d := d + 2) h13) (b_X7_needPremise h13) (e_VX_r hq14) rfl hl.1 rfl (Nat.le_of_ble_eq_true rfl) hn rfl dX7_line_46
        · refine lv_icmp_lt (tgt := 30) hx hb dX7_line_17 (by decide) (fun n => absurd n c8) (fun _ => ?_)
          cases hf
          have k : _ = r := k
          subst k
          exact r_throw X I rfl th_X7_156_158 hl.1 (Nat.le_of_ble_eq_true rfl) hn rfl dX7_line_20 dX7_line_23 dX7_line_24 dX7_line_26 dX7_line_29
    · cases hf
      have k : _ = r := k
      subst k
      exact r_callVx (Y := M_X7_needFormula) X I rfl w_1016 my_X7_needFormula (by omega) (t_X7_needFormula (G := G) (d := d + 3) h4) (b_X7_needFormula h4) (e_VX_r hq5) rfl hl.1 rfl (Nat.le_of_ble_eq_true rfl) hn rfl dX7_line_7
  · cases hf
    have k : _ = r := k
    subst k
    exact r_callVx (Y := M_X7_needHouse) X I rfl w_1087 my_X7_needHouse (by omega) (t_X7_needHouse (G := G) (d := d + 3) h1) (b_X7_needHouse h1) (e_VX_r hq2) rfl hl.1 rfl (Nat.le_of_ble_eq_true rfl) hn rfl dX7_line_2
set_option maxRecDepth 100000 in
set_option maxHeartbeats 4000000 in
theorem v_X7_line_49 {G : sG} {d : Nat} {vs0 : List Value} {σ0 : sS} {v0 : Nat} {v1 : Int32} {v2 : Int32} {v3 : Int32} {v4 : Int32} {v5 : Int32} {v6 : Int32} {σ : sS} {z : sZ (Int32 ⊕ String)} {r : (Int32 ⊕ String) × sS} (hf : T_X7_line_49 v0 v1 v2 v3 v4 v5 v6 σ = some z) (k : s_K G (d + 5) M_X7_line vs0 σ0 Y_X7_line e_IX z r) : s_V G (d + 5) M_X7_line vs0 σ0 Y_X7_line (49, [.ref v0, .int v1, .int v2, .int v3, .int v4, .int v5, .int v6], σ) (e_IX r) := by
  have le0 : s_le σ (e_IX r).2 := s_lek hem_IX (l_X7_line_49 hf) k
  refine ⟨le0, ?_⟩
  intro p e s m below meth c H locs cells slots ls X I hn1 hn2 hl
  have hn : cells + σ0.2.1 ≤ σ.2.1 ∧ slots + σ0.2.2.1 ≤ σ.2.2.1 := ⟨hn1, hn2⟩
  have hl : lv_has ls 7 [(0, .ref v0), (1, .int v1), (2, .int v2), (3, .int v3), (4, .int v4), (5, .int v5), (6, .int v6)] := hl
  have hx := X.1
  have hb : c.code = cX7_line := X.2.1
  have hown : s.vm.findClass RX7 = some m.cls := X.2.2.2.2.2.1
  have hts := X.2.2.2.2.2.2.1
  refine W.eq (g2 := F0 m 49 ls []) rfl ?_
  unfold T_X7_line_49 at hf
  obtain ⟨q1, h1, hf⟩ := s_bind hf
  refine lv_aload_n hx hb dX7_line_49 rfl (lv_at hl 0 rfl) ?_
  refine lv_iload hx hb dX7_line_50 (lv_at hl 5 rfl) ?_
  rcases s_sum_some hf with ⟨x2, hq2, hf⟩ | ⟨E3, hq2, hf⟩
  · have le3 : s_le q1.2 (e_IX r).2 := by
      refine s_lek hem_IX ?_ k
      obtain ⟨q4, hh, hf⟩ := s_bind hf
      refine s_lz.tr (l_X7_needPremise hh) ?_
      rcases s_sum_some hf with ⟨x5, -, hf⟩ | ⟨E6, -, hf⟩
      · obtain ⟨q7, hh, hf⟩ := s_bind hf
        refine s_lz.tr (l_X7_areInOrder hh) ?_
        rcases s_ite hf with ⟨-, hf⟩ | ⟨-, hf⟩
        · cases hf
          exact s_ex_le
        · obtain ⟨x8, -, hf⟩ := s_bind hf
          obtain ⟨x9, -, hf⟩ := s_bind hf
          rcases s_ite hf with ⟨-, hf⟩ | ⟨-, hf⟩
          · obtain ⟨x10, -, hf⟩ := s_bind hf
            obtain ⟨q11, hh, hf⟩ := s_bind hf
            refine s_lz.tr (l_X1_addLine hh) ?_
            cases hf
            exact s_le.rf
          · cases hf
            exact s_ex_le
      · cases hf
        exact s_le.rf
    refine r_callV (Y := M_X7_needPremise) (v := none) X I w_1134 my_X7_needPremise (by omega) (t_X7_needPremise (G := G) (d := d + 2) h1) (b_X7_needPremise h1) (e_VX_l hq2) rfl hl.1 rfl (Nat.le_of_ble_eq_true rfl) hn le3 dX7_line_52 (fun H locs cells slots I hn1 hn2 => ?_)
    have I : s_I G q1.2 s H locs := I
    have hn : cells + σ0.2.1 ≤ q1.2.2.1 ∧ slots + σ0.2.2.1 ≤ q1.2.2.2.1 := ⟨hn1, hn2⟩
    obtain ⟨q4, h4, hf⟩ := s_bind hf
    refine lv_aload_n hx hb dX7_line_55 rfl (lv_at hl 0 rfl) ?_
    refine lv_iload hx hb dX7_line_56 (lv_at hl 6 rfl) ?_
    rcases s_sum_some hf with ⟨x5, hq5, hf⟩ | ⟨E6, hq5, hf⟩
    · have le6 : s_le q4.2 (e_IX r).2 := by
        refine s_lek hem_IX ?_ k
        obtain ⟨q7, hh, hf⟩ := s_bind hf
        refine s_lz.tr (l_X7_areInOrder hh) ?_
        rcases s_ite hf with ⟨-, hf⟩ | ⟨-, hf⟩
        · cases hf
          exact s_ex_le
        · obtain ⟨x8, -, hf⟩ := s_bind hf
          obtain ⟨x9, -, hf⟩ := s_bind hf
          rcases s_ite hf with ⟨-, hf⟩ | ⟨-, hf⟩
          · obtain ⟨x10, -, hf⟩ := s_bind hf
            obtain ⟨q11, hh, hf⟩ := s_bind hf
            refine s_lz.tr (l_X1_addLine hh) ?_
            cases hf
            exact s_le.rf
          · cases hf
            exact s_ex_le
      refine r_callV (Y := M_X7_needPremise) (v := none) X I w_1134 my_X7_needPremise (by omega) (t_X7_needPremise (G := G) (d := d + 2) h4) (b_X7_needPremise h4) (e_VX_l hq5) rfl hl.1 rfl (Nat.le_of_ble_eq_true rfl) hn le6 dX7_line_58 (fun H locs cells slots I hn1 hn2 => ?_)
      have I : s_I G q4.2 s H locs := I
      have hn : cells + σ0.2.1 ≤ q4.2.2.1 ∧ slots + σ0.2.2.1 ≤ q4.2.2.2.1 := ⟨hn1, hn2⟩
      obtain ⟨q7, h7, hf⟩ := s_bind hf
      have le8 : s_le q7.2 (e_IX r).2 := by
        refine s_lek hem_IX ?_ k
        rcases s_ite hf with ⟨-, hf⟩ | ⟨-, hf⟩
        · cases hf
          exact s_ex_le
        · obtain ⟨x8, -, hf⟩ := s_bind hf
          obtain ⟨x9, -, hf⟩ := s_bind hf
          rcases s_ite hf with ⟨-, hf⟩ | ⟨-, hf⟩
          · obtain ⟨x10, -, hf⟩ := s_bind hf
            obtain ⟨q11, hh, hf⟩ := s_bind hf
            refine s_lz.tr (l_X1_addLine hh) ?_
            cases hf
            exact s_le.rf
          · cases hf
            exact s_ex_le
      refine lv_iload_n hx hb dX7_line_61 rfl (lv_at hl 3 rfl) ?_
      refine lv_iload hx hb dX7_line_62 (lv_at hl 4 rfl) ?_
      refine lv_iload hx hb dX7_line_64 (lv_at hl 5 rfl) ?_
      refine lv_iload hx hb dX7_line_66 (lv_at hl 6 rfl) ?_
      refine r_callS (Y := M_X7_areInOrder) (v := some (.int q7.1)) X I w_1143 my_X7_areInOrder (by omega) (t_X7_areInOrder (G := G) (d := d + 3) h7) rfl rfl hl.1 rfl (Nat.le_of_ble_eq_true rfl) hn le8 dX7_line_68 (fun H locs cells slots I hn1 hn2 => ?_)
      have I : s_I G q7.2 s H locs := I
      have hn : cells + σ0.2.1 ≤ q7.2.2.1 ∧ slots + σ0.2.2.1 ≤ q7.2.2.2.1 := ⟨hn1, hn2⟩
      rcases s_ite hf with ⟨c9, hf⟩ | ⟨c9, hf⟩
      · refine lv_if_ne (tgt := 84) hx hb dX7_line_71 (by decide) (fun n => absurd c9 n) (fun _ => ?_)
        cases hf
        have k : _ = r := k
        subst k
        exact r_throw X I rfl th_X7_96_184 hl.1 (Nat.le_of_ble_eq_true rfl) hn rfl dX7_line_74 dX7_line_77 dX7_line_78 dX7_line_80 dX7_line_83
      · refine lv_if_ne (tgt := 84) hx hb dX7_line_71 (by decide) (fun _ => ?_) (fun n => absurd n c9)
        obtain ⟨x8, h10, hf⟩ := s_bind hf
        obtain ⟨x9, h11, hf⟩ := s_bind hf
        refine lv_aload_n hx hb dX7_line_84 rfl (lv_at hl 0 rfl) ?_
        refine r_gr X I fl_X7_19 h10 dX7_line_85 ?_
        refine r_gi X I fl_X7_186 h11 dX7_line_88 ?_
        refine lv_bipush (v := 40) hx hb dX7_line_91 (by decide) ?_
        rcases s_ite hf with ⟨c12, hf⟩ | ⟨c12, hf⟩
        · refine lv_icmp_lt (tgt := 106) hx hb dX7_line_93 (by decide) (fun _ => ?_) (fun n => absurd c12 n)
          obtain ⟨x10, h13, hf⟩ := s_bind hf
          obtain ⟨q11, h14, hf⟩ := s_bind hf
          cases hf
          have k : _ = r := k
          subst k
          have le15 : s_le q11.2 q11.2 := s_le.rf
          refine lv_aload_n hx hb dX7_line_106 rfl (lv_at hl 0 rfl) ?_
          refine r_gr X I fl_X7_19 h13 dX7_line_107 ?_
          refine lv_iload_n hx hb dX7_line_110 rfl (lv_at hl 1 rfl) ?_
          refine lv_iload_n hx hb dX7_line_111 rfl (lv_at hl 2 rfl) ?_
          refine lv_iload_n hx hb dX7_line_112 rfl (lv_at hl 3 rfl) ?_
          refine lv_iload hx hb dX7_line_113 (lv_at hl 4 rfl) ?_
          refine lv_iload hx hb dX7_line_115 (lv_at hl 5 rfl) ?_
          refine lv_iload hx hb dX7_line_117 (lv_at hl 6 rfl) ?_
          refine r_callV (Y := M_X1_addLine) (v := some (.int q11.1)) X I w_1148 my_X1_addLine (by omega) (t_X1_addLine (G := G) (d := d + 0) h14) (b_X1_addLine h14) rfl rfl hl.1 rfl (Nat.le_of_ble_eq_true rfl) hn le15 dX7_line_119 (fun H locs cells slots I hn1 hn2 => ?_)
          have I : s_I G q11.2 s H locs := I
          have hn : cells + σ0.2.1 ≤ q11.2.2.1 ∧ slots + σ0.2.2.1 ≤ q11.2.2.2.1 := ⟨hn1, hn2⟩
          exact r_iret X I rfl rfl rfl hn dX7_line_122
        · refine lv_icmp_lt (tgt := 106) hx hb dX7_line_93 (by decide) (fun n => absurd n c12) (fun _ => ?_)
          cases hf
          have k : _ = r := k
          subst k
          exact r_throw X I rfl th_X7_106_189 hl.1 (Nat.le_of_ble_eq_true rfl) hn rfl dX7_line_96 dX7_line_99 dX7_line_100 dX7_line_102 dX7_line_105
    · cases hf
      have k : _ = r := k
      subst k
      exact r_callVx (Y := M_X7_needPremise) X I rfl w_1134 my_X7_needPremise (by omega) (t_X7_needPremise (G := G) (d := d + 2) h4) (b_X7_needPremise h4) (e_VX_r hq5) rfl hl.1 rfl (Nat.le_of_ble_eq_true rfl) hn rfl dX7_line_58
  · cases hf
    have k : _ = r := k
    subst k
    exact r_callVx (Y := M_X7_needPremise) X I rfl w_1134 my_X7_needPremise (by omega) (t_X7_needPremise (G := G) (d := d + 2) h1) (b_X7_needPremise h1) (e_VX_r hq2) rfl hl.1 rfl (Nat.le_of_ble_eq_true rfl) hn rfl dX7_line_52
theorem v_X7_line {G : sG} {d : Nat} {vs0 : List Value} {σ0 : sS} {x : sL} {z : sZ (Int32 ⊕ String)} {r : (Int32 ⊕ String) × sS} (hs : S_X7_line x = some z) (k : s_K G (d + 5) M_X7_line vs0 σ0 Y_X7_line e_IX z r) : s_V G (d + 5) M_X7_line vs0 σ0 Y_X7_line x (e_IX r) := by
  obtain ⟨pc, vs, σ⟩ := x
  unfold S_X7_line at hs
  dsimp only at hs
  rcases s_ite hs with ⟨c, hs⟩ | ⟨-, hs⟩
  · subst c
    unfold U_X7_line_0 at hs
    obtain ⟨a0, g0, hs⟩ := s_bind hs
    obtain ⟨a1, g1, hs⟩ := s_bind hs
    obtain ⟨a2, g2, hs⟩ := s_bind hs
    obtain ⟨a3, g3, hs⟩ := s_bind hs
    obtain ⟨a4, g4, hs⟩ := s_bind hs
    obtain ⟨a5, g5, hs⟩ := s_bind hs
    obtain ⟨a6, g6, hs⟩ := s_bind hs
    obtain ⟨u9, ge, hs⟩ := s_bind hs
    rw [g_r_to g0, g_i_to g1, g_i_to g2, g_i_to g3, g_i_to g4, g_i_to g5, g_i_to g6, g_e_to ge]
    exact v_X7_line_0 hs k
  rcases s_ite hs with ⟨c, hs⟩ | ⟨-, hs⟩
  · subst c
    unfold U_X7_line_49 at hs
    obtain ⟨a0, g0, hs⟩ := s_bind hs
    obtain ⟨a1, g1, hs⟩ := s_bind hs
    obtain ⟨a2, g2, hs⟩ := s_bind hs
    obtain ⟨a3, g3, hs⟩ := s_bind hs
    obtain ⟨a4, g4, hs⟩ := s_bind hs
    obtain ⟨a5, g5, hs⟩ := s_bind hs
    obtain ⟨a6, g6, hs⟩ := s_bind hs
    obtain ⟨u9, ge, hs⟩ := s_bind hs
    rw [g_r_to g0, g_i_to g1, g_i_to g2, g_i_to g3, g_i_to g4, g_i_to g5, g_i_to g6, g_e_to ge]
    exact v_X7_line_49 hs k
  cases hs
theorem t_X7_line {G : sG} {d : Nat} {v0 : Nat} {v1 : Int32} {v2 : Int32} {v3 : Int32} {v4 : Int32} {v5 : Int32} {v6 : Int32} {σ : sS} {q : (Int32 ⊕ String) × sS} (h : F_X7_line v0 v1 v2 v3 v4 v5 v6 σ = some q) : s_T G (d + 5) M_X7_line [.ref v0, .int v1, .int v2, .int v3, .int v4, .int v5, .int v6] σ (e_IX q) := by
  unfold F_X7_line at h
  obtain ⟨-, -, h⟩ := s_bind h
  exact s_ofV rfl (by decide) (Nat.le_of_ble_eq_true rfl) rfl rfl (s_run_ind (V := fun x r => s_V G (d + 5) M_X7_line [.ref v0, .int v1, .int v2, .int v3, .int v4, .int v5, .int v6] σ Y_X7_line x (e_IX r)) (fun x z r hs hk => v_X7_line hs (by cases z <;> exact hk)) h)
/-! L_line -/
noncomputable def T_L_line_0 (v0 : Nat) (v1 : Int32) (v2 : Int32) (v3 : Int32) (v4 : Int32) (v5 : Int32) (v6 : Int32) (v7 : Nat) (σ : sS) : Option (sZ Int32) :=
  (F_X7_line v0 v1 v2 v3 v4 v5 v6 σ).bind fun q1 => s_sum q1.1 (fun x2 => (s_sl q1.2 v7 0 ((x2 : Int32).toInt64)).bind fun σ4 =>
  some (.inr (0, σ4))) (fun E3 => if E3 = "java/lang/IndexOutOfBoundsException" then (some (.inr (1, q1.2))) else if E3 = "java/lang/IllegalArgumentException" then (some (.inr (2, q1.2))) else if E3 = "java/lang/UnsupportedOperationException" then (some (.inr (3, q1.2))) else none)
noncomputable def U_L_line_0 (vs : List Value) (σ : sS) : Option (sZ Int32) := (g_r vs).bind fun a0 => (g_i a0.2).bind fun a1 => (g_i a1.2).bind fun a2 => (g_i a2.2).bind fun a3 => (g_i a3.2).bind fun a4 => (g_i a4.2).bind fun a5 => (g_i a5.2).bind fun a6 => (g_r a6.2).bind fun a7 => (g_e a7.2).bind fun _ => T_L_line_0 a0.1 a1.1 a2.1 a3.1 a4.1 a5.1 a6.1 a7.1 σ
noncomputable def S_L_line (x : sL) : Option (sZ Int32) := if x.1 = 0 then U_L_line_0 x.2.1 x.2.2 else none
def Y_L_line (pc : Nat) : List Nat := if pc = 0 then [0, 1, 2, 3, 4, 5, 6, 7] else []
noncomputable def F_L_line (v0 : Nat) (v1 : Int32) (v2 : Int32) (v3 : Int32) (v4 : Int32) (v5 : Int32) (v6 : Int32) (v7 : Nat) (σ : sS) : Option (Int32 × sS) := s_run S_L_line (0, [.ref v0, .int v1, .int v2, .int v3, .int v4, .int v5, .int v6, .ref v7], σ)
theorem hp_L_line_13_1 : s_pass RL "java/lang/IllegalArgumentException" 13 [(0, 18, 21, 27)] := fun z hz => by
  simp only [List.mem_cons, List.not_mem_nil, or_false] at hz
  rcases hz with rfl
  · exact ⟨rfl, by decide, "java/lang/IndexOutOfBoundsException", w_1011, by decide +kernel⟩
theorem hp_L_line_13_2 : s_pass RL "java/lang/UnsupportedOperationException" 13 [(0, 18, 21, 27), (0, 18, 25, 13)] := fun z hz => by
  simp only [List.mem_cons, List.not_mem_nil, or_false] at hz
  rcases hz with rfl | rfl
  · exact ⟨rfl, by decide, "java/lang/IndexOutOfBoundsException", w_1011, by decide +kernel⟩
  · exact ⟨rfl, by decide, "java/lang/IllegalArgumentException", w_691, by decide +kernel⟩
theorem l_L_line_0 {v0 : Nat} {v1 : Int32} {v2 : Int32} {v3 : Int32} {v4 : Int32} {v5 : Int32} {v6 : Int32} {v7 : Nat} {σ : sS} {z : sZ Int32} (hf : T_L_line_0 v0 v1 v2 v3 v4 v5 v6 v7 σ = some z) : s_lz σ z := by
  unfold T_L_line_0 at hf
  obtain ⟨q1, hh, hf⟩ := s_bind hf
  refine s_lz.tr (l_X7_line hh) ?_
  rcases s_sum_some hf with ⟨x2, -, hf⟩ | ⟨E3, -, hf⟩
  · obtain ⟨σ4, hh, hf⟩ := s_bind hf
    refine s_lz.tr (s_le2 (s_sl_2 hh)) ?_
    cases hf
    exact s_le.rf
  · rcases s_ite hf with ⟨-, hf⟩ | ⟨-, hf⟩
    · cases hf
      exact s_le.rf
    rcases s_ite hf with ⟨-, hf⟩ | ⟨-, hf⟩
    · cases hf
      exact s_le.rf
    rcases s_ite hf with ⟨-, hf⟩ | ⟨-, hf⟩
    · cases hf
      exact s_le.rf
    cases hf
theorem l_L_line_s {x : sL} {z : sZ Int32} (hs : S_L_line x = some z) : s_lz x.2.2 z := by
  obtain ⟨pc, vs, σ⟩ := x
  unfold S_L_line at hs
  dsimp only at hs ⊢
  rcases s_ite hs with ⟨c, hs⟩ | ⟨-, hs⟩
  · subst c
    unfold U_L_line_0 at hs
    obtain ⟨a0, g0, hs⟩ := s_bind hs
    obtain ⟨a1, g1, hs⟩ := s_bind hs
    obtain ⟨a2, g2, hs⟩ := s_bind hs
    obtain ⟨a3, g3, hs⟩ := s_bind hs
    obtain ⟨a4, g4, hs⟩ := s_bind hs
    obtain ⟨a5, g5, hs⟩ := s_bind hs
    obtain ⟨a6, g6, hs⟩ := s_bind hs
    obtain ⟨a7, g7, hs⟩ := s_bind hs
    obtain ⟨u9, ge, hs⟩ := s_bind hs
    exact l_L_line_0 hs
  cases hs
theorem l_L_line {v0 : Nat} {v1 : Int32} {v2 : Int32} {v3 : Int32} {v4 : Int32} {v5 : Int32} {v6 : Int32} {v7 : Nat} {σ : sS} {q : Int32 × sS} (h : F_L_line v0 v1 v2 v3 v4 v5 v6 v7 σ = some q) : s_le σ q.2 := by
  unfold F_L_line at h
  exact s_run_ind (V := fun x r => s_le x.2.2 r.2) (fun x z r hs hk => by
    have h9 := l_L_line_s hs
    cases z with
    | inl y => exact s_le.tr h9 hk
    | inr q => cases hk; exact h9) h
set_option maxRecDepth 100000 in
set_option maxHeartbeats 4000000 in
theorem v_L_line_0 {G : sG} {d : Nat} {vs0 : List Value} {σ0 : sS} {v0 : Nat} {v1 : Int32} {v2 : Int32} {v3 : Int32} {v4 : Int32} {v5 : Int32} {v6 : Int32} {v7 : Nat} {σ : sS} {z : sZ Int32} {r : Int32 × sS} (hf : T_L_line_0 v0 v1 v2 v3 v4 v5 v6 v7 σ = some z) (k : s_K G (d + 6) M_L_line vs0 σ0 Y_L_line e_I z r) : s_V G (d + 6) M_L_line vs0 σ0 Y_L_line (0, [.ref v0, .int v1, .int v2, .int v3, .int v4, .int v5, .int v6, .ref v7], σ) (e_I r) := by
  have le0 : s_le σ (e_I r).2 := s_lek hem_I (l_L_line_0 hf) k
  refine ⟨le0, ?_⟩
  intro p e s m below meth c H locs cells slots ls X I hn1 hn2 hl
  have hn : cells + σ0.2.1 ≤ σ.2.1 ∧ slots + σ0.2.2.1 ≤ σ.2.2.1 := ⟨hn1, hn2⟩
  have hl : lv_has ls 9 [(0, .ref v0), (1, .int v1), (2, .int v2), (3, .int v3), (4, .int v4), (5, .int v5), (6, .int v6), (7, .ref v7)] := hl
  have hx := X.1
  have hb : c.code = cL_line := X.2.1
  have hown : s.vm.findClass RL = some m.cls := X.2.2.2.2.2.1
  have hts := X.2.2.2.2.2.2.1
  refine W.eq (g2 := F0 m 0 ls []) rfl ?_
  unfold T_L_line_0 at hf
  obtain ⟨q1, h1, hf⟩ := s_bind hf
  refine lv_aload hx hb dL_line_0 (lv_at hl 7 rfl) ?_
  refine lv_iconst (v := 0) hx hb dL_line_2 (by decide) ?_
  refine lv_aload_n hx hb dL_line_3 rfl (lv_at hl 0 rfl) ?_
  refine lv_iload_n hx hb dL_line_4 rfl (lv_at hl 1 rfl) ?_
  refine lv_iload_n hx hb dL_line_5 rfl (lv_at hl 2 rfl) ?_
  refine lv_iload_n hx hb dL_line_6 rfl (lv_at hl 3 rfl) ?_
  refine lv_iload hx hb dL_line_7 (lv_at hl 4 rfl) ?_
  refine lv_iload hx hb dL_line_9 (lv_at hl 5 rfl) ?_
  refine lv_iload hx hb dL_line_11 (lv_at hl 6 rfl) ?_
  rcases s_sum_some hf with ⟨x2, hq2, hf⟩ | ⟨E3, hq2, hf⟩
  · have le3 : s_le q1.2 (e_I r).2 := by
      refine s_lek hem_I ?_ k
      obtain ⟨σ4, hh, hf⟩ := s_bind hf
      refine s_lz.tr (s_le2 (s_sl_2 hh)) ?_
      cases hf
      exact s_le.rf
    refine r_callV (Y := M_X7_line) (v := some (.int x2)) X I w_1130 my_X7_line (by omega) (t_X7_line (G := G) (d := d + 0) h1) (b_X7_line h1) (e_IX_l hq2) rfl hl.1 rfl (Nat.le_of_ble_eq_true rfl) hn le3 dL_line_13 (fun H locs cells slots I hn1 hn2 => ?_)
    have I : s_I G q1.2 s H locs := I
    have hn : cells + σ0.2.1 ≤ q1.2.2.1 ∧ slots + σ0.2.2.1 ≤ q1.2.2.2.1 := ⟨hn1, hn2⟩
    obtain ⟨σ4, h4, hf⟩ := s_bind hf
    cases hf
    have k : _ = r := k
    subst k
    have le5 : s_le σ4 σ4 := s_le.rf
    refine lv_i2l hx hb dL_line_16 rfl ?_
    refine r_last X I h4 dL_line_17 (fun H locs I => ?_)
    have hn := s_k2 (s_sl_2 h4) hn
    refine lv_goto (tgt := 33) hx hb dL_line_18 (by decide) ?_
    refine lv_iconst (v := 0) hx hb dL_line_33 (by decide) ?_
    exact r_iret X I rfl rfl rfl hn dL_line_34
  · rcases s_ite hf with ⟨c6, hf⟩ | ⟨c6, hf⟩
    · subst c6
      have le7 : s_le q1.2 (e_I r).2 := by
        refine s_lek hem_I ?_ k
        cases hf
        exact s_le.rf
      refine r_callVh (x := (0, 18, 21, 27)) (Y := M_X7_line) (E := "java/lang/IndexOutOfBoundsException") (name := "java/lang/IndexOutOfBoundsException") X I [] [(0, 18, 25, 13), (0, 18, 29, 15)] rfl (fun z hz => by cases hz) rfl (by decide) w_1011 (by decide +kernel) w_1130 my_X7_line (by omega) (t_X7_line (G := G) (d := d + 0) h1) (b_X7_line h1) (e_IX_r hq2) rfl hl.1 rfl (Nat.le_of_ble_eq_true rfl) hn le7 dL_line_13 (fun a5 H locs cells slots I hn1 hn2 => ?_)
      have I : s_I G q1.2 s H locs := I
      have hn : cells + σ0.2.1 ≤ q1.2.2.1 ∧ slots + σ0.2.2.1 ≤ q1.2.2.2.1 := ⟨hn1, hn2⟩
      cases hf
      have k : _ = r := k
      subst k
      refine lv_astore (lv' := [(8, .ref a5), (0, .ref v0), (1, .int v1), (2, .int v2), (3, .int v3), (4, .int v4), (5, .int v5), (6, .int v6), (7, .ref v7)]) hx hb dL_line_21 hl (by decide) rfl (fun ls hl => ?_)
      refine lv_iconst (v := 1) hx hb dL_line_23 (by decide) ?_
      exact r_iret X I rfl rfl rfl hn dL_line_24
    rcases s_ite hf with ⟨c8, hf⟩ | ⟨c8, hf⟩
    · subst c8
      have le9 : s_le q1.2 (e_I r).2 := by
        refine s_lek hem_I ?_ k
        cases hf
        exact s_le.rf
      refine r_callVh (x := (0, 18, 25, 13)) (Y := M_X7_line) (E := "java/lang/IllegalArgumentException") (name := "java/lang/IllegalArgumentException") X I [(0, 18, 21, 27)] [(0, 18, 29, 15)] rfl hp_L_line_13_1 rfl (by decide) w_691 (by decide +kernel) w_1130 my_X7_line (by omega) (t_X7_line (G := G) (d := d + 0) h1) (b_X7_line h1) (e_IX_r hq2) rfl hl.1 rfl (Nat.le_of_ble_eq_true rfl) hn le9 dL_line_13 (fun a6 H locs cells slots I hn1 hn2 => ?_)
      have I : s_I G q1.2 s H locs := I
      have hn : cells + σ0.2.1 ≤ q1.2.2.1 ∧ slots + σ0.2.2.1 ≤ q1.2.2.2.1 := ⟨hn1, hn2⟩
      cases hf
      have k : _ = r := k
      subst k
      refine lv_astore (lv' := [(8, .ref a6), (0, .ref v0), (1, .int v1), (2, .int v2), (3, .int v3), (4, .int v4), (5, .int v5), (6, .int v6), (7, .ref v7)]) hx hb dL_line_25 hl (by decide) rfl (fun ls hl => ?_)
      refine lv_iconst (v := 2) hx hb dL_line_27 (by decide) ?_
      exact r_iret X I rfl rfl rfl hn dL_line_28
    rcases s_ite hf with ⟨c10, hf⟩ | ⟨c10, hf⟩
    · subst c10
      have le11 : s_le q1.2 (e_I r).2 := by
        refine s_lek hem_I ?_ k
        cases hf
        exact s_le.rf
      refine r_callVh (x := (0, 18, 29, 15)) (Y := M_X7_line) (E := "java/lang/UnsupportedOperationException") (name := "java/lang/UnsupportedOperationException") X I [(0, 18, 21, 27), (0, 18, 25, 13)] [] rfl hp_L_line_13_2 rfl (by decide) w_692 (by decide +kernel) w_1130 my_X7_line (by omega) (t_X7_line (G := G) (d := d + 0) h1) (b_X7_line h1) (e_IX_r hq2) rfl hl.1 rfl (Nat.le_of_ble_eq_true rfl) hn le11 dL_line_13 (fun a7 H locs cells slots I hn1 hn2 => ?_)
      have I : s_I G q1.2 s H locs := I
      have hn : cells + σ0.2.1 ≤ q1.2.2.1 ∧ slots + σ0.2.2.1 ≤ q1.2.2.2.1 := ⟨hn1, hn2⟩
      cases hf
      have k : _ = r := k
      subst k
      refine lv_astore (lv' := [(8, .ref a7), (0, .ref v0), (1, .int v1), (2, .int v2), (3, .int v3), (4, .int v4), (5, .int v5), (6, .int v6), (7, .ref v7)]) hx hb dL_line_29 hl (by decide) rfl (fun ls hl => ?_)
      refine lv_iconst (v := 3) hx hb dL_line_31 (by decide) ?_
      exact r_iret X I rfl rfl rfl hn dL_line_32
    cases hf
theorem v_L_line {G : sG} {d : Nat} {vs0 : List Value} {σ0 : sS} {x : sL} {z : sZ Int32} {r : Int32 × sS} (hs : S_L_line x = some z) (k : s_K G (d + 6) M_L_line vs0 σ0 Y_L_line e_I z r) : s_V G (d + 6) M_L_line vs0 σ0 Y_L_line x (e_I r) := by
  obtain ⟨pc, vs, σ⟩ := x
  unfold S_L_line at hs
  dsimp only at hs
  rcases s_ite hs with ⟨c, hs⟩ | ⟨-, hs⟩
  · subst c
    unfold U_L_line_0 at hs
    obtain ⟨a0, g0, hs⟩ := s_bind hs
    obtain ⟨a1, g1, hs⟩ := s_bind hs
    obtain ⟨a2, g2, hs⟩ := s_bind hs
    obtain ⟨a3, g3, hs⟩ := s_bind hs
    obtain ⟨a4, g4, hs⟩ := s_bind hs
    obtain ⟨a5, g5, hs⟩ := s_bind hs
    obtain ⟨a6, g6, hs⟩ := s_bind hs
    obtain ⟨a7, g7, hs⟩ := s_bind hs
    obtain ⟨u9, ge, hs⟩ := s_bind hs
    rw [g_r_to g0, g_i_to g1, g_i_to g2, g_i_to g3, g_i_to g4, g_i_to g5, g_i_to g6, g_r_to g7, g_e_to ge]
    exact v_L_line_0 hs k
  cases hs
theorem t_L_line {G : sG} {d : Nat} {v0 : Nat} {v1 : Int32} {v2 : Int32} {v3 : Int32} {v4 : Int32} {v5 : Int32} {v6 : Int32} {v7 : Nat} {σ : sS} {q : Int32 × sS} (h : F_L_line v0 v1 v2 v3 v4 v5 v6 v7 σ = some q) : s_T G (d + 6) M_L_line [.ref v0, .int v1, .int v2, .int v3, .int v4, .int v5, .int v6, .ref v7] σ (e_I q) := by
  unfold F_L_line at h
  exact s_ofVH rfl (by decide) (Nat.le_of_ble_eq_true rfl) rfl rfl (s_run_ind (V := fun x r => s_V G (d + 6) M_L_line [.ref v0, .int v1, .int v2, .int v3, .int v4, .int v5, .int v6, .ref v7] σ Y_L_line x (e_I r)) (fun x z r hs hk => v_L_line hs (by cases z <;> exact hk)) h)
/-! X8_lines -/
noncomputable def T_X8_lines_0 (v0 : Nat) (σ : sS) : Option (sZ Int32) :=
  (s_fr σ v0 8 1).bind fun x1 =>
  (s_ai σ x1 2).bind fun x2 =>
  some (.inr (x2, σ))
noncomputable def U_X8_lines_0 (vs : List Value) (σ : sS) : Option (sZ Int32) := (g_r vs).bind fun a0 => (g_e a0.2).bind fun _ => T_X8_lines_0 a0.1 σ
noncomputable def S_X8_lines (x : sL) : Option (sZ Int32) := if x.1 = 0 then U_X8_lines_0 x.2.1 x.2.2 else none
def Y_X8_lines (pc : Nat) : List Nat := if pc = 0 then [0] else []
noncomputable def F_X8_lines (v0 : Nat) (σ : sS) : Option (Int32 × sS) := (s_is σ v0 8).bind fun _ => s_run S_X8_lines (0, [.ref v0], σ)
theorem l_X8_lines_0 {v0 : Nat} {σ : sS} {z : sZ Int32} (hf : T_X8_lines_0 v0 σ = some z) : s_lz σ z := by
  unfold T_X8_lines_0 at hf
  obtain ⟨x1, -, hf⟩ := s_bind hf
  obtain ⟨x2, -, hf⟩ := s_bind hf
  cases hf
  exact s_le.rf
theorem l_X8_lines_s {x : sL} {z : sZ Int32} (hs : S_X8_lines x = some z) : s_lz x.2.2 z := by
  obtain ⟨pc, vs, σ⟩ := x
  unfold S_X8_lines at hs
  dsimp only at hs ⊢
  rcases s_ite hs with ⟨c, hs⟩ | ⟨-, hs⟩
  · subst c
    unfold U_X8_lines_0 at hs
    obtain ⟨a0, g0, hs⟩ := s_bind hs
    obtain ⟨u9, ge, hs⟩ := s_bind hs
    exact l_X8_lines_0 hs
  cases hs
theorem l_X8_lines {v0 : Nat} {σ : sS} {q : Int32 × sS} (h : F_X8_lines v0 σ = some q) : s_le σ q.2 := by
  unfold F_X8_lines at h
  obtain ⟨-, -, h⟩ := s_bind h
  exact s_run_ind (V := fun x r => s_le x.2.2 r.2) (fun x z r hs hk => by
    have h9 := l_X8_lines_s hs
    cases z with
    | inl y => exact s_le.tr h9 hk
    | inr q => cases hk; exact h9) h
theorem b_X8_lines {v0 : Nat} {σ : sS} {q : Int32 × sS} (h : F_X8_lines v0 σ = some q) : ∃ fs, σ.1 v0 = some (.inr (8, fs)) := by
  unfold F_X8_lines at h
  obtain ⟨u, hu, -⟩ := s_bind h
  exact s_is_to hu
set_option maxRecDepth 100000 in
set_option maxHeartbeats 4000000 in
theorem v_X8_lines_0 {G : sG} {d : Nat} {vs0 : List Value} {σ0 : sS} {v0 : Nat} {σ : sS} {z : sZ Int32} {r : Int32 × sS} (hf : T_X8_lines_0 v0 σ = some z) (k : s_K G (d + 1) M_X8_lines vs0 σ0 Y_X8_lines e_I z r) : s_V G (d + 1) M_X8_lines vs0 σ0 Y_X8_lines (0, [.ref v0], σ) (e_I r) := by
  have le0 : s_le σ (e_I r).2 := s_lek hem_I (l_X8_lines_0 hf) k
  refine ⟨le0, ?_⟩
  intro p e s m below meth c H locs cells slots ls X I hn1 hn2 hl
  have hn : cells + σ0.2.1 ≤ σ.2.1 ∧ slots + σ0.2.2.1 ≤ σ.2.2.1 := ⟨hn1, hn2⟩
  have hl : lv_has ls 1 [(0, .ref v0)] := hl
  have hx := X.1
  have hb : c.code = cX8_lines := X.2.1
  have hown : s.vm.findClass RX8 = some m.cls := X.2.2.2.2.2.1
  have hts := X.2.2.2.2.2.2.1
  refine W.eq (g2 := F0 m 0 ls []) rfl ?_
  unfold T_X8_lines_0 at hf
  obtain ⟨x1, h1, hf⟩ := s_bind hf
  obtain ⟨x2, h2, hf⟩ := s_bind hf
  cases hf
  have k : _ = r := k
  subst k
  refine lv_aload_n hx hb dX8_lines_0 rfl (lv_at hl 0 rfl) ?_
  refine r_gr X I fl_X8_13 h1 dX8_lines_1 ?_
  refine lv_iconst (v := 2) hx hb dX8_lines_4 (by decide) ?_
  refine r_iald X I h2 dX8_lines_5 ?_
  exact r_iret X I rfl rfl rfl hn dX8_lines_6
theorem v_X8_lines {G : sG} {d : Nat} {vs0 : List Value} {σ0 : sS} {x : sL} {z : sZ Int32} {r : Int32 × sS} (hs : S_X8_lines x = some z) (k : s_K G (d + 1) M_X8_lines vs0 σ0 Y_X8_lines e_I z r) : s_V G (d + 1) M_X8_lines vs0 σ0 Y_X8_lines x (e_I r) := by
  obtain ⟨pc, vs, σ⟩ := x
  unfold S_X8_lines at hs
  dsimp only at hs
  rcases s_ite hs with ⟨c, hs⟩ | ⟨-, hs⟩
  · subst c
    unfold U_X8_lines_0 at hs
    obtain ⟨a0, g0, hs⟩ := s_bind hs
    obtain ⟨u9, ge, hs⟩ := s_bind hs
    rw [g_r_to g0, g_e_to ge]
    exact v_X8_lines_0 hs k
  cases hs
theorem t_X8_lines {G : sG} {d : Nat} {v0 : Nat} {σ : sS} {q : Int32 × sS} (h : F_X8_lines v0 σ = some q) : s_T G (d + 1) M_X8_lines [.ref v0] σ (e_I q) := by
  unfold F_X8_lines at h
  obtain ⟨-, -, h⟩ := s_bind h
  exact s_ofV rfl (by decide) (Nat.le_of_ble_eq_true rfl) rfl rfl (s_run_ind (V := fun x r => s_V G (d + 1) M_X8_lines [.ref v0] σ Y_X8_lines x (e_I r)) (fun x z r hs hk => v_X8_lines hs (by cases z <;> exact hk)) h)
/-! X8_noLine -/
noncomputable def T_X8_noLine_0 (v0 : Nat) (v1 : Int32) (σ : sS) : Option (sZ Int32) :=
  (F_X8_lines v0 σ).bind fun q1 =>
  (F_X8_in v1 0 (q1.1 - 1) q1.2).bind fun q2 =>
  if q2.1 = 0 then (some (.inr (1, q2.2)))
  else (some (.inr (0, q2.2)))
noncomputable def U_X8_noLine_0 (vs : List Value) (σ : sS) : Option (sZ Int32) := (g_r vs).bind fun a0 => (g_i a0.2).bind fun a1 => (g_e a1.2).bind fun _ => T_X8_noLine_0 a0.1 a1.1 σ
noncomputable def S_X8_noLine (x : sL) : Option (sZ Int32) := if x.1 = 0 then U_X8_noLine_0 x.2.1 x.2.2 else none
def Y_X8_noLine (pc : Nat) : List Nat := if pc = 0 then [0, 1] else []
noncomputable def F_X8_noLine (v0 : Nat) (v1 : Int32) (σ : sS) : Option (Int32 × sS) := (s_is σ v0 8).bind fun _ => s_run S_X8_noLine (0, [.ref v0, .int v1], σ)
theorem l_X8_noLine_0 {v0 : Nat} {v1 : Int32} {σ : sS} {z : sZ Int32} (hf : T_X8_noLine_0 v0 v1 σ = some z) : s_lz σ z := by
  unfold T_X8_noLine_0 at hf
  obtain ⟨q1, hh, hf⟩ := s_bind hf
  refine s_lz.tr (l_X8_lines hh) ?_
  obtain ⟨q2, hh, hf⟩ := s_bind hf
  refine s_lz.tr (l_X8_in hh) ?_
  rcases s_ite hf with ⟨-, hf⟩ | ⟨-, hf⟩
  · cases hf
    exact s_le.rf
  · cases hf
    exact s_le.rf
theorem l_X8_noLine_s {x : sL} {z : sZ Int32} (hs : S_X8_noLine x = some z) : s_lz x.2.2 z := by
  obtain ⟨pc, vs, σ⟩ := x
  unfold S_X8_noLine at hs
  dsimp only at hs ⊢
  rcases s_ite hs with ⟨c, hs⟩ | ⟨-, hs⟩
  · subst c
    unfold U_X8_noLine_0 at hs
    obtain ⟨a0, g0, hs⟩ := s_bind hs
    obtain ⟨a1, g1, hs⟩ := s_bind hs
    obtain ⟨u9, ge, hs⟩ := s_bind hs
    exact l_X8_noLine_0 hs
  cases hs
theorem l_X8_noLine {v0 : Nat} {v1 : Int32} {σ : sS} {q : Int32 × sS} (h : F_X8_noLine v0 v1 σ = some q) : s_le σ q.2 := by
  unfold F_X8_noLine at h
  obtain ⟨-, -, h⟩ := s_bind h
  exact s_run_ind (V := fun x r => s_le x.2.2 r.2) (fun x z r hs hk => by
    have h9 := l_X8_noLine_s hs
    cases z with
    | inl y => exact s_le.tr h9 hk
    | inr q => cases hk; exact h9) h
theorem b_X8_noLine {v0 : Nat} {v1 : Int32} {σ : sS} {q : Int32 × sS} (h : F_X8_noLine v0 v1 σ = some q) : ∃ fs, σ.1 v0 = some (.inr (8, fs)) := by
  unfold F_X8_noLine at h
  obtain ⟨u, hu, -⟩ := s_bind h
  exact s_is_to hu
set_option maxRecDepth 100000 in
set_option maxHeartbeats 4000000 in
theorem v_X8_noLine_0 {G : sG} {d : Nat} {vs0 : List Value} {σ0 : sS} {v0 : Nat} {v1 : Int32} {σ : sS} {z : sZ Int32} {r : Int32 × sS} (hf : T_X8_noLine_0 v0 v1 σ = some z) (k : s_K G (d + 2) M_X8_noLine vs0 σ0 Y_X8_noLine e_I z r) : s_V G (d + 2) M_X8_noLine vs0 σ0 Y_X8_noLine (0, [.ref v0, .int v1], σ) (e_I r) := by
  have le0 : s_le σ (e_I r).2 := s_lek hem_I (l_X8_noLine_0 hf) k
  refine ⟨le0, ?_⟩
  intro p e s m below meth c H locs cells slots ls X I hn1 hn2 hl
  have hn : cells + σ0.2.1 ≤ σ.2.1 ∧ slots + σ0.2.2.1 ≤ σ.2.2.1 := ⟨hn1, hn2⟩
  have hl : lv_has ls 2 [(0, .ref v0), (1, .int v1)] := hl
  have hx := X.1
  have hb : c.code = cX8_noLine := X.2.1
  have hown : s.vm.findClass RX8 = some m.cls := X.2.2.2.2.2.1
  have hts := X.2.2.2.2.2.2.1
  refine W.eq (g2 := F0 m 0 ls []) rfl ?_
  unfold T_X8_noLine_0 at hf
  obtain ⟨q1, h1, hf⟩ := s_bind hf
  obtain ⟨q2, h2, hf⟩ := s_bind hf
  have le3 : s_le q2.2 (e_I r).2 := by
    refine s_lek hem_I ?_ k
    rcases s_ite hf with ⟨-, hf⟩ | ⟨-, hf⟩
    · cases hf
      exact s_le.rf
    · cases hf
      exact s_le.rf
  have le4 := s_le.tr (l_X8_in h2) le3
  refine lv_iload_n hx hb dX8_noLine_0 rfl (lv_at hl 1 rfl) ?_
  refine lv_iconst (v := 0) hx hb dX8_noLine_1 (by decide) ?_
  refine lv_aload_n hx hb dX8_noLine_2 rfl (lv_at hl 0 rfl) ?_
  refine r_callV (Y := M_X8_lines) (v := some (.int q1.1)) X I w_2003 my_X8_lines (by omega) (t_X8_lines (G := G) (d := d + 0) h1) (b_X8_lines h1) rfl rfl hl.1 rfl (Nat.le_of_ble_eq_true rfl) hn le4 dX8_noLine_3 (fun H locs cells slots I hn1 hn2 => ?_)
  have I : s_I G q1.2 s H locs := I
  have hn : cells + σ0.2.1 ≤ q1.2.2.1 ∧ slots + σ0.2.2.1 ≤ q1.2.2.2.1 := ⟨hn1, hn2⟩
  refine lv_iconst (v := 1) hx hb dX8_noLine_6 (by decide) ?_
  refine lv_isub hx hb dX8_noLine_7 ?_
  refine r_callS (Y := M_X8_in) (v := some (.int q2.1)) X I w_1909 my_X8_in (by omega) (t_X8_in (G := G) (d := d + 0) h2) rfl rfl hl.1 rfl (Nat.le_of_ble_eq_true rfl) hn le3 dX8_noLine_8 (fun H locs cells slots I hn1 hn2 => ?_)
  have I : s_I G q2.2 s H locs := I
  have hn : cells + σ0.2.1 ≤ q2.2.2.1 ∧ slots + σ0.2.2.1 ≤ q2.2.2.2.1 := ⟨hn1, hn2⟩
  rcases s_ite hf with ⟨c5, hf⟩ | ⟨c5, hf⟩
  · refine lv_if_ne (tgt := 18) hx hb dX8_noLine_11 (by decide) (fun n => absurd c5 n) (fun _ => ?_)
    cases hf
    have k : _ = r := k
    subst k
    refine lv_iconst (v := 1) hx hb dX8_noLine_14 (by decide) ?_
    refine lv_goto (tgt := 19) hx hb dX8_noLine_15 (by decide) ?_
    exact r_iret X I rfl rfl rfl hn dX8_noLine_19
  · refine lv_if_ne (tgt := 18) hx hb dX8_noLine_11 (by decide) (fun _ => ?_) (fun n => absurd n c5)
    cases hf
    have k : _ = r := k
    subst k
    refine lv_iconst (v := 0) hx hb dX8_noLine_18 (by decide) ?_
    exact r_iret X I rfl rfl rfl hn dX8_noLine_19
theorem v_X8_noLine {G : sG} {d : Nat} {vs0 : List Value} {σ0 : sS} {x : sL} {z : sZ Int32} {r : Int32 × sS} (hs : S_X8_noLine x = some z) (k : s_K G (d + 2) M_X8_noLine vs0 σ0 Y_X8_noLine e_I z r) : s_V G (d + 2) M_X8_noLine vs0 σ0 Y_X8_noLine x (e_I r) := by
  obtain ⟨pc, vs, σ⟩ := x
  unfold S_X8_noLine at hs
  dsimp only at hs
  rcases s_ite hs with ⟨c, hs⟩ | ⟨-, hs⟩
  · subst c
    unfold U_X8_noLine_0 at hs
    obtain ⟨a0, g0, hs⟩ := s_bind hs
    obtain ⟨a1, g1, hs⟩ := s_bind hs
    obtain ⟨u9, ge, hs⟩ := s_bind hs
    rw [g_r_to g0, g_i_to g1, g_e_to ge]
    exact v_X8_noLine_0 hs k
  cases hs
theorem t_X8_noLine {G : sG} {d : Nat} {v0 : Nat} {v1 : Int32} {σ : sS} {q : Int32 × sS} (h : F_X8_noLine v0 v1 σ = some q) : s_T G (d + 2) M_X8_noLine [.ref v0, .int v1] σ (e_I q) := by
  unfold F_X8_noLine at h
  obtain ⟨-, -, h⟩ := s_bind h
  exact s_ofV rfl (by decide) (Nat.le_of_ble_eq_true rfl) rfl rfl (s_run_ind (V := fun x r => s_V G (d + 2) M_X8_noLine [.ref v0, .int v1] σ Y_X8_noLine x (e_I r)) (fun x z r hs hk => v_X8_noLine hs (by cases z <;> exact hk)) h)
/-! X8_line -/
noncomputable def T_X8_line_0 (v0 : Nat) (v1 : Int32) (v2 : Int32) (v3 : Int32) (v4 : Int32) (v5 : Int32) (v6 : Int32) (σ : sS) : Option (sZ Int32) :=
  (s_pf σ v0 8 0 (.int 0)).bind fun σ1 =>
  if v3 = 0 then (some (.inl (14, [.ref v0, .int v1, .int v2, .int v3, .int v4, .int v5, .int v6, .int 1], σ1)))
  else (some (.inl (14, [.ref v0, .int v1, .int v2, .int v3, .int v4, .int v5, .int v6, .int 0], σ1)))
noncomputable def U_X8_line_0 (vs : List Value) (σ : sS) : Option (sZ Int32) := (g_r vs).bind fun a0 => (g_i a0.2).bind fun a1 => (g_i a1.2).bind fun a2 => (g_i a2.2).bind fun a3 => (g_i a3.2).bind fun a4 => (g_i a4.2).bind fun a5 => (g_i a5.2).bind fun a6 => (g_e a6.2).bind fun _ => T_X8_line_0 a0.1 a1.1 a2.1 a3.1 a4.1 a5.1 a6.1 σ
noncomputable def T_X8_line_14 (v0 : Nat) (v1 : Int32) (v2 : Int32) (v3 : Int32) (v4 : Int32) (v5 : Int32) (v6 : Int32) (w0 : Int32) (σ : sS) : Option (sZ Int32) :=
  (F_X8_noHouse v1 σ).bind fun q1 =>
  if q1.1 = 0 then ((F_X8_noFormula v0 v2 q1.2).bind fun q2 =>
  if q2.1 = 0 then ((F_X8_in v3 0 15 q2.2).bind fun q3 =>
  if q3.1 = 0 then (some (.inl (104, [.ref v0, .int v1, .int v2, .int v3, .int v4, .int v5, .int v6, .int w0], q3.2)))
  else (if w0 = 0 then (some (.inl (54, [.ref v0, .int v1, .int v2, .int v3, .int v4, .int v5, .int v6, .int w0], q3.2)))
  else ((F_X8_noCustomer v4 q3.2).bind fun q4 =>
  if q4.1 = 0 then (some (.inl (54, [.ref v0, .int v1, .int v2, .int v3, .int v4, .int v5, .int v6, .int w0], q4.2)))
  else (some (.inl (104, [.ref v0, .int v1, .int v2, .int v3, .int v4, .int v5, .int v6, .int w0], q4.2))))))
  else (some (.inl (104, [.ref v0, .int v1, .int v2, .int v3, .int v4, .int v5, .int v6, .int w0], q2.2))))
  else (some (.inl (104, [.ref v0, .int v1, .int v2, .int v3, .int v4, .int v5, .int v6, .int w0], q1.2)))
noncomputable def U_X8_line_14 (vs : List Value) (σ : sS) : Option (sZ Int32) := (g_r vs).bind fun a0 => (g_i a0.2).bind fun a1 => (g_i a1.2).bind fun a2 => (g_i a2.2).bind fun a3 => (g_i a3.2).bind fun a4 => (g_i a4.2).bind fun a5 => (g_i a5.2).bind fun a6 => (g_i a6.2).bind fun a7 => (g_e a7.2).bind fun _ => T_X8_line_14 a0.1 a1.1 a2.1 a3.1 a4.1 a5.1 a6.1 a7.1 σ
noncomputable def T_X8_line_54 (v0 : Nat) (v1 : Int32) (v2 : Int32) (v3 : Int32) (v4 : Int32) (v5 : Int32) (v6 : Int32) (v7 : Int32) (σ : sS) : Option (sZ Int32) :=
  if v7 = 0 then (if v4 = (-1) then (some (.inl (74, [.ref v0, .int v1, .int v2, .int v3, .int v4, .int v5, .int v6, .int v7], σ)))
  else ((F_X8_noLine v0 v4 σ).bind fun q1 =>
  if q1.1 = 0 then (some (.inl (74, [.ref v0, .int v1, .int v2, .int v3, .int v4, .int v5, .int v6, .int v7], q1.2)))
  else (some (.inl (104, [.ref v0, .int v1, .int v2, .int v3, .int v4, .int v5, .int v6, .int v7], q1.2)))))
  else (some (.inl (74, [.ref v0, .int v1, .int v2, .int v3, .int v4, .int v5, .int v6, .int v7], σ)))
noncomputable def U_X8_line_54 (vs : List Value) (σ : sS) : Option (sZ Int32) := (g_r vs).bind fun a0 => (g_i a0.2).bind fun a1 => (g_i a1.2).bind fun a2 => (g_i a2.2).bind fun a3 => (g_i a3.2).bind fun a4 => (g_i a4.2).bind fun a5 => (g_i a5.2).bind fun a6 => (g_i a6.2).bind fun a7 => (g_e a7.2).bind fun _ => T_X8_line_54 a0.1 a1.1 a2.1 a3.1 a4.1 a5.1 a6.1 a7.1 σ
noncomputable def T_X8_line_74 (v0 : Nat) (v1 : Int32) (v2 : Int32) (v3 : Int32) (v4 : Int32) (v5 : Int32) (v6 : Int32) (v7 : Int32) (σ : sS) : Option (sZ Int32) :=
  if v5 = (-1) then (some (.inl (89, [.ref v0, .int v1, .int v2, .int v3, .int v4, .int v5, .int v6, .int v7], σ)))
  else ((F_X8_noLine v0 v5 σ).bind fun q1 =>
  if q1.1 = 0 then (some (.inl (89, [.ref v0, .int v1, .int v2, .int v3, .int v4, .int v5, .int v6, .int v7], q1.2)))
  else (some (.inl (104, [.ref v0, .int v1, .int v2, .int v3, .int v4, .int v5, .int v6, .int v7], q1.2))))
noncomputable def U_X8_line_74 (vs : List Value) (σ : sS) : Option (sZ Int32) := (g_r vs).bind fun a0 => (g_i a0.2).bind fun a1 => (g_i a1.2).bind fun a2 => (g_i a2.2).bind fun a3 => (g_i a3.2).bind fun a4 => (g_i a4.2).bind fun a5 => (g_i a5.2).bind fun a6 => (g_i a6.2).bind fun a7 => (g_e a7.2).bind fun _ => T_X8_line_74 a0.1 a1.1 a2.1 a3.1 a4.1 a5.1 a6.1 a7.1 σ
noncomputable def T_X8_line_89 (v0 : Nat) (v1 : Int32) (v2 : Int32) (v3 : Int32) (v4 : Int32) (v5 : Int32) (v6 : Int32) (v7 : Int32) (σ : sS) : Option (sZ Int32) :=
  if v6 = (-1) then (some (.inl (108, [.ref v0, .int v1, .int v2, .int v3, .int v4, .int v5, .int v6, .int v7], σ)))
  else ((F_X8_noLine v0 v6 σ).bind fun q1 =>
  if q1.1 = 0 then (some (.inl (108, [.ref v0, .int v1, .int v2, .int v3, .int v4, .int v5, .int v6, .int v7], q1.2)))
  else (some (.inl (104, [.ref v0, .int v1, .int v2, .int v3, .int v4, .int v5, .int v6, .int v7], q1.2))))
noncomputable def U_X8_line_89 (vs : List Value) (σ : sS) : Option (sZ Int32) := (g_r vs).bind fun a0 => (g_i a0.2).bind fun a1 => (g_i a1.2).bind fun a2 => (g_i a2.2).bind fun a3 => (g_i a3.2).bind fun a4 => (g_i a4.2).bind fun a5 => (g_i a5.2).bind fun a6 => (g_i a6.2).bind fun a7 => (g_e a7.2).bind fun _ => T_X8_line_89 a0.1 a1.1 a2.1 a3.1 a4.1 a5.1 a6.1 a7.1 σ
noncomputable def T_X8_line_104 (v0 : Nat) (v1 : Int32) (v2 : Int32) (v3 : Int32) (v4 : Int32) (v5 : Int32) (v6 : Int32) (v7 : Int32) (σ : sS) : Option (sZ Int32) :=
  some (.inl (109, [.ref v0, .int v1, .int v2, .int v3, .int v4, .int v5, .int v6, .int v7, .int 1], σ))
noncomputable def U_X8_line_104 (vs : List Value) (σ : sS) : Option (sZ Int32) := (g_r vs).bind fun a0 => (g_i a0.2).bind fun a1 => (g_i a1.2).bind fun a2 => (g_i a2.2).bind fun a3 => (g_i a3.2).bind fun a4 => (g_i a4.2).bind fun a5 => (g_i a5.2).bind fun a6 => (g_i a6.2).bind fun a7 => (g_e a7.2).bind fun _ => T_X8_line_104 a0.1 a1.1 a2.1 a3.1 a4.1 a5.1 a6.1 a7.1 σ
noncomputable def T_X8_line_108 (v0 : Nat) (v1 : Int32) (v2 : Int32) (v3 : Int32) (v4 : Int32) (v5 : Int32) (v6 : Int32) (v7 : Int32) (σ : sS) : Option (sZ Int32) :=
  some (.inl (109, [.ref v0, .int v1, .int v2, .int v3, .int v4, .int v5, .int v6, .int v7, .int 0], σ))
noncomputable def U_X8_line_108 (vs : List Value) (σ : sS) : Option (sZ Int32) := (g_r vs).bind fun a0 => (g_i a0.2).bind fun a1 => (g_i a1.2).bind fun a2 => (g_i a2.2).bind fun a3 => (g_i a3.2).bind fun a4 => (g_i a4.2).bind fun a5 => (g_i a5.2).bind fun a6 => (g_i a6.2).bind fun a7 => (g_e a7.2).bind fun _ => T_X8_line_108 a0.1 a1.1 a2.1 a3.1 a4.1 a5.1 a6.1 a7.1 σ
noncomputable def T_X8_line_109 (v0 : Nat) (v1 : Int32) (v2 : Int32) (v3 : Int32) (v4 : Int32) (v5 : Int32) (v6 : Int32) (v7 : Int32) (w0 : Int32) (σ : sS) : Option (sZ Int32) :=
  (F_X8_throwsIf v0 w0 1 σ).bind fun q1 =>
  if q1.1 = 0 then (if v7 = 0 then (if v4 = (-1) then (if v5 = (-1) then (some (.inl (139, [.ref v0, .int v1, .int v2, .int v3, .int v4, .int v5, .int v6, .int v7, .ref v0], q1.2)))
  else (some (.inl (168, [.ref v0, .int v1, .int v2, .int v3, .int v4, .int v5, .int v6, .ref v0], q1.2))))
  else (some (.inl (139, [.ref v0, .int v1, .int v2, .int v3, .int v4, .int v5, .int v6, .int v7, .ref v0], q1.2))))
  else (some (.inl (139, [.ref v0, .int v1, .int v2, .int v3, .int v4, .int v5, .int v6, .int v7, .ref v0], q1.2))))
  else (some (.inr (0, q1.2)))
noncomputable def U_X8_line_109 (vs : List Value) (σ : sS) : Option (sZ Int32) := (g_r vs).bind fun a0 => (g_i a0.2).bind fun a1 => (g_i a1.2).bind fun a2 => (g_i a2.2).bind fun a3 => (g_i a3.2).bind fun a4 => (g_i a4.2).bind fun a5 => (g_i a5.2).bind fun a6 => (g_i a6.2).bind fun a7 => (g_i a7.2).bind fun a8 => (g_e a8.2).bind fun _ => T_X8_line_109 a0.1 a1.1 a2.1 a3.1 a4.1 a5.1 a6.1 a7.1 a8.1 σ
noncomputable def T_X8_line_139 (v0 : Nat) (v1 : Int32) (v2 : Int32) (v3 : Int32) (v4 : Int32) (v5 : Int32) (v6 : Int32) (v7 : Int32) (w0 : Nat) (σ : sS) : Option (sZ Int32) :=
  if v5 = (-1) then (if v6 = (-1) then (some (.inl (151, [.ref v0, .int v1, .int v2, .int v3, .int v4, .int v5, .int v6, .int v7, .ref w0], σ)))
  else (some (.inl (168, [.ref v0, .int v1, .int v2, .int v3, .int v4, .int v5, .int v6, .ref w0], σ))))
  else (some (.inl (151, [.ref v0, .int v1, .int v2, .int v3, .int v4, .int v5, .int v6, .int v7, .ref w0], σ)))
noncomputable def U_X8_line_139 (vs : List Value) (σ : sS) : Option (sZ Int32) := (g_r vs).bind fun a0 => (g_i a0.2).bind fun a1 => (g_i a1.2).bind fun a2 => (g_i a2.2).bind fun a3 => (g_i a3.2).bind fun a4 => (g_i a4.2).bind fun a5 => (g_i a5.2).bind fun a6 => (g_i a6.2).bind fun a7 => (g_r a7.2).bind fun a8 => (g_e a8.2).bind fun _ => T_X8_line_139 a0.1 a1.1 a2.1 a3.1 a4.1 a5.1 a6.1 a7.1 a8.1 σ
noncomputable def T_X8_line_151 (v0 : Nat) (v1 : Int32) (v2 : Int32) (v3 : Int32) (v4 : Int32) (v5 : Int32) (v6 : Int32) (v7 : Int32) (w0 : Nat) (σ : sS) : Option (sZ Int32) :=
  if v7 = 0 then (some (.inl (172, [.ref v0, .int v1, .int v2, .int v3, .int v4, .int v5, .int v6, .ref w0], σ)))
  else (if v5 = (-1) then (if v6 = (-1) then (some (.inl (172, [.ref v0, .int v1, .int v2, .int v3, .int v4, .int v5, .int v6, .ref w0], σ)))
  else (some (.inl (168, [.ref v0, .int v1, .int v2, .int v3, .int v4, .int v5, .int v6, .ref w0], σ))))
  else (some (.inl (168, [.ref v0, .int v1, .int v2, .int v3, .int v4, .int v5, .int v6, .ref w0], σ))))
noncomputable def U_X8_line_151 (vs : List Value) (σ : sS) : Option (sZ Int32) := (g_r vs).bind fun a0 => (g_i a0.2).bind fun a1 => (g_i a1.2).bind fun a2 => (g_i a2.2).bind fun a3 => (g_i a3.2).bind fun a4 => (g_i a4.2).bind fun a5 => (g_i a5.2).bind fun a6 => (g_i a6.2).bind fun a7 => (g_r a7.2).bind fun a8 => (g_e a8.2).bind fun _ => T_X8_line_151 a0.1 a1.1 a2.1 a3.1 a4.1 a5.1 a6.1 a7.1 a8.1 σ
noncomputable def T_X8_line_168 (v0 : Nat) (v1 : Int32) (v2 : Int32) (v3 : Int32) (v4 : Int32) (v5 : Int32) (v6 : Int32) (w0 : Nat) (σ : sS) : Option (sZ Int32) :=
  some (.inl (173, [.ref v0, .int v1, .int v2, .int v3, .int v4, .int v5, .int v6, .int 1, .ref w0], σ))
noncomputable def U_X8_line_168 (vs : List Value) (σ : sS) : Option (sZ Int32) := (g_r vs).bind fun a0 => (g_i a0.2).bind fun a1 => (g_i a1.2).bind fun a2 => (g_i a2.2).bind fun a3 => (g_i a3.2).bind fun a4 => (g_i a4.2).bind fun a5 => (g_i a5.2).bind fun a6 => (g_r a6.2).bind fun a7 => (g_e a7.2).bind fun _ => T_X8_line_168 a0.1 a1.1 a2.1 a3.1 a4.1 a5.1 a6.1 a7.1 σ
noncomputable def T_X8_line_172 (v0 : Nat) (v1 : Int32) (v2 : Int32) (v3 : Int32) (v4 : Int32) (v5 : Int32) (v6 : Int32) (w0 : Nat) (σ : sS) : Option (sZ Int32) :=
  some (.inl (173, [.ref v0, .int v1, .int v2, .int v3, .int v4, .int v5, .int v6, .int 0, .ref w0], σ))
noncomputable def U_X8_line_172 (vs : List Value) (σ : sS) : Option (sZ Int32) := (g_r vs).bind fun a0 => (g_i a0.2).bind fun a1 => (g_i a1.2).bind fun a2 => (g_i a2.2).bind fun a3 => (g_i a3.2).bind fun a4 => (g_i a4.2).bind fun a5 => (g_i a5.2).bind fun a6 => (g_r a6.2).bind fun a7 => (g_e a7.2).bind fun _ => T_X8_line_172 a0.1 a1.1 a2.1 a3.1 a4.1 a5.1 a6.1 a7.1 σ
noncomputable def T_X8_line_173 (v0 : Nat) (v1 : Int32) (v2 : Int32) (v3 : Int32) (v4 : Int32) (v5 : Int32) (v6 : Int32) (w0 : Int32) (w1 : Nat) (σ : sS) : Option (sZ Int32) :=
  (F_X8_throwsIf w1 w0 2 σ).bind fun q1 =>
  if q1.1 = 0 then ((F_X8_lines v0 q1.2).bind fun q2 =>
  if q2.1 = 40 then (some (.inl (195, [.ref v0, .int v1, .int v2, .int v3, .int v4, .int v5, .int v6, .int 1, .ref v0], q2.2)))
  else (some (.inl (195, [.ref v0, .int v1, .int v2, .int v3, .int v4, .int v5, .int v6, .int 0, .ref v0], q2.2))))
  else (some (.inr (0, q1.2)))
noncomputable def U_X8_line_173 (vs : List Value) (σ : sS) : Option (sZ Int32) := (g_r vs).bind fun a0 => (g_i a0.2).bind fun a1 => (g_i a1.2).bind fun a2 => (g_i a2.2).bind fun a3 => (g_i a3.2).bind fun a4 => (g_i a4.2).bind fun a5 => (g_i a5.2).bind fun a6 => (g_i a6.2).bind fun a7 => (g_r a7.2).bind fun a8 => (g_e a8.2).bind fun _ => T_X8_line_173 a0.1 a1.1 a2.1 a3.1 a4.1 a5.1 a6.1 a7.1 a8.1 σ
noncomputable def T_X8_line_195 (v0 : Nat) (v1 : Int32) (v2 : Int32) (v3 : Int32) (v4 : Int32) (v5 : Int32) (v6 : Int32) (w0 : Int32) (w1 : Nat) (σ : sS) : Option (sZ Int32) :=
  (F_X8_throwsIf w1 w0 3 σ).bind fun q1 =>
  if q1.1 = 0 then ((F_X8_lines v0 q1.2).bind fun q2 =>
  (s_fr q2.2 v0 8 1).bind fun x3 =>
  (s_si q2.2 x3 (1292 + (6 * q2.1)) v1).bind fun σ4 =>
  (s_fr σ4 v0 8 1).bind fun x5 =>
  (s_si σ4 x5 ((1292 + (6 * q2.1)) + 1) v2).bind fun σ6 =>
  (s_fr σ6 v0 8 1).bind fun x7 =>
  (s_si σ6 x7 ((1292 + (6 * q2.1)) + 2) v3).bind fun σ8 =>
  (s_fr σ8 v0 8 1).bind fun x9 =>
  (s_si σ8 x9 ((1292 + (6 * q2.1)) + 3) v4).bind fun σ10 =>
  (s_fr σ10 v0 8 1).bind fun x11 =>
  (s_si σ10 x11 ((1292 + (6 * q2.1)) + 4) v5).bind fun σ12 =>
  (s_fr σ12 v0 8 1).bind fun x13 =>
  (s_si σ12 x13 ((1292 + (6 * q2.1)) + 5) v6).bind fun σ14 =>
  (s_fr σ14 v0 8 1).bind fun x15 =>
  (s_ai σ14 x15 2).bind fun x16 =>
  (s_si σ14 x15 2 (x16 + 1)).bind fun σ17 =>
  (F_X8_lines v0 σ17).bind fun q18 =>
  some (.inr ((q18.1 - 1), q18.2)))
  else (some (.inr (0, q1.2)))
noncomputable def U_X8_line_195 (vs : List Value) (σ : sS) : Option (sZ Int32) := (g_r vs).bind fun a0 => (g_i a0.2).bind fun a1 => (g_i a1.2).bind fun a2 => (g_i a2.2).bind fun a3 => (g_i a3.2).bind fun a4 => (g_i a4.2).bind fun a5 => (g_i a5.2).bind fun a6 => (g_i a6.2).bind fun a7 => (g_r a7.2).bind fun a8 => (g_e a8.2).bind fun _ => T_X8_line_195 a0.1 a1.1 a2.1 a3.1 a4.1 a5.1 a6.1 a7.1 a8.1 σ
noncomputable def S_X8_line (x : sL) : Option (sZ Int32) := if x.1 = 0 then U_X8_line_0 x.2.1 x.2.2 else if x.1 = 14 then U_X8_line_14 x.2.1 x.2.2 else if x.1 = 54 then U_X8_line_54 x.2.1 x.2.2 else if x.1 = 74 then U_X8_line_74 x.2.1 x.2.2 else if x.1 = 89 then U_X8_line_89 x.2.1 x.2.2 else if x.1 = 104 then U_X8_line_104 x.2.1 x.2.2 else if x.1 = 108 then U_X8_line_108 x.2.1 x.2.2 else if x.1 = 109 then U_X8_line_109 x.2.1 x.2.2 else if x.1 = 139 then U_X8_line_139 x.2.1 x.2.2 else if x.1 = 151 then U_X8_line_151 x.2.1 x.2.2 else if x.1 = 168 then U_X8_line_168 x.2.1 x.2.2 else if x.1 = 172 then U_X8_line_172 x.2.1 x.2.2 else if x.1 = 173 then U_X8_line_173 x.2.1 x.2.2 else if x.1 = 195 then U_X8_line_195 x.2.1 x.2.2 else none
def Y_X8_line (pc : Nat) : List Nat := if pc = 0 then [0, 1, 2, 3, 4, 5, 6] else if pc = 14 then [0, 1, 2, 3, 4, 5, 6] else if pc = 54 then [0, 1, 2, 3, 4, 5, 6, 7] else if pc = 74 then [0, 1, 2, 3, 4, 5, 6, 7] else if pc = 89 then [0, 1, 2, 3, 4, 5, 6, 7] else if pc = 104 then [0, 1, 2, 3, 4, 5, 6, 7] else if pc = 108 then [0, 1, 2, 3, 4, 5, 6, 7] else if pc = 109 then [0, 1, 2, 3, 4, 5, 6, 7] else if pc = 139 then [0, 1, 2, 3, 4, 5, 6, 7] else if pc = 151 then [0, 1, 2, 3, 4, 5, 6, 7] else if pc = 168 then [0, 1, 2, 3, 4, 5, 6] else if pc = 172 then [0, 1, 2, 3, 4, 5, 6] else if pc = 173 then [0, 1, 2, 3, 4, 5, 6] else if pc = 195 then [0, 1, 2, 3, 4, 5, 6] else []
noncomputable def F_X8_line (v0 : Nat) (v1 : Int32) (v2 : Int32) (v3 : Int32) (v4 : Int32) (v5 : Int32) (v6 : Int32) (σ : sS) : Option (Int32 × sS) := (s_is σ v0 8).bind fun _ => s_run S_X8_line (0, [.ref v0, .int v1, .int v2, .int v3, .int v4, .int v5, .int v6], σ)
theorem l_X8_line_0 {v0 : Nat} {v1 : Int32} {v2 : Int32} {v3 : Int32} {v4 : Int32} {v5 : Int32} {v6 : Int32} {σ : sS} {z : sZ Int32} (hf : T_X8_line_0 v0 v1 v2 v3 v4 v5 v6 σ = some z) : s_lz σ z := by
  unfold T_X8_line_0 at hf
  obtain ⟨σ1, hh, hf⟩ := s_bind hf
  refine s_lz.tr (s_le2 (s_pf_2 hh)) ?_
  rcases s_ite hf with ⟨-, hf⟩ | ⟨-, hf⟩
  · cases hf
    exact s_le.rf
  · cases hf
    exact s_le.rf
theorem l_X8_line_14 {v0 : Nat} {v1 : Int32} {v2 : Int32} {v3 : Int32} {v4 : Int32} {v5 : Int32} {v6 : Int32} {w0 : Int32} {σ : sS} {z : sZ Int32} (hf : T_X8_line_14 v0 v1 v2 v3 v4 v5 v6 w0 σ = some z) : s_lz σ z := by
  unfold T_X8_line_14 at hf
  obtain ⟨q1, hh, hf⟩ := s_bind hf
  refine s_lz.tr (l_X8_noHouse hh) ?_
  rcases s_ite hf with ⟨-, hf⟩ | ⟨-, hf⟩
  · obtain ⟨q2, hh, hf⟩ := s_bind hf
    refine s_lz.tr (l_X8_noFormula hh) ?_
    rcases s_ite hf with ⟨-, hf⟩ | ⟨-, hf⟩
    · obtain ⟨q3, hh, hf⟩ := s_bind hf
      refine s_lz.tr (l_X8_in hh) ?_
      rcases s_ite hf with ⟨-, hf⟩ | ⟨-, hf⟩
      · cases hf
        exact s_le.rf
      · rcases s_ite hf with ⟨-, hf⟩ | ⟨-, hf⟩
        · cases hf
          exact s_le.rf
        · obtain ⟨q4, hh, hf⟩ := s_bind hf
          refine s_lz.tr (l_X8_noCustomer hh) ?_
          rcases s_ite hf with ⟨-, hf⟩ | ⟨-, hf⟩
          · cases hf
            exact s_le.rf
          · cases hf
            exact s_le.rf
    · cases hf
      exact s_le.rf
  · cases hf
    exact s_le.rf
theorem l_X8_line_54 {v0 : Nat} {v1 : Int32} {v2 : Int32} {v3 : Int32} {v4 : Int32} {v5 : Int32} {v6 : Int32} {v7 : Int32} {σ : sS} {z : sZ Int32} (hf : T_X8_line_54 v0 v1 v2 v3 v4 v5 v6 v7 σ = some z) : s_lz σ z := by
  unfold T_X8_line_54 at hf
  rcases s_ite hf with ⟨-, hf⟩ | ⟨-, hf⟩
  · rcases s_ite hf with ⟨-, hf⟩ | ⟨-, hf⟩
    · cases hf
      exact s_le.rf
    · obtain ⟨q1, hh, hf⟩ := s_bind hf
      refine s_lz.tr (l_X8_noLine hh) ?_
      rcases s_ite hf with ⟨-, hf⟩ | ⟨-, hf⟩
      · cases hf
        exact s_le.rf
      · cases hf
        exact s_le.rf
  · cases hf
    exact s_le.rf
theorem l_X8_line_74 {v0 : Nat} {v1 : Int32} {v2 : Int32} {v3 : Int32} {v4 : Int32} {v5 : Int32} {v6 : Int32} {v7 : Int32} {σ : sS} {z : sZ Int32} (hf : T_X8_line_74 v0 v1 v2 v3 v4 v5 v6 v7 σ = some z) : s_lz σ z := by
  unfold T_X8_line_74 at hf
  rcases s_ite hf with ⟨-, hf⟩ | ⟨-, hf⟩
  · cases hf
    exact s_le.rf
  · obtain ⟨q1, hh, hf⟩ := s_bind hf
    refine s_lz.tr (l_X8_noLine hh) ?_
    rcases s_ite hf with ⟨-, hf⟩ | ⟨-, hf⟩
    · cases hf
      exact s_le.rf
    · cases hf
      exact s_le.rf
theorem l_X8_line_89 {v0 : Nat} {v1 : Int32} {v2 : Int32} {v3 : Int32} {v4 : Int32} {v5 : Int32} {v6 : Int32} {v7 : Int32} {σ : sS} {z : sZ Int32} (hf : T_X8_line_89 v0 v1 v2 v3 v4 v5 v6 v7 σ = some z) : s_lz σ z := by
  unfold T_X8_line_89 at hf
  rcases s_ite hf with ⟨-, hf⟩ | ⟨-, hf⟩
  · cases hf
    exact s_le.rf
  · obtain ⟨q1, hh, hf⟩ := s_bind hf
    refine s_lz.tr (l_X8_noLine hh) ?_
    rcases s_ite hf with ⟨-, hf⟩ | ⟨-, hf⟩
    · cases hf
      exact s_le.rf
    · cases hf
      exact s_le.rf
theorem l_X8_line_104 {v0 : Nat} {v1 : Int32} {v2 : Int32} {v3 : Int32} {v4 : Int32} {v5 : Int32} {v6 : Int32} {v7 : Int32} {σ : sS} {z : sZ Int32} (hf : T_X8_line_104 v0 v1 v2 v3 v4 v5 v6 v7 σ = some z) : s_lz σ z := by
  unfold T_X8_line_104 at hf
  cases hf
  exact s_le.rf
theorem l_X8_line_108 {v0 : Nat} {v1 : Int32} {v2 : Int32} {v3 : Int32} {v4 : Int32} {v5 : Int32} {v6 : Int32} {v7 : Int32} {σ : sS} {z : sZ Int32} (hf : T_X8_line_108 v0 v1 v2 v3 v4 v5 v6 v7 σ = some z) : s_lz σ z := by
  unfold T_X8_line_108 at hf
  cases hf
  exact s_le.rf
theorem l_X8_line_109 {v0 : Nat} {v1 : Int32} {v2 : Int32} {v3 : Int32} {v4 : Int32} {v5 : Int32} {v6 : Int32} {v7 : Int32} {w0 : Int32} {σ : sS} {z : sZ Int32} (hf : T_X8_line_109 v0 v1 v2 v3 v4 v5 v6 v7 w0 σ = some z) : s_lz σ z := by
  unfold T_X8_line_109 at hf
  obtain ⟨q1, hh, hf⟩ := s_bind hf
  refine s_lz.tr (l_X8_throwsIf hh) ?_
  rcases s_ite hf with ⟨-, hf⟩ | ⟨-, hf⟩
  · rcases s_ite hf with ⟨-, hf⟩ | ⟨-, hf⟩
    · rcases s_ite hf with ⟨-, hf⟩ | ⟨-, hf⟩
      · rcases s_ite hf with ⟨-, hf⟩ | ⟨-, hf⟩
        · cases hf
          exact s_le.rf
        · cases hf
          exact s_le.rf
      · cases hf
        exact s_le.rf
    · cases hf
      exact s_le.rf
  · cases hf
    exact s_le.rf
theorem l_X8_line_139 {v0 : Nat} {v1 : Int32} {v2 : Int32} {v3 : Int32} {v4 : Int32} {v5 : Int32} {v6 : Int32} {v7 : Int32} {w0 : Nat} {σ : sS} {z : sZ Int32} (hf : T_X8_line_139 v0 v1 v2 v3 v4 v5 v6 v7 w0 σ = some z) : s_lz σ z := by
  unfold T_X8_line_139 at hf
  rcases s_ite hf with ⟨-, hf⟩ | ⟨-, hf⟩
  · rcases s_ite hf with ⟨-, hf⟩ | ⟨-, hf⟩
    · cases hf
      exact s_le.rf
    · cases hf
      exact s_le.rf
  · cases hf
    exact s_le.rf
theorem l_X8_line_151 {v0 : Nat} {v1 : Int32} {v2 : Int32} {v3 : Int32} {v4 : Int32} {v5 : Int32} {v6 : Int32} {v7 : Int32} {w0 : Nat} {σ : sS} {z : sZ Int32} (hf : T_X8_line_151 v0 v1 v2 v3 v4 v5 v6 v7 w0 σ = some z) : s_lz σ z := by
  unfold T_X8_line_151 at hf
  rcases s_ite hf with ⟨-, hf⟩ | ⟨-, hf⟩
  · cases hf
    exact s_le.rf
  · rcases s_ite hf with ⟨-, hf⟩ | ⟨-, hf⟩
    · rcases s_ite hf with ⟨-, hf⟩ | ⟨-, hf⟩
      · cases hf
        exact s_le.rf
      · cases hf
        exact s_le.rf
    · cases hf
      exact s_le.rf
theorem l_X8_line_168 {v0 : Nat} {v1 : Int32} {v2 : Int32} {v3 : Int32} {v4 : Int32} {v5 : Int32} {v6 : Int32} {w0 : Nat} {σ : sS} {z : sZ Int32} (hf : T_X8_line_168 v0 v1 v2 v3 v4 v5 v6 w0 σ = some z) : s_lz σ z := by
  unfold T_X8_line_168 at hf
  cases hf
  exact s_le.rf
theorem l_X8_line_172 {v0 : Nat} {v1 : Int32} {v2 : Int32} {v3 : Int32} {v4 : Int32} {v5 : Int32} {v6 : Int32} {w0 : Nat} {σ : sS} {z : sZ Int32} (hf : T_X8_line_172 v0 v1 v2 v3 v4 v5 v6 w0 σ = some z) : s_lz σ z := by
  unfold T_X8_line_172 at hf
  cases hf
  exact s_le.rf
theorem l_X8_line_173 {v0 : Nat} {v1 : Int32} {v2 : Int32} {v3 : Int32} {v4 : Int32} {v5 : Int32} {v6 : Int32} {w0 : Int32} {w1 : Nat} {σ : sS} {z : sZ Int32} (hf : T_X8_line_173 v0 v1 v2 v3 v4 v5 v6 w0 w1 σ = some z) : s_lz σ z := by
  unfold T_X8_line_173 at hf
  obtain ⟨q1, hh, hf⟩ := s_bind hf
  refine s_lz.tr (l_X8_throwsIf hh) ?_
  rcases s_ite hf with ⟨-, hf⟩ | ⟨-, hf⟩
  · obtain ⟨q2, hh, hf⟩ := s_bind hf
    refine s_lz.tr (l_X8_lines hh) ?_
    rcases s_ite hf with ⟨-, hf⟩ | ⟨-, hf⟩
    · cases hf
      exact s_le.rf
    · cases hf
      exact s_le.rf
  · cases hf
    exact s_le.rf
theorem l_X8_line_195 {v0 : Nat} {v1 : Int32} {v2 : Int32} {v3 : Int32} {v4 : Int32} {v5 : Int32} {v6 : Int32} {w0 : Int32} {w1 : Nat} {σ : sS} {z : sZ Int32} (hf : T_X8_line_195 v0 v1 v2 v3 v4 v5 v6 w0 w1 σ = some z) : s_lz σ z := by
  unfold T_X8_line_195 at hf
  obtain ⟨q1, hh, hf⟩ := s_bind hf
  refine s_lz.tr (l_X8_throwsIf hh) ?_
  rcases s_ite hf with ⟨-, hf⟩ | ⟨-, hf⟩
  · obtain ⟨q2, hh, hf⟩ := s_bind hf
    refine s_lz.tr (l_X8_lines hh) ?_
    obtain ⟨x3, -, hf⟩ := s_bind hf
    obtain ⟨σ4, hh, hf⟩ := s_bind hf
    refine s_lz.tr (s_le2 (s_si_2 hh)) ?_
    obtain ⟨x5, -, hf⟩ := s_bind hf
    obtain ⟨σ6, hh, hf⟩ := s_bind hf
    refine s_lz.tr (s_le2 (s_si_2 hh)) ?_
    obtain ⟨x7, -, hf⟩ := s_bind hf
    obtain ⟨σ8, hh, hf⟩ := s_bind hf
    refine s_lz.tr (s_le2 (s_si_2 hh)) ?_
    obtain ⟨x9, -, hf⟩ := s_bind hf
    obtain ⟨σ10, hh, hf⟩ := s_bind hf
    refine s_lz.tr (s_le2 (s_si_2 hh)) ?_
    obtain ⟨x11, -, hf⟩ := s_bind hf
    obtain ⟨σ12, hh, hf⟩ := s_bind hf
    refine s_lz.tr (s_le2 (s_si_2 hh)) ?_
    obtain ⟨x13, -, hf⟩ := s_bind hf
    obtain ⟨σ14, hh, hf⟩ := s_bind hf
    refine s_lz.tr (s_le2 (s_si_2 hh)) ?_
    obtain ⟨x15, -, hf⟩ := s_bind hf
    obtain ⟨x16, -, hf⟩ := s_bind hf
    obtain ⟨σ17, hh, hf⟩ := s_bind hf
    refine s_lz.tr (s_le2 (s_si_2 hh)) ?_
    obtain ⟨q18, hh, hf⟩ := s_bind hf
    refine s_lz.tr (l_X8_lines hh) ?_
    cases hf
    exact s_le.rf
  · cases hf
    exact s_le.rf
theorem l_X8_line_s {x : sL} {z : sZ Int32} (hs : S_X8_line x = some z) : s_lz x.2.2 z := by
  obtain ⟨pc, vs, σ⟩ := x
  unfold S_X8_line at hs
  dsimp only at hs ⊢
  rcases s_ite hs with ⟨c, hs⟩ | ⟨-, hs⟩
  · subst c
    unfold U_X8_line_0 at hs
    obtain ⟨a0, g0, hs⟩ := s_bind hs
    obtain ⟨a1, g1, hs⟩ := s_bind hs
    obtain ⟨a2, g2, hs⟩ := s_bind hs
    obtain ⟨a3, g3, hs⟩ := s_bind hs
    obtain ⟨a4, g4, hs⟩ := s_bind hs
    obtain ⟨a5, g5, hs⟩ := s_bind hs
    obtain ⟨a6, g6, hs⟩ := s_bind hs
    obtain ⟨u9, ge, hs⟩ := s_bind hs
    exact l_X8_line_0 hs
  rcases s_ite hs with ⟨c, hs⟩ | ⟨-, hs⟩
  · subst c
    unfold U_X8_line_14 at hs
    obtain ⟨a0, g0, hs⟩ := s_bind hs
    obtain ⟨a1, g1, hs⟩ := s_bind hs
    obtain ⟨a2, g2, hs⟩ := s_bind hs
    obtain ⟨a3, g3, hs⟩ := s_bind hs
    obtain ⟨a4, g4, hs⟩ := s_bind hs
    obtain ⟨a5, g5, hs⟩ := s_bind hs
    obtain ⟨a6, g6, hs⟩ := s_bind hs
    obtain ⟨a7, g7, hs⟩ := s_bind hs
    obtain ⟨u9, ge, hs⟩ := s_bind hs
    exact l_X8_line_14 hs
  rcases s_ite hs with ⟨c, hs⟩ | ⟨-, hs⟩
  · subst c
    unfold U_X8_line_54 at hs
    obtain ⟨a0, g0, hs⟩ := s_bind hs
    obtain ⟨a1, g1, hs⟩ := s_bind hs
    obtain ⟨a2, g2, hs⟩ := s_bind hs
    obtain ⟨a3, g3, hs⟩ := s_bind hs
    obtain ⟨a4, g4, hs⟩ := s_bind hs
    obtain ⟨a5, g5, hs⟩ := s_bind hs
    obtain ⟨a6, g6, hs⟩ := s_bind hs
    obtain ⟨a7, g7, hs⟩ := s_bind hs
    obtain ⟨u9, ge, hs⟩ := s_bind hs
    exact l_X8_line_54 hs
  rcases s_ite hs with ⟨c, hs⟩ | ⟨-, hs⟩
  · subst c
    unfold U_X8_line_74 at hs
    obtain ⟨a0, g0, hs⟩ := s_bind hs
    obtain ⟨a1, g1, hs⟩ := s_bind hs
    obtain ⟨a2, g2, hs⟩ := s_bind hs
    obtain ⟨a3, g3, hs⟩ := s_bind hs
    obtain ⟨a4, g4, hs⟩ := s_bind hs
    obtain ⟨a5, g5, hs⟩ := s_bind hs
    obtain ⟨a6, g6, hs⟩ := s_bind hs
    obtain ⟨a7, g7, hs⟩ := s_bind hs
    obtain ⟨u9, ge, hs⟩ := s_bind hs
    exact l_X8_line_74 hs
  rcases s_ite hs with ⟨c, hs⟩ | ⟨-, hs⟩
  · subst c
    unfold U_X8_line_89 at hs
    obtain ⟨a0, g0, hs⟩ := s_bind hs
    obtain ⟨a1, g1, hs⟩ := s_bind hs
    obtain ⟨a2, g2, hs⟩ := s_bind hs
    obtain ⟨a3, g3, hs⟩ := s_bind hs
    obtain ⟨a4, g4, hs⟩ := s_bind hs
    obtain ⟨a5, g5, hs⟩ := s_bind hs
    obtain ⟨a6, g6, hs⟩ := s_bind hs
    obtain ⟨a7, g7, hs⟩ := s_bind hs
    obtain ⟨u9, ge, hs⟩ := s_bind hs
    exact l_X8_line_89 hs
  rcases s_ite hs with ⟨c, hs⟩ | ⟨-, hs⟩
  · subst c
    unfold U_X8_line_104 at hs
    obtain ⟨a0, g0, hs⟩ := s_bind hs
    obtain ⟨a1, g1, hs⟩ := s_bind hs
    obtain ⟨a2, g2, hs⟩ := s_bind hs
    obtain ⟨a3, g3, hs⟩ := s_bind hs
    obtain ⟨a4, g4, hs⟩ := s_bind hs
    obtain ⟨a5, g5, hs⟩ := s_bind hs
    obtain ⟨a6, g6, hs⟩ := s_bind hs
    obtain ⟨a7, g7, hs⟩ := s_bind hs
    obtain ⟨u9, ge, hs⟩ := s_bind hs
    exact l_X8_line_104 hs
  rcases s_ite hs with ⟨c, hs⟩ | ⟨-, hs⟩
  · subst c
    unfold U_X8_line_108 at hs
    obtain ⟨a0, g0, hs⟩ := s_bind hs
    obtain ⟨a1, g1, hs⟩ := s_bind hs
    obtain ⟨a2, g2, hs⟩ := s_bind hs
    obtain ⟨a3, g3, hs⟩ := s_bind hs
    obtain ⟨a4, g4, hs⟩ := s_bind hs
    obtain ⟨a5, g5, hs⟩ := s_bind hs
    obtain ⟨a6, g6, hs⟩ := s_bind hs
    obtain ⟨a7, g7, hs⟩ := s_bind hs
    obtain ⟨u9, ge, hs⟩ := s_bind hs
    exact l_X8_line_108 hs
  rcases s_ite hs with ⟨c, hs⟩ | ⟨-, hs⟩
  · subst c
    unfold U_X8_line_109 at hs
    obtain ⟨a0, g0, hs⟩ := s_bind hs
    obtain ⟨a1, g1, hs⟩ := s_bind hs
    obtain ⟨a2, g2, hs⟩ := s_bind hs
    obtain ⟨a3, g3, hs⟩ := s_bind hs
    obtain ⟨a4, g4, hs⟩ := s_bind hs
    obtain ⟨a5, g5, hs⟩ := s_bind hs
    obtain ⟨a6, g6, hs⟩ := s_bind hs
    obtain ⟨a7, g7, hs⟩ := s_bind hs
    obtain ⟨a8, g8, hs⟩ := s_bind hs
    obtain ⟨u9, ge, hs⟩ := s_bind hs
    exact l_X8_line_109 hs
  rcases s_ite hs with ⟨c, hs⟩ | ⟨-, hs⟩
  · subst c
    unfold U_X8_line_139 at hs
    obtain ⟨a0, g0, hs⟩ := s_bind hs
    obtain ⟨a1, g1, hs⟩ := s_bind hs
    obtain ⟨a2, g2, hs⟩ := s_bind hs
    obtain ⟨a3, g3, hs⟩ := s_bind hs
    obtain ⟨a4, g4, hs⟩ := s_bind hs
    obtain ⟨a5, g5, hs⟩ := s_bind hs
    obtain ⟨a6, g6, hs⟩ := s_bind hs
    obtain ⟨a7, g7, hs⟩ := s_bind hs
    obtain ⟨a8, g8, hs⟩ := s_bind hs
    obtain ⟨u9, ge, hs⟩ := s_bind hs
    exact l_X8_line_139 hs
  rcases s_ite hs with ⟨c, hs⟩ | ⟨-, hs⟩
  · subst c
    unfold U_X8_line_151 at hs
    obtain ⟨a0, g0, hs⟩ := s_bind hs
    obtain ⟨a1, g1, hs⟩ := s_bind hs
    obtain ⟨a2, g2, hs⟩ := s_bind hs
    obtain ⟨a3, g3, hs⟩ := s_bind hs
    obtain ⟨a4, g4, hs⟩ := s_bind hs
    obtain ⟨a5, g5, hs⟩ := s_bind hs
    obtain ⟨a6, g6, hs⟩ := s_bind hs
    obtain ⟨a7, g7, hs⟩ := s_bind hs
    obtain ⟨a8, g8, hs⟩ := s_bind hs
    obtain ⟨u9, ge, hs⟩ := s_bind hs
    exact l_X8_line_151 hs
  rcases s_ite hs with ⟨c, hs⟩ | ⟨-, hs⟩
  · subst c
    unfold U_X8_line_168 at hs
    obtain ⟨a0, g0, hs⟩ := s_bind hs
    obtain ⟨a1, g1, hs⟩ := s_bind hs
    obtain ⟨a2, g2, hs⟩ := s_bind hs
    obtain ⟨a3, g3, hs⟩ := s_bind hs
    obtain ⟨a4, g4, hs⟩ := s_bind hs
    obtain ⟨a5, g5, hs⟩ := s_bind hs
    obtain ⟨a6, g6, hs⟩ := s_bind hs
    obtain ⟨a7, g7, hs⟩ := s_bind hs
    obtain ⟨u9, ge, hs⟩ := s_bind hs
    exact l_X8_line_168 hs
  rcases s_ite hs with ⟨c, hs⟩ | ⟨-, hs⟩
  · subst c
    unfold U_X8_line_172 at hs
    obtain ⟨a0, g0, hs⟩ := s_bind hs
    obtain ⟨a1, g1, hs⟩ := s_bind hs
    obtain ⟨a2, g2, hs⟩ := s_bind hs
    obtain ⟨a3, g3, hs⟩ := s_bind hs
    obtain ⟨a4, g4, hs⟩ := s_bind hs
    obtain ⟨a5, g5, hs⟩ := s_bind hs
    obtain ⟨a6, g6, hs⟩ := s_bind hs
    obtain ⟨a7, g7, hs⟩ := s_bind hs
    obtain ⟨u9, ge, hs⟩ := s_bind hs
    exact l_X8_line_172 hs
  rcases s_ite hs with ⟨c, hs⟩ | ⟨-, hs⟩
  · subst c
    unfold U_X8_line_173 at hs
    obtain ⟨a0, g0, hs⟩ := s_bind hs
    obtain ⟨a1, g1, hs⟩ := s_bind hs
    obtain ⟨a2, g2, hs⟩ := s_bind hs
    obtain ⟨a3, g3, hs⟩ := s_bind hs
    obtain ⟨a4, g4, hs⟩ := s_bind hs
    obtain ⟨a5, g5, hs⟩ := s_bind hs
    obtain ⟨a6, g6, hs⟩ := s_bind hs
    obtain ⟨a7, g7, hs⟩ := s_bind hs
    obtain ⟨a8, g8, hs⟩ := s_bind hs
    obtain ⟨u9, ge, hs⟩ := s_bind hs
    exact l_X8_line_173 hs
  rcases s_ite hs with ⟨c, hs⟩ | ⟨-, hs⟩
  · subst c
    unfold U_X8_line_195 at hs
    obtain ⟨a0, g0, hs⟩ := s_bind hs
    obtain ⟨a1, g1, hs⟩ := s_bind hs
    obtain ⟨a2, g2, hs⟩ := s_bind hs
    obtain ⟨a3, g3, hs⟩ := s_bind hs
    obtain ⟨a4, g4, hs⟩ := s_bind hs
    obtain ⟨a5, g5, hs⟩ := s_bind hs
    obtain ⟨a6, g6, hs⟩ := s_bind hs
    obtain ⟨a7, g7, hs⟩ := s_bind hs
    obtain ⟨a8, g8, hs⟩ := s_bind hs
    obtain ⟨u9, ge, hs⟩ := s_bind hs
    exact l_X8_line_195 hs
  cases hs
theorem l_X8_line {v0 : Nat} {v1 : Int32} {v2 : Int32} {v3 : Int32} {v4 : Int32} {v5 : Int32} {v6 : Int32} {σ : sS} {q : Int32 × sS} (h : F_X8_line v0 v1 v2 v3 v4 v5 v6 σ = some q) : s_le σ q.2 := by
  unfold F_X8_line at h
  obtain ⟨-, -, h⟩ := s_bind h
  exact s_run_ind (V := fun x r => s_le x.2.2 r.2) (fun x z r hs hk => by
    have h9 := l_X8_line_s hs
    cases z with
    | inl y => exact s_le.tr h9 hk
    | inr q => cases hk; exact h9) h
theorem b_X8_line {v0 : Nat} {v1 : Int32} {v2 : Int32} {v3 : Int32} {v4 : Int32} {v5 : Int32} {v6 : Int32} {σ : sS} {q : Int32 × sS} (h : F_X8_line v0 v1 v2 v3 v4 v5 v6 σ = some q) : ∃ fs, σ.1 v0 = some (.inr (8, fs)) := by
  unfold F_X8_line at h
  obtain ⟨u, hu, -⟩ := s_bind h
  exact s_is_to hu
set_option maxRecDepth 100000 in
set_option maxHeartbeats 4000000 in
theorem v_X8_line_0 {G : sG} {d : Nat} {vs0 : List Value} {σ0 : sS} {v0 : Nat} {v1 : Int32} {v2 : Int32} {v3 : Int32} {v4 : Int32} {v5 : Int32} {v6 : Int32} {σ : sS} {z : sZ Int32} {r : Int32 × sS} (hf : T_X8_line_0 v0 v1 v2 v3 v4 v5 v6 σ = some z) (k : s_K G (d + 3) M_X8_line vs0 σ0 Y_X8_line e_I z r) : s_V G (d + 3) M_X8_line vs0 σ0 Y_X8_line (0, [.ref v0, .int v1, .int v2, .int v3, .int v4, .int v5, .int v6], σ) (e_I r) := by
  have le0 : s_le σ (e_I r).2 := s_lek hem_I (l_X8_line_0 hf) k
  refine ⟨le0, ?_⟩
  intro p e s m below meth c H locs cells slots ls X I hn1 hn2 hl
  have hn : cells + σ0.2.1 ≤ σ.2.1 ∧ slots + σ0.2.2.1 ≤ σ.2.2.1 := ⟨hn1, hn2⟩
  have hl : lv_has ls 10 [(0, .ref v0), (1, .int v1), (2, .int v2), (3, .int v3), (4, .int v4), (5, .int v5), (6, .int v6)] := hl
  have hx := X.1
  have hb : c.code = cX8_line := X.2.1
  have hown : s.vm.findClass RX8 = some m.cls := X.2.2.2.2.2.1
  have hts := X.2.2.2.2.2.2.1
  refine W.eq (g2 := F0 m 0 ls []) rfl ?_
  unfold T_X8_line_0 at hf
  obtain ⟨σ1, h1, hf⟩ := s_bind hf
  have le2 : s_le σ1 (e_I r).2 := by
    refine s_lek hem_I ?_ k
    rcases s_ite hf with ⟨-, hf⟩ | ⟨-, hf⟩
    · cases hf
      exact s_le.rf
    · cases hf
      exact s_le.rf
  refine lv_aload_n hx hb dX8_line_0 rfl (lv_at hl 0 rfl) ?_
  refine lv_iconst (v := 0) hx hb dX8_line_1 (by decide) ?_
  refine r_put X I fp_X8_3 (fun h => by cases h) h1 rfl rfl dX8_line_2 (fun H locs I => ?_)
  have hn := s_k2 (s_pf_2 h1) hn
  refine lv_iload_n hx hb dX8_line_5 rfl (lv_at hl 3 rfl) ?_
  rcases s_ite hf with ⟨c3, hf⟩ | ⟨c3, hf⟩
  · refine lv_if_ne (tgt := 13) hx hb dX8_line_6 (by decide) (fun n => absurd c3 n) (fun _ => ?_)
    cases hf
    have k : s_V G (d + 3) M_X8_line vs0 σ0 Y_X8_line (14, [.ref v0, .int v1, .int v2, .int v3, .int v4, .int v5, .int v6, .int 1], σ1) (e_I r) := k
    refine lv_iconst (v := 1) hx hb dX8_line_9 (by decide) ?_
    refine lv_goto (tgt := 14) hx hb dX8_line_10 (by decide) ?_
    exact k.2 p e s m below meth c _ _ _ _ _ X I hn.1 hn.2 (lv_sub hl [0, 1, 2, 3, 4, 5, 6] rfl)
  · refine lv_if_ne (tgt := 13) hx hb dX8_line_6 (by decide) (fun _ => ?_) (fun n => absurd n c3)
    cases hf
    have k : s_V G (d + 3) M_X8_line vs0 σ0 Y_X8_line (14, [.ref v0, .int v1, .int v2, .int v3, .int v4, .int v5, .int v6, .int 0], σ1) (e_I r) := k
    refine lv_iconst (v := 0) hx hb dX8_line_13 (by decide) ?_
    exact k.2 p e s m below meth c _ _ _ _ _ X I hn.1 hn.2 (lv_sub hl [0, 1, 2, 3, 4, 5, 6] rfl)
set_option maxRecDepth 100000 in
set_option maxHeartbeats 4000000 in
theorem v_X8_line_14 {G : sG} {d : Nat} {vs0 : List Value} {σ0 : sS} {v0 : Nat} {v1 : Int32} {v2 : Int32} {v3 : Int32} {v4 : Int32} {v5 : Int32} {v6 : Int32} {w0 : Int32} {σ : sS} {z : sZ Int32} {r : Int32 × sS} (hf : T_X8_line_14 v0 v1 v2 v3 v4 v5 v6 w0 σ = some z) (k : s_K G (d + 3) M_X8_line vs0 σ0 Y_X8_line e_I z r) : s_V G (d + 3) M_X8_line vs0 σ0 Y_X8_line (14, [.ref v0, .int v1, .int v2, .int v3, .int v4, .int v5, .int v6, .int w0], σ) (e_I r) := by
  have le0 : s_le σ (e_I r).2 := s_lek hem_I (l_X8_line_14 hf) k
  refine ⟨le0, ?_⟩
  intro p e s m below meth c H locs cells slots ls X I hn1 hn2 hl
  have hn : cells + σ0.2.1 ≤ σ.2.1 ∧ slots + σ0.2.2.1 ≤ σ.2.2.1 := ⟨hn1, hn2⟩
  have hl : lv_has ls 10 [(0, .ref v0), (1, .int v1), (2, .int v2), (3, .int v3), (4, .int v4), (5, .int v5), (6, .int v6)] := hl
  have hx := X.1
  have hb : c.code = cX8_line := X.2.1
  have hown : s.vm.findClass RX8 = some m.cls := X.2.2.2.2.2.1
  have hts := X.2.2.2.2.2.2.1
  refine W.eq (g2 := F0 m 14 ls [.int w0]) rfl ?_
  unfold T_X8_line_14 at hf
  obtain ⟨q1, h1, hf⟩ := s_bind hf
  have le2 : s_le q1.2 (e_I r).2 := by
    refine s_lek hem_I ?_ k
    rcases s_ite hf with ⟨-, hf⟩ | ⟨-, hf⟩
    · obtain ⟨q2, hh, hf⟩ := s_bind hf
      refine s_lz.tr (l_X8_noFormula hh) ?_
      rcases s_ite hf with ⟨-, hf⟩ | ⟨-, hf⟩
      · obtain ⟨q3, hh, hf⟩ := s_bind hf
        refine s_lz.tr (l_X8_in hh) ?_
        rcases s_ite hf with ⟨-, hf⟩ | ⟨-, hf⟩
        · cases hf
          exact s_le.rf
        · rcases s_ite hf with ⟨-, hf⟩ | ⟨-, hf⟩
          · cases hf
            exact s_le.rf
          · obtain ⟨q4, hh, hf⟩ := s_bind hf
            refine s_lz.tr (l_X8_noCustomer hh) ?_
            rcases s_ite hf with ⟨-, hf⟩ | ⟨-, hf⟩
            · cases hf
              exact s_le.rf
            · cases hf
              exact s_le.rf
      · cases hf
        exact s_le.rf
    · cases hf
      exact s_le.rf
  refine lv_istore (lv' := [(7, .int w0), (0, .ref v0), (1, .int v1), (2, .int v2), (3, .int v3), (4, .int v4), (5, .int v5), (6, .int v6)]) hx hb dX8_line_14 hl (by decide) rfl (fun ls hl => ?_)
  refine lv_iload_n hx hb dX8_line_16 rfl (lv_at hl 2 rfl) ?_
  refine r_callS (Y := M_X8_noHouse) (v := some (.int q1.1)) X I w_1973 my_X8_noHouse (by omega) (t_X8_noHouse (G := G) (d := d + 0) h1) rfl rfl hl.1 rfl (Nat.le_of_ble_eq_true rfl) hn le2 dX8_line_17 (fun H locs cells slots I hn1 hn2 => ?_)
  have I : s_I G q1.2 s H locs := I
  have hn : cells + σ0.2.1 ≤ q1.2.2.1 ∧ slots + σ0.2.2.1 ≤ q1.2.2.2.1 := ⟨hn1, hn2⟩
  rcases s_ite hf with ⟨c3, hf⟩ | ⟨c3, hf⟩
  · refine lv_if_ne (tgt := 104) hx hb dX8_line_20 (by decide) (fun n => absurd c3 n) (fun _ => ?_)
    obtain ⟨q2, h4, hf⟩ := s_bind hf
    have le5 : s_le q2.2 (e_I r).2 := by
      refine s_lek hem_I ?_ k
      rcases s_ite hf with ⟨-, hf⟩ | ⟨-, hf⟩
      · obtain ⟨q3, hh, hf⟩ := s_bind hf
        refine s_lz.tr (l_X8_in hh) ?_
        rcases s_ite hf with ⟨-, hf⟩ | ⟨-, hf⟩
        · cases hf
          exact s_le.rf
        · rcases s_ite hf with ⟨-, hf⟩ | ⟨-, hf⟩
          · cases hf
            exact s_le.rf
          · obtain ⟨q4, hh, hf⟩ := s_bind hf
            refine s_lz.tr (l_X8_noCustomer hh) ?_
            rcases s_ite hf with ⟨-, hf⟩ | ⟨-, hf⟩
            · cases hf
              exact s_le.rf
            · cases hf
              exact s_le.rf
      · cases hf
        exact s_le.rf
    refine lv_aload_n hx hb dX8_line_23 rfl (lv_at hl 1 rfl) ?_
    refine lv_iload_n hx hb dX8_line_24 rfl (lv_at hl 3 rfl) ?_
    refine r_callV (Y := M_X8_noFormula) (v := some (.int q2.1)) X I w_1916 my_X8_noFormula (by omega) (t_X8_noFormula (G := G) (d := d + 0) h4) (b_X8_noFormula h4) rfl rfl hl.1 rfl (Nat.le_of_ble_eq_true rfl) hn le5 dX8_line_25 (fun H locs cells slots I hn1 hn2 => ?_)
    have I : s_I G q2.2 s H locs := I
    have hn : cells + σ0.2.1 ≤ q2.2.2.1 ∧ slots + σ0.2.2.1 ≤ q2.2.2.2.1 := ⟨hn1, hn2⟩
    rcases s_ite hf with ⟨c6, hf⟩ | ⟨c6, hf⟩
    · refine lv_if_ne (tgt := 104) hx hb dX8_line_28 (by decide) (fun n => absurd c6 n) (fun _ => ?_)
      obtain ⟨q3, h7, hf⟩ := s_bind hf
      have le8 : s_le q3.2 (e_I r).2 := by
        refine s_lek hem_I ?_ k
        rcases s_ite hf with ⟨-, hf⟩ | ⟨-, hf⟩
        · cases hf
          exact s_le.rf
        · rcases s_ite hf with ⟨-, hf⟩ | ⟨-, hf⟩
          · cases hf
            exact s_le.rf
          · obtain ⟨q4, hh, hf⟩ := s_bind hf
            refine s_lz.tr (l_X8_noCustomer hh) ?_
            rcases s_ite hf with ⟨-, hf⟩ | ⟨-, hf⟩
            · cases hf
              exact s_le.rf
            · cases hf
              exact s_le.rf
      refine lv_iload_n hx hb dX8_line_31 rfl (lv_at hl 4 rfl) ?_
      refine lv_iconst (v := 0) hx hb dX8_line_32 (by decide) ?_
      refine lv_bipush (v := 15) hx hb dX8_line_33 (by decide) ?_
      refine r_callS (Y := M_X8_in) (v := some (.int q3.1)) X I w_1909 my_X8_in (by omega) (t_X8_in (G := G) (d := d + 1) h7) rfl rfl hl.1 rfl (Nat.le_of_ble_eq_true rfl) hn le8 dX8_line_35 (fun H locs cells slots I hn1 hn2 => ?_)
      have I : s_I G q3.2 s H locs := I
      have hn : cells + σ0.2.1 ≤ q3.2.2.1 ∧ slots + σ0.2.2.1 ≤ q3.2.2.2.1 := ⟨hn1, hn2⟩
      rcases s_ite hf with ⟨c9, hf⟩ | ⟨c9, hf⟩
      · refine lv_if_eq (tgt := 104) hx hb dX8_line_38 (by decide) (fun _ => ?_) (fun n => absurd c9 n)
        cases hf
        have k : s_V G (d + 3) M_X8_line vs0 σ0 Y_X8_line (104, [.ref v0, .int v1, .int v2, .int v3, .int v4, .int v5, .int v6, .int w0], q3.2) (e_I r) := k
        exact k.2 p e s m below meth c _ _ _ _ _ X I hn.1 hn.2 (lv_sub hl [1, 2, 3, 4, 5, 6, 7, 0] rfl)
      · refine lv_if_eq (tgt := 104) hx hb dX8_line_38 (by decide) (fun n => absurd n c9) (fun _ => ?_)
        refine lv_iload hx hb dX8_line_41 (lv_at hl 0 rfl) ?_
        rcases s_ite hf with ⟨c10, hf⟩ | ⟨c10, hf⟩
        · refine lv_if_eq (tgt := 54) hx hb dX8_line_43 (by decide) (fun _ => ?_) (fun n => absurd c10 n)
          cases hf
          have k : s_V G (d + 3) M_X8_line vs0 σ0 Y_X8_line (54, [.ref v0, .int v1, .int v2, .int v3, .int v4, .int v5, .int v6, .int w0], q3.2) (e_I r) := k
          exact k.2 p e s m below meth c _ _ _ _ _ X I hn.1 hn.2 (lv_sub hl [1, 2, 3, 4, 5, 6, 7, 0] rfl)
        · refine lv_if_eq (tgt := 54) hx hb dX8_line_43 (by decide) (fun n => absurd n c10) (fun _ => ?_)
          obtain ⟨q4, h11, hf⟩ := s_bind hf
          have le12 : s_le q4.2 (e_I r).2 := by
            refine s_lek hem_I ?_ k
            rcases s_ite hf with ⟨-, hf⟩ | ⟨-, hf⟩
            · cases hf
              exact s_le.rf
            · cases hf
              exact s_le.rf
          refine lv_iload hx hb dX8_line_46 (lv_at hl 5 rfl) ?_
          refine r_callS (Y := M_X8_noCustomer) (v := some (.int q4.1)) X I w_1984 my_X8_noCustomer (by omega) (t_X8_noCustomer (G := G) (d := d + 0) h11) rfl rfl hl.1 rfl (Nat.le_of_ble_eq_true rfl) hn le12 dX8_line_48 (fun H locs cells slots I hn1 hn2 => ?_)
          have I : s_I G q4.2 s H locs := I
          have hn : cells + σ0.2.1 ≤ q4.2.2.1 ∧ slots + σ0.2.2.1 ≤ q4.2.2.2.1 := ⟨hn1, hn2⟩
          rcases s_ite hf with ⟨c13, hf⟩ | ⟨c13, hf⟩
          · refine lv_if_ne (tgt := 104) hx hb dX8_line_51 (by decide) (fun n => absurd c13 n) (fun _ => ?_)
            cases hf
            have k : s_V G (d + 3) M_X8_line vs0 σ0 Y_X8_line (54, [.ref v0, .int v1, .int v2, .int v3, .int v4, .int v5, .int v6, .int w0], q4.2) (e_I r) := k
            exact k.2 p e s m below meth c _ _ _ _ _ X I hn.1 hn.2 (lv_sub hl [1, 2, 3, 4, 5, 6, 7, 0] rfl)
          · refine lv_if_ne (tgt := 104) hx hb dX8_line_51 (by decide) (fun _ => ?_) (fun n => absurd n c13)
            cases hf
            have k : s_V G (d + 3) M_X8_line vs0 σ0 Y_X8_line (104, [.ref v0, .int v1, .int v2, .int v3, .int v4, .int v5, .int v6, .int w0], q4.2) (e_I r) := k
            exact k.2 p e s m below meth c _ _ _ _ _ X I hn.1 hn.2 (lv_sub hl [1, 2, 3, 4, 5, 6, 7, 0] rfl)
    · refine lv_if_ne (tgt := 104) hx hb dX8_line_28 (by decide) (fun _ => ?_) (fun n => absurd n c6)
      cases hf
      have k : s_V G (d + 3) M_X8_line vs0 σ0 Y_X8_line (104, [.ref v0, .int v1, .int v2, .int v3, .int v4, .int v5, .int v6, .int w0], q2.2) (e_I r) := k
      exact k.2 p e s m below meth c _ _ _ _ _ X I hn.1 hn.2 (lv_sub hl [1, 2, 3, 4, 5, 6, 7, 0] rfl)
  · refine lv_if_ne (tgt := 104) hx hb dX8_line_20 (by decide) (fun _ => ?_) (fun n => absurd n c3)
    cases hf
    have k : s_V G (d + 3) M_X8_line vs0 σ0 Y_X8_line (104, [.ref v0, .int v1, .int v2, .int v3, .int v4, .int v5, .int v6, .int w0], q1.2) (e_I r) := k
    exact k.2 p e s m below meth c _ _ _ _ _ X I hn.1 hn.2 (lv_sub hl [1, 2, 3, 4, 5, 6, 7, 0] rfl)
set_option maxRecDepth 100000 in
set_option maxHeartbeats 4000000 in
theorem v_X8_line_54 {G : sG} {d : Nat} {vs0 : List Value} {σ0 : sS} {v0 : Nat} {v1 : Int32} {v2 : Int32} {v3 : Int32} {v4 : Int32} {v5 : Int32} {v6 : Int32} {v7 : Int32} {σ : sS} {z : sZ Int32} {r : Int32 × sS} (hf : T_X8_line_54 v0 v1 v2 v3 v4 v5 v6 v7 σ = some z) (k : s_K G (d + 3) M_X8_line vs0 σ0 Y_X8_line e_I z r) : s_V G (d + 3) M_X8_line vs0 σ0 Y_X8_line (54, [.ref v0, .int v1, .int v2, .int v3, .int v4, .int v5, .int v6, .int v7], σ) (e_I r) := by
  have le0 : s_le σ (e_I r).2 := s_lek hem_I (l_X8_line_54 hf) k
  refine ⟨le0, ?_⟩
  intro p e s m below meth c H locs cells slots ls X I hn1 hn2 hl
  have hn : cells + σ0.2.1 ≤ σ.2.1 ∧ slots + σ0.2.2.1 ≤ σ.2.2.1 := ⟨hn1, hn2⟩
  have hl : lv_has ls 10 [(0, .ref v0), (1, .int v1), (2, .int v2), (3, .int v3), (4, .int v4), (5, .int v5), (6, .int v6), (7, .int v7)] := hl
  have hx := X.1
  have hb : c.code = cX8_line := X.2.1
  have hown : s.vm.findClass RX8 = some m.cls := X.2.2.2.2.2.1
  have hts := X.2.2.2.2.2.2.1
  refine W.eq (g2 := F0 m 54 ls []) rfl ?_
  unfold T_X8_line_54 at hf
  refine lv_iload hx hb dX8_line_54 (lv_at hl 7 rfl) ?_
  rcases s_ite hf with ⟨c1, hf⟩ | ⟨c1, hf⟩
  · refine lv_if_ne (tgt := 74) hx hb dX8_line_56 (by decide) (fun n => absurd c1 n) (fun _ => ?_)
    refine lv_iload hx hb dX8_line_59 (lv_at hl 4 rfl) ?_
    refine lv_iconst (v := (-1)) hx hb dX8_line_61 (by decide) ?_
    rcases s_ite hf with ⟨c2, hf⟩ | ⟨c2, hf⟩
    · refine lv_icmp_eq (tgt := 74) hx hb dX8_line_62 (by decide) (fun _ => ?_) (fun n => absurd c2 n)
      cases hf
      have k : s_V G (d + 3) M_X8_line vs0 σ0 Y_X8_line (74, [.ref v0, .int v1, .int v2, .int v3, .int v4, .int v5, .int v6, .int v7], σ) (e_I r) := k
      exact k.2 p e s m below meth c _ _ _ _ _ X I hn.1 hn.2 (lv_sub hl [0, 1, 2, 3, 4, 5, 6, 7] rfl)
    · refine lv_icmp_eq (tgt := 74) hx hb dX8_line_62 (by decide) (fun n => absurd n c2) (fun _ => ?_)
      obtain ⟨q1, h3, hf⟩ := s_bind hf
      have le4 : s_le q1.2 (e_I r).2 := by
        refine s_lek hem_I ?_ k
        rcases s_ite hf with ⟨-, hf⟩ | ⟨-, hf⟩
        · cases hf
          exact s_le.rf
        · cases hf
          exact s_le.rf
      refine lv_aload_n hx hb dX8_line_65 rfl (lv_at hl 0 rfl) ?_
      refine lv_iload hx hb dX8_line_66 (lv_at hl 4 rfl) ?_
      refine r_callV (Y := M_X8_noLine) (v := some (.int q1.1)) X I w_1999 my_X8_noLine (by omega) (t_X8_noLine (G := G) (d := d + 0) h3) (b_X8_noLine h3) rfl rfl hl.1 rfl (Nat.le_of_ble_eq_true rfl) hn le4 dX8_line_68 (fun H locs cells slots I hn1 hn2 => ?_)
      have I : s_I G q1.2 s H locs := I
      have hn : cells + σ0.2.1 ≤ q1.2.2.1 ∧ slots + σ0.2.2.1 ≤ q1.2.2.2.1 := ⟨hn1, hn2⟩
      rcases s_ite hf with ⟨c5, hf⟩ | ⟨c5, hf⟩
      · refine lv_if_ne (tgt := 104) hx hb dX8_line_71 (by decide) (fun n => absurd c5 n) (fun _ => ?_)
        cases hf
        have k : s_V G (d + 3) M_X8_line vs0 σ0 Y_X8_line (74, [.ref v0, .int v1, .int v2, .int v3, .int v4, .int v5, .int v6, .int v7], q1.2) (e_I r) := k
        exact k.2 p e s m below meth c _ _ _ _ _ X I hn.1 hn.2 (lv_sub hl [0, 1, 2, 3, 4, 5, 6, 7] rfl)
      · refine lv_if_ne (tgt := 104) hx hb dX8_line_71 (by decide) (fun _ => ?_) (fun n => absurd n c5)
        cases hf
        have k : s_V G (d + 3) M_X8_line vs0 σ0 Y_X8_line (104, [.ref v0, .int v1, .int v2, .int v3, .int v4, .int v5, .int v6, .int v7], q1.2) (e_I r) := k
        exact k.2 p e s m below meth c _ _ _ _ _ X I hn.1 hn.2 (lv_sub hl [0, 1, 2, 3, 4, 5, 6, 7] rfl)
  · refine lv_if_ne (tgt := 74) hx hb dX8_line_56 (by decide) (fun _ => ?_) (fun n => absurd n c1)
    cases hf
    have k : s_V G (d + 3) M_X8_line vs0 σ0 Y_X8_line (74, [.ref v0, .int v1, .int v2, .int v3, .int v4, .int v5, .int v6, .int v7], σ) (e_I r) := k
    exact k.2 p e s m below meth c _ _ _ _ _ X I hn.1 hn.2 (lv_sub hl [0, 1, 2, 3, 4, 5, 6, 7] rfl)
set_option maxRecDepth 100000 in
set_option maxHeartbeats 4000000 in
theorem v_X8_line_74 {G : sG} {d : Nat} {vs0 : List Value} {σ0 : sS} {v0 : Nat} {v1 : Int32} {v2 : Int32} {v3 : Int32} {v4 : Int32} {v5 : Int32} {v6 : Int32} {v7 : Int32} {σ : sS} {z : sZ Int32} {r : Int32 × sS} (hf : T_X8_line_74 v0 v1 v2 v3 v4 v5 v6 v7 σ = some z) (k : s_K G (d + 3) M_X8_line vs0 σ0 Y_X8_line e_I z r) : s_V G (d + 3) M_X8_line vs0 σ0 Y_X8_line (74, [.ref v0, .int v1, .int v2, .int v3, .int v4, .int v5, .int v6, .int v7], σ) (e_I r) := by
  have le0 : s_le σ (e_I r).2 := s_lek hem_I (l_X8_line_74 hf) k
  refine ⟨le0, ?_⟩
  intro p e s m below meth c H locs cells slots ls X I hn1 hn2 hl
  have hn : cells + σ0.2.1 ≤ σ.2.1 ∧ slots + σ0.2.2.1 ≤ σ.2.2.1 := ⟨hn1, hn2⟩
  have hl : lv_has ls 10 [(0, .ref v0), (1, .int v1), (2, .int v2), (3, .int v3), (4, .int v4), (5, .int v5), (6, .int v6), (7, .int v7)] := hl
  have hx := X.1
  have hb : c.code = cX8_line := X.2.1
  have hown : s.vm.findClass RX8 = some m.cls := X.2.2.2.2.2.1
  have hts := X.2.2.2.2.2.2.1
  refine W.eq (g2 := F0 m 74 ls []) rfl ?_
  unfold T_X8_line_74 at hf
  refine lv_iload hx hb dX8_line_74 (lv_at hl 5 rfl) ?_
  refine lv_iconst (v := (-1)) hx hb dX8_line_76 (by decide) ?_
  rcases s_ite hf with ⟨c1, hf⟩ | ⟨c1, hf⟩
  · refine lv_icmp_eq (tgt := 89) hx hb dX8_line_77 (by decide) (fun _ => ?_) (fun n => absurd c1 n)
    cases hf
    have k : s_V G (d + 3) M_X8_line vs0 σ0 Y_X8_line (89, [.ref v0, .int v1, .int v2, .int v3, .int v4, .int v5, .int v6, .int v7], σ) (e_I r) := k
    exact k.2 p e s m below meth c _ _ _ _ _ X I hn.1 hn.2 (lv_sub hl [0, 1, 2, 3, 4, 5, 6, 7] rfl)
  · refine lv_icmp_eq (tgt := 89) hx hb dX8_line_77 (by decide) (fun n => absurd n c1) (fun _ => ?_)
    obtain ⟨q1, h2, hf⟩ := s_bind hf
    have le3 : s_le q1.2 (e_I r).2 := by
      refine s_lek hem_I ?_ k
      rcases s_ite hf with ⟨-, hf⟩ | ⟨-, hf⟩
      · cases hf
        exact s_le.rf
      · cases hf
        exact s_le.rf
    refine lv_aload_n hx hb dX8_line_80 rfl (lv_at hl 0 rfl) ?_
    refine lv_iload hx hb dX8_line_81 (lv_at hl 5 rfl) ?_
    refine r_callV (Y := M_X8_noLine) (v := some (.int q1.1)) X I w_1999 my_X8_noLine (by omega) (t_X8_noLine (G := G) (d := d + 0) h2) (b_X8_noLine h2) rfl rfl hl.1 rfl (Nat.le_of_ble_eq_true rfl) hn le3 dX8_line_83 (fun H locs cells slots I hn1 hn2 => ?_)
    have I : s_I G q1.2 s H locs := I
    have hn : cells + σ0.2.1 ≤ q1.2.2.1 ∧ slots + σ0.2.2.1 ≤ q1.2.2.2.1 := ⟨hn1, hn2⟩
    rcases s_ite hf with ⟨c4, hf⟩ | ⟨c4, hf⟩
    · refine lv_if_ne (tgt := 104) hx hb dX8_line_86 (by decide) (fun n => absurd c4 n) (fun _ => ?_)
      cases hf
      have k : s_V G (d + 3) M_X8_line vs0 σ0 Y_X8_line (89, [.ref v0, .int v1, .int v2, .int v3, .int v4, .int v5, .int v6, .int v7], q1.2) (e_I r) := k
      exact k.2 p e s m below meth c _ _ _ _ _ X I hn.1 hn.2 (lv_sub hl [0, 1, 2, 3, 4, 5, 6, 7] rfl)
    · refine lv_if_ne (tgt := 104) hx hb dX8_line_86 (by decide) (fun _ => ?_) (fun n => absurd n c4)
      cases hf
      have k : s_V G (d + 3) M_X8_line vs0 σ0 Y_X8_line (104, [.ref v0, .int v1, .int v2, .int v3, .int v4, .int v5, .int v6, .int v7], q1.2) (e_I r) := k
      exact k.2 p e s m below meth c _ _ _ _ _ X I hn.1 hn.2 (lv_sub hl [0, 1, 2, 3, 4, 5, 6, 7] rfl)
set_option maxRecDepth 100000 in
set_option maxHeartbeats 4000000 in
theorem v_X8_line_89 {G : sG} {d : Nat} {vs0 : List Value} {σ0 : sS} {v0 : Nat} {v1 : Int32} {v2 : Int32} {v3 : Int32} {v4 : Int32} {v5 : Int32} {v6 : Int32} {v7 : Int32} {σ : sS} {z : sZ Int32} {r : Int32 × sS} (hf : T_X8_line_89 v0 v1 v2 v3 v4 v5 v6 v7 σ = some z) (k : s_K G (d + 3) M_X8_line vs0 σ0 Y_X8_line e_I z r) : s_V G (d + 3) M_X8_line vs0 σ0 Y_X8_line (89, [.ref v0, .int v1, .int v2, .int v3, .int v4, .int v5, .int v6, .int v7], σ) (e_I r) := by
  have le0 : s_le σ (e_I r).2 := s_lek hem_I (l_X8_line_89 hf) k
  refine ⟨le0, ?_⟩
  intro p e s m below meth c H locs cells slots ls X I hn1 hn2 hl
  have hn : cells + σ0.2.1 ≤ σ.2.1 ∧ slots + σ0.2.2.1 ≤ σ.2.2.1 := ⟨hn1, hn2⟩
  have hl : lv_has ls 10 [(0, .ref v0), (1, .int v1), (2, .int v2), (3, .int v3), (4, .int v4), (5, .int v5), (6, .int v6), (7, .int v7)] := hl
  have hx := X.1
  have hb : c.code = cX8_line := X.2.1
  have hown : s.vm.findClass RX8 = some m.cls := X.2.2.2.2.2.1
  have hts := X.2.2.2.2.2.2.1
  refine W.eq (g2 := F0 m 89 ls []) rfl ?_
  unfold T_X8_line_89 at hf
  refine lv_iload hx hb dX8_line_89 (lv_at hl 6 rfl) ?_
  refine lv_iconst (v := (-1)) hx hb dX8_line_91 (by decide) ?_
  rcases s_ite hf with ⟨c1, hf⟩ | ⟨c1, hf⟩
  · refine lv_icmp_eq (tgt := 108) hx hb dX8_line_92 (by decide) (fun _ => ?_) (fun n => absurd c1 n)
    cases hf
    have k : s_V G (d + 3) M_X8_line vs0 σ0 Y_X8_line (108, [.ref v0, .int v1, .int v2, .int v3, .int v4, .int v5, .int v6, .int v7], σ) (e_I r) := k
    exact k.2 p e s m below meth c _ _ _ _ _ X I hn.1 hn.2 (lv_sub hl [0, 1, 2, 3, 4, 5, 6, 7] rfl)
  · refine lv_icmp_eq (tgt := 108) hx hb dX8_line_92 (by decide) (fun n => absurd n c1) (fun _ => ?_)
    obtain ⟨q1, h2, hf⟩ := s_bind hf
    have le3 : s_le q1.2 (e_I r).2 := by
      refine s_lek hem_I ?_ k
      rcases s_ite hf with ⟨-, hf⟩ | ⟨-, hf⟩
      · cases hf
        exact s_le.rf
      · cases hf
        exact s_le.rf
    refine lv_aload_n hx hb dX8_line_95 rfl (lv_at hl 0 rfl) ?_
    refine lv_iload hx hb dX8_line_96 (lv_at hl 6 rfl) ?_
    refine r_callV (Y := M_X8_noLine) (v := some (.int q1.1)) X I w_1999 my_X8_noLine (by omega) (t_X8_noLine (G := G) (d := d + 0) h2) (b_X8_noLine h2) rfl rfl hl.1 rfl (Nat.le_of_ble_eq_true rfl) hn le3 dX8_line_98 (fun H locs cells slots I hn1 hn2 => ?_)
    have I : s_I G q1.2 s H locs := I
    have hn : cells + σ0.2.1 ≤ q1.2.2.1 ∧ slots + σ0.2.2.1 ≤ q1.2.2.2.1 := ⟨hn1, hn2⟩
    rcases s_ite hf with ⟨c4, hf⟩ | ⟨c4, hf⟩
    · refine lv_if_eq (tgt := 108) hx hb dX8_line_101 (by decide) (fun _ => ?_) (fun n => absurd c4 n)
      cases hf
      have k : s_V G (d + 3) M_X8_line vs0 σ0 Y_X8_line (108, [.ref v0, .int v1, .int v2, .int v3, .int v4, .int v5, .int v6, .int v7], q1.2) (e_I r) := k
      exact k.2 p e s m below meth c _ _ _ _ _ X I hn.1 hn.2 (lv_sub hl [0, 1, 2, 3, 4, 5, 6, 7] rfl)
    · refine lv_if_eq (tgt := 108) hx hb dX8_line_101 (by decide) (fun n => absurd n c4) (fun _ => ?_)
      cases hf
      have k : s_V G (d + 3) M_X8_line vs0 σ0 Y_X8_line (104, [.ref v0, .int v1, .int v2, .int v3, .int v4, .int v5, .int v6, .int v7], q1.2) (e_I r) := k
      exact k.2 p e s m below meth c _ _ _ _ _ X I hn.1 hn.2 (lv_sub hl [0, 1, 2, 3, 4, 5, 6, 7] rfl)
set_option maxRecDepth 100000 in
set_option maxHeartbeats 4000000 in
theorem v_X8_line_104 {G : sG} {d : Nat} {vs0 : List Value} {σ0 : sS} {v0 : Nat} {v1 : Int32} {v2 : Int32} {v3 : Int32} {v4 : Int32} {v5 : Int32} {v6 : Int32} {v7 : Int32} {σ : sS} {z : sZ Int32} {r : Int32 × sS} (hf : T_X8_line_104 v0 v1 v2 v3 v4 v5 v6 v7 σ = some z) (k : s_K G (d + 3) M_X8_line vs0 σ0 Y_X8_line e_I z r) : s_V G (d + 3) M_X8_line vs0 σ0 Y_X8_line (104, [.ref v0, .int v1, .int v2, .int v3, .int v4, .int v5, .int v6, .int v7], σ) (e_I r) := by
  have le0 : s_le σ (e_I r).2 := s_lek hem_I (l_X8_line_104 hf) k
  refine ⟨le0, ?_⟩
  intro p e s m below meth c H locs cells slots ls X I hn1 hn2 hl
  have hn : cells + σ0.2.1 ≤ σ.2.1 ∧ slots + σ0.2.2.1 ≤ σ.2.2.1 := ⟨hn1, hn2⟩
  have hl : lv_has ls 10 [(0, .ref v0), (1, .int v1), (2, .int v2), (3, .int v3), (4, .int v4), (5, .int v5), (6, .int v6), (7, .int v7)] := hl
  have hx := X.1
  have hb : c.code = cX8_line := X.2.1
  have hown : s.vm.findClass RX8 = some m.cls := X.2.2.2.2.2.1
  have hts := X.2.2.2.2.2.2.1
  refine W.eq (g2 := F0 m 104 ls []) rfl ?_
  unfold T_X8_line_104 at hf
  cases hf
  have k : s_V G (d + 3) M_X8_line vs0 σ0 Y_X8_line (109, [.ref v0, .int v1, .int v2, .int v3, .int v4, .int v5, .int v6, .int v7, .int 1], σ) (e_I r) := k
  refine lv_iconst (v := 1) hx hb dX8_line_104 (by decide) ?_
  refine lv_goto (tgt := 109) hx hb dX8_line_105 (by decide) ?_
  exact k.2 p e s m below meth c _ _ _ _ _ X I hn.1 hn.2 (lv_sub hl [0, 1, 2, 3, 4, 5, 6, 7] rfl)
set_option maxRecDepth 100000 in
set_option maxHeartbeats 4000000 in
theorem v_X8_line_108 {G : sG} {d : Nat} {vs0 : List Value} {σ0 : sS} {v0 : Nat} {v1 : Int32} {v2 : Int32} {v3 : Int32} {v4 : Int32} {v5 : Int32} {v6 : Int32} {v7 : Int32} {σ : sS} {z : sZ Int32} {r : Int32 × sS} (hf : T_X8_line_108 v0 v1 v2 v3 v4 v5 v6 v7 σ = some z) (k : s_K G (d + 3) M_X8_line vs0 σ0 Y_X8_line e_I z r) : s_V G (d + 3) M_X8_line vs0 σ0 Y_X8_line (108, [.ref v0, .int v1, .int v2, .int v3, .int v4, .int v5, .int v6, .int v7], σ) (e_I r) := by
  have le0 : s_le σ (e_I r).2 := s_lek hem_I (l_X8_line_108 hf) k
  refine ⟨le0, ?_⟩
  intro p e s m below meth c H locs cells slots ls X I hn1 hn2 hl
  have hn : cells + σ0.2.1 ≤ σ.2.1 ∧ slots + σ0.2.2.1 ≤ σ.2.2.1 := ⟨hn1, hn2⟩
  have hl : lv_has ls 10 [(0, .ref v0), (1, .int v1), (2, .int v2), (3, .int v3), (4, .int v4), (5, .int v5), (6, .int v6), (7, .int v7)] := hl
  have hx := X.1
  have hb : c.code = cX8_line := X.2.1
  have hown : s.vm.findClass RX8 = some m.cls := X.2.2.2.2.2.1
  have hts := X.2.2.2.2.2.2.1
  refine W.eq (g2 := F0 m 108 ls []) rfl ?_
  unfold T_X8_line_108 at hf
  cases hf
  have k : s_V G (d + 3) M_X8_line vs0 σ0 Y_X8_line (109, [.ref v0, .int v1, .int v2, .int v3, .int v4, .int v5, .int v6, .int v7, .int 0], σ) (e_I r) := k
  refine lv_iconst (v := 0) hx hb dX8_line_108 (by decide) ?_
  exact k.2 p e s m below meth c _ _ _ _ _ X I hn.1 hn.2 (lv_sub hl [0, 1, 2, 3, 4, 5, 6, 7] rfl)
set_option maxRecDepth 100000 in
set_option maxHeartbeats 4000000 in
theorem v_X8_line_109 {G : sG} {d : Nat} {vs0 : List Value} {σ0 : sS} {v0 : Nat} {v1 : Int32} {v2 : Int32} {v3 : Int32} {v4 : Int32} {v5 : Int32} {v6 : Int32} {v7 : Int32} {w0 : Int32} {σ : sS} {z : sZ Int32} {r : Int32 × sS} (hf : T_X8_line_109 v0 v1 v2 v3 v4 v5 v6 v7 w0 σ = some z) (k : s_K G (d + 3) M_X8_line vs0 σ0 Y_X8_line e_I z r) : s_V G (d + 3) M_X8_line vs0 σ0 Y_X8_line (109, [.ref v0, .int v1, .int v2, .int v3, .int v4, .int v5, .int v6, .int v7, .int w0], σ) (e_I r) := by
  have le0 : s_le σ (e_I r).2 := s_lek hem_I (l_X8_line_109 hf) k
  refine ⟨le0, ?_⟩
  intro p e s m below meth c H locs cells slots ls X I hn1 hn2 hl
  have hn : cells + σ0.2.1 ≤ σ.2.1 ∧ slots + σ0.2.2.1 ≤ σ.2.2.1 := ⟨hn1, hn2⟩
  have hl : lv_has ls 10 [(0, .ref v0), (1, .int v1), (2, .int v2), (3, .int v3), (4, .int v4), (5, .int v5), (6, .int v6), (7, .int v7)] := hl
  have hx := X.1
  have hb : c.code = cX8_line := X.2.1
  have hown : s.vm.findClass RX8 = some m.cls := X.2.2.2.2.2.1
  have hts := X.2.2.2.2.2.2.1
  refine W.eq (g2 := F0 m 109 ls [.int w0]) rfl ?_
  unfold T_X8_line_109 at hf
  obtain ⟨q1, h1, hf⟩ := s_bind hf
  have le2 : s_le q1.2 (e_I r).2 := by
    refine s_lek hem_I ?_ k
    rcases s_ite hf with ⟨-, hf⟩ | ⟨-, hf⟩
    · rcases s_ite hf with ⟨-, hf⟩ | ⟨-, hf⟩
      · rcases s_ite hf with ⟨-, hf⟩ | ⟨-, hf⟩
        · rcases s_ite hf with ⟨-, hf⟩ | ⟨-, hf⟩
          · cases hf
            exact s_le.rf
          · cases hf
            exact s_le.rf
        · cases hf
          exact s_le.rf
      · cases hf
        exact s_le.rf
    · cases hf
      exact s_le.rf
  refine lv_istore (lv' := [(8, .int w0), (0, .ref v0), (1, .int v1), (2, .int v2), (3, .int v3), (4, .int v4), (5, .int v5), (6, .int v6), (7, .int v7)]) hx hb dX8_line_109 hl (by decide) rfl (fun ls hl => ?_)
  refine lv_aload_n hx hb dX8_line_111 rfl (lv_at hl 1 rfl) ?_
  refine lv_iload hx hb dX8_line_112 (lv_at hl 0 rfl) ?_
  refine lv_iconst (v := 1) hx hb dX8_line_114 (by decide) ?_
  refine r_callV (Y := M_X8_throwsIf) (v := some (.int q1.1)) X I w_1897 my_X8_throwsIf (by omega) (t_X8_throwsIf (G := G) (d := d + 1) h1) (b_X8_throwsIf h1) rfl rfl hl.1 rfl (Nat.le_of_ble_eq_true rfl) hn le2 dX8_line_115 (fun H locs cells slots I hn1 hn2 => ?_)
  have I : s_I G q1.2 s H locs := I
  have hn : cells + σ0.2.1 ≤ q1.2.2.1 ∧ slots + σ0.2.2.1 ≤ q1.2.2.2.1 := ⟨hn1, hn2⟩
  rcases s_ite hf with ⟨c3, hf⟩ | ⟨c3, hf⟩
  · refine lv_if_ne (tgt := 202) hx hb dX8_line_118 (by decide) (fun n => absurd c3 n) (fun _ => ?_)
    refine lv_aload_n hx hb dX8_line_121 rfl (lv_at hl 1 rfl) ?_
    refine lv_iload hx hb dX8_line_122 (lv_at hl 8 rfl) ?_
    rcases s_ite hf with ⟨c4, hf⟩ | ⟨c4, hf⟩
    · refine lv_if_ne (tgt := 139) hx hb dX8_line_124 (by decide) (fun n => absurd c4 n) (fun _ => ?_)
      refine lv_iload hx hb dX8_line_127 (lv_at hl 5 rfl) ?_
      refine lv_iconst (v := (-1)) hx hb dX8_line_129 (by decide) ?_
      rcases s_ite hf with ⟨c5, hf⟩ | ⟨c5, hf⟩
      · refine lv_icmp_ne (tgt := 139) hx hb dX8_line_130 (by decide) (fun n => absurd c5 n) (fun _ => ?_)
        refine lv_iload hx hb dX8_line_133 (lv_at hl 6 rfl) ?_
        refine lv_iconst (v := (-1)) hx hb dX8_line_135 (by decide) ?_
        rcases s_ite hf with ⟨c6, hf⟩ | ⟨c6, hf⟩
        · refine lv_icmp_ne (tgt := 168) hx hb dX8_line_136 (by decide) (fun n => absurd c6 n) (fun _ => ?_)
          cases hf
          have k : s_V G (d + 3) M_X8_line vs0 σ0 Y_X8_line (139, [.ref v0, .int v1, .int v2, .int v3, .int v4, .int v5, .int v6, .int v7, .ref v0], q1.2) (e_I r) := k
          exact k.2 p e s m below meth c _ _ _ _ _ X I hn.1 hn.2 (lv_sub hl [1, 2, 3, 4, 5, 6, 7, 8] rfl)
        · refine lv_icmp_ne (tgt := 168) hx hb dX8_line_136 (by decide) (fun _ => ?_) (fun n => absurd n c6)
          cases hf
          have k : s_V G (d + 3) M_X8_line vs0 σ0 Y_X8_line (168, [.ref v0, .int v1, .int v2, .int v3, .int v4, .int v5, .int v6, .ref v0], q1.2) (e_I r) := k
          exact k.2 p e s m below meth c _ _ _ _ _ X I hn.1 hn.2 (lv_sub hl [1, 2, 3, 4, 5, 6, 7] rfl)
      · refine lv_icmp_ne (tgt := 139) hx hb dX8_line_130 (by decide) (fun _ => ?_) (fun n => absurd n c5)
        cases hf
        have k : s_V G (d + 3) M_X8_line vs0 σ0 Y_X8_line (139, [.ref v0, .int v1, .int v2, .int v3, .int v4, .int v5, .int v6, .int v7, .ref v0], q1.2) (e_I r) := k
        exact k.2 p e s m below meth c _ _ _ _ _ X I hn.1 hn.2 (lv_sub hl [1, 2, 3, 4, 5, 6, 7, 8] rfl)
    · refine lv_if_ne (tgt := 139) hx hb dX8_line_124 (by decide) (fun _ => ?_) (fun n => absurd n c4)
      cases hf
      have k : s_V G (d + 3) M_X8_line vs0 σ0 Y_X8_line (139, [.ref v0, .int v1, .int v2, .int v3, .int v4, .int v5, .int v6, .int v7, .ref v0], q1.2) (e_I r) := k
      exact k.2 p e s m below meth c _ _ _ _ _ X I hn.1 hn.2 (lv_sub hl [1, 2, 3, 4, 5, 6, 7, 8] rfl)
  · refine lv_if_ne (tgt := 202) hx hb dX8_line_118 (by decide) (fun _ => ?_) (fun n => absurd n c3)
    cases hf
    have k : _ = r := k
    subst k
    refine lv_iconst (v := 0) hx hb dX8_line_202 (by decide) ?_
    exact r_iret X I rfl rfl rfl hn dX8_line_203
set_option maxRecDepth 100000 in
set_option maxHeartbeats 4000000 in
theorem v_X8_line_139 {G : sG} {d : Nat} {vs0 : List Value} {σ0 : sS} {v0 : Nat} {v1 : Int32} {v2 : Int32} {v3 : Int32} {v4 : Int32} {v5 : Int32} {v6 : Int32} {v7 : Int32} {w0 : Nat} {σ : sS} {z : sZ Int32} {r : Int32 × sS} (hf : T_X8_line_139 v0 v1 v2 v3 v4 v5 v6 v7 w0 σ = some z) (k : s_K G (d + 3) M_X8_line vs0 σ0 Y_X8_line e_I z r) : s_V G (d + 3) M_X8_line vs0 σ0 Y_X8_line (139, [.ref v0, .int v1, .int v2, .int v3, .int v4, .int v5, .int v6, .int v7, .ref w0], σ) (e_I r) := by
  have le0 : s_le σ (e_I r).2 := s_lek hem_I (l_X8_line_139 hf) k
  refine ⟨le0, ?_⟩
  intro p e s m below meth c H locs cells slots ls X I hn1 hn2 hl
  have hn : cells + σ0.2.1 ≤ σ.2.1 ∧ slots + σ0.2.2.1 ≤ σ.2.2.1 := ⟨hn1, hn2⟩
  have hl : lv_has ls 10 [(0, .ref v0), (1, .int v1), (2, .int v2), (3, .int v3), (4, .int v4), (5, .int v5), (6, .int v6), (7, .int v7)] := hl
  have hx := X.1
  have hb : c.code = cX8_line := X.2.1
  have hown : s.vm.findClass RX8 = some m.cls := X.2.2.2.2.2.1
  have hts := X.2.2.2.2.2.2.1
  refine W.eq (g2 := F0 m 139 ls [.ref w0]) rfl ?_
  unfold T_X8_line_139 at hf
  refine lv_iload hx hb dX8_line_139 (lv_at hl 5 rfl) ?_
  refine lv_iconst (v := (-1)) hx hb dX8_line_141 (by decide) ?_
  rcases s_ite hf with ⟨c1, hf⟩ | ⟨c1, hf⟩
  · refine lv_icmp_ne (tgt := 151) hx hb dX8_line_142 (by decide) (fun n => absurd c1 n) (fun _ => ?_)
    refine lv_iload hx hb dX8_line_145 (lv_at hl 6 rfl) ?_
    refine lv_iconst (v := (-1)) hx hb dX8_line_147 (by decide) ?_
    rcases s_ite hf with ⟨c2, hf⟩ | ⟨c2, hf⟩
    · refine lv_icmp_ne (tgt := 168) hx hb dX8_line_148 (by decide) (fun n => absurd c2 n) (fun _ => ?_)
      cases hf
      have k : s_V G (d + 3) M_X8_line vs0 σ0 Y_X8_line (151, [.ref v0, .int v1, .int v2, .int v3, .int v4, .int v5, .int v6, .int v7, .ref w0], σ) (e_I r) := k
      exact k.2 p e s m below meth c _ _ _ _ _ X I hn.1 hn.2 (lv_sub hl [0, 1, 2, 3, 4, 5, 6, 7] rfl)
    · refine lv_icmp_ne (tgt := 168) hx hb dX8_line_148 (by decide) (fun _ => ?_) (fun n => absurd n c2)
      cases hf
      have k : s_V G (d + 3) M_X8_line vs0 σ0 Y_X8_line (168, [.ref v0, .int v1, .int v2, .int v3, .int v4, .int v5, .int v6, .ref w0], σ) (e_I r) := k
      exact k.2 p e s m below meth c _ _ _ _ _ X I hn.1 hn.2 (lv_sub hl [0, 1, 2, 3, 4, 5, 6] rfl)
  · refine lv_icmp_ne (tgt := 151) hx hb dX8_line_142 (by decide) (fun _ => ?_) (fun n => absurd n c1)
    cases hf
    have k : s_V G (d + 3) M_X8_line vs0 σ0 Y_X8_line (151, [.ref v0, .int v1, .int v2, .int v3, .int v4, .int v5, .int v6, .int v7, .ref w0], σ) (e_I r) := k
    exact k.2 p e s m below meth c _ _ _ _ _ X I hn.1 hn.2 (lv_sub hl [0, 1, 2, 3, 4, 5, 6, 7] rfl)
set_option maxRecDepth 100000 in
set_option maxHeartbeats 4000000 in
theorem v_X8_line_151 {G : sG} {d : Nat} {vs0 : List Value} {σ0 : sS} {v0 : Nat} {v1 : Int32} {v2 : Int32} {v3 : Int32} {v4 : Int32} {v5 : Int32} {v6 : Int32} {v7 : Int32} {w0 : Nat} {σ : sS} {z : sZ Int32} {r : Int32 × sS} (hf : T_X8_line_151 v0 v1 v2 v3 v4 v5 v6 v7 w0 σ = some z) (k : s_K G (d + 3) M_X8_line vs0 σ0 Y_X8_line e_I z r) : s_V G (d + 3) M_X8_line vs0 σ0 Y_X8_line (151, [.ref v0, .int v1, .int v2, .int v3, .int v4, .int v5, .int v6, .int v7, .ref w0], σ) (e_I r) := by
  have le0 : s_le σ (e_I r).2 := s_lek hem_I (l_X8_line_151 hf) k
  refine ⟨le0, ?_⟩
  intro p e s m below meth c H locs cells slots ls X I hn1 hn2 hl
  have hn : cells + σ0.2.1 ≤ σ.2.1 ∧ slots + σ0.2.2.1 ≤ σ.2.2.1 := ⟨hn1, hn2⟩
  have hl : lv_has ls 10 [(0, .ref v0), (1, .int v1), (2, .int v2), (3, .int v3), (4, .int v4), (5, .int v5), (6, .int v6), (7, .int v7)] := hl
  have hx := X.1
  have hb : c.code = cX8_line := X.2.1
  have hown : s.vm.findClass RX8 = some m.cls := X.2.2.2.2.2.1
  have hts := X.2.2.2.2.2.2.1
  refine W.eq (g2 := F0 m 151 ls [.ref w0]) rfl ?_
  unfold T_X8_line_151 at hf
  refine lv_iload hx hb dX8_line_151 (lv_at hl 7 rfl) ?_
  rcases s_ite hf with ⟨c1, hf⟩ | ⟨c1, hf⟩
  · refine lv_if_eq (tgt := 172) hx hb dX8_line_153 (by decide) (fun _ => ?_) (fun n => absurd c1 n)
    cases hf
    have k : s_V G (d + 3) M_X8_line vs0 σ0 Y_X8_line (172, [.ref v0, .int v1, .int v2, .int v3, .int v4, .int v5, .int v6, .ref w0], σ) (e_I r) := k
    exact k.2 p e s m below meth c _ _ _ _ _ X I hn.1 hn.2 (lv_sub hl [0, 1, 2, 3, 4, 5, 6] rfl)
  · refine lv_if_eq (tgt := 172) hx hb dX8_line_153 (by decide) (fun n => absurd n c1) (fun _ => ?_)
    refine lv_iload hx hb dX8_line_156 (lv_at hl 5 rfl) ?_
    refine lv_iconst (v := (-1)) hx hb dX8_line_158 (by decide) ?_
    rcases s_ite hf with ⟨c2, hf⟩ | ⟨c2, hf⟩
    · refine lv_icmp_ne (tgt := 168) hx hb dX8_line_159 (by decide) (fun n => absurd c2 n) (fun _ => ?_)
      refine lv_iload hx hb dX8_line_162 (lv_at hl 6 rfl) ?_
      refine lv_iconst (v := (-1)) hx hb dX8_line_164 (by decide) ?_
      rcases s_ite hf with ⟨c3, hf⟩ | ⟨c3, hf⟩
      · refine lv_icmp_eq (tgt := 172) hx hb dX8_line_165 (by decide) (fun _ => ?_) (fun n => absurd c3 n)
        cases hf
        have k : s_V G (d + 3) M_X8_line vs0 σ0 Y_X8_line (172, [.ref v0, .int v1, .int v2, .int v3, .int v4, .int v5, .int v6, .ref w0], σ) (e_I r) := k
        exact k.2 p e s m below meth c _ _ _ _ _ X I hn.1 hn.2 (lv_sub hl [0, 1, 2, 3, 4, 5, 6] rfl)
      · refine lv_icmp_eq (tgt := 172) hx hb dX8_line_165 (by decide) (fun n => absurd n c3) (fun _ => ?_)
        cases hf
        have k : s_V G (d + 3) M_X8_line vs0 σ0 Y_X8_line (168, [.ref v0, .int v1, .int v2, .int v3, .int v4, .int v5, .int v6, .ref w0], σ) (e_I r) := k
        exact k.2 p e s m below meth c _ _ _ _ _ X I hn.1 hn.2 (lv_sub hl [0, 1, 2, 3, 4, 5, 6] rfl)
    · refine lv_icmp_ne (tgt := 168) hx hb dX8_line_159 (by decide) (fun _ => ?_) (fun n => absurd n c2)
      cases hf
      have k : s_V G (d + 3) M_X8_line vs0 σ0 Y_X8_line (168, [.ref v0, .int v1, .int v2, .int v3, .int v4, .int v5, .int v6, .ref w0], σ) (e_I r) := k
      exact k.2 p e s m below meth c _ _ _ _ _ X I hn.1 hn.2 (lv_sub hl [0, 1, 2, 3, 4, 5, 6] rfl)
set_option maxRecDepth 100000 in
set_option maxHeartbeats 4000000 in
theorem v_X8_line_168 {G : sG} {d : Nat} {vs0 : List Value} {σ0 : sS} {v0 : Nat} {v1 : Int32} {v2 : Int32} {v3 : Int32} {v4 : Int32} {v5 : Int32} {v6 : Int32} {w0 : Nat} {σ : sS} {z : sZ Int32} {r : Int32 × sS} (hf : T_X8_line_168 v0 v1 v2 v3 v4 v5 v6 w0 σ = some z) (k : s_K G (d + 3) M_X8_line vs0 σ0 Y_X8_line e_I z r) : s_V G (d + 3) M_X8_line vs0 σ0 Y_X8_line (168, [.ref v0, .int v1, .int v2, .int v3, .int v4, .int v5, .int v6, .ref w0], σ) (e_I r) := by
  have le0 : s_le σ (e_I r).2 := s_lek hem_I (l_X8_line_168 hf) k
  refine ⟨le0, ?_⟩
  intro p e s m below meth c H locs cells slots ls X I hn1 hn2 hl
  have hn : cells + σ0.2.1 ≤ σ.2.1 ∧ slots + σ0.2.2.1 ≤ σ.2.2.1 := ⟨hn1, hn2⟩
  have hl : lv_has ls 10 [(0, .ref v0), (1, .int v1), (2, .int v2), (3, .int v3), (4, .int v4), (5, .int v5), (6, .int v6)] := hl
  have hx := X.1
  have hb : c.code = cX8_line := X.2.1
  have hown : s.vm.findClass RX8 = some m.cls := X.2.2.2.2.2.1
  have hts := X.2.2.2.2.2.2.1
  refine W.eq (g2 := F0 m 168 ls [.ref w0]) rfl ?_
  unfold T_X8_line_168 at hf
  cases hf
  have k : s_V G (d + 3) M_X8_line vs0 σ0 Y_X8_line (173, [.ref v0, .int v1, .int v2, .int v3, .int v4, .int v5, .int v6, .int 1, .ref w0], σ) (e_I r) := k
  refine lv_iconst (v := 1) hx hb dX8_line_168 (by decide) ?_
  refine lv_goto (tgt := 173) hx hb dX8_line_169 (by decide) ?_
  exact k.2 p e s m below meth c _ _ _ _ _ X I hn.1 hn.2 (lv_sub hl [0, 1, 2, 3, 4, 5, 6] rfl)
set_option maxRecDepth 100000 in
set_option maxHeartbeats 4000000 in
theorem v_X8_line_172 {G : sG} {d : Nat} {vs0 : List Value} {σ0 : sS} {v0 : Nat} {v1 : Int32} {v2 : Int32} {v3 : Int32} {v4 : Int32} {v5 : Int32} {v6 : Int32} {w0 : Nat} {σ : sS} {z : sZ Int32} {r : Int32 × sS} (hf : T_X8_line_172 v0 v1 v2 v3 v4 v5 v6 w0 σ = some z) (k : s_K G (d + 3) M_X8_line vs0 σ0 Y_X8_line e_I z r) : s_V G (d + 3) M_X8_line vs0 σ0 Y_X8_line (172, [.ref v0, .int v1, .int v2, .int v3, .int v4, .int v5, .int v6, .ref w0], σ) (e_I r) := by
  have le0 : s_le σ (e_I r).2 := s_lek hem_I (l_X8_line_172 hf) k
  refine ⟨le0, ?_⟩
  intro p e s m below meth c H locs cells slots ls X I hn1 hn2 hl
  have hn : cells + σ0.2.1 ≤ σ.2.1 ∧ slots + σ0.2.2.1 ≤ σ.2.2.1 := ⟨hn1, hn2⟩
  have hl : lv_has ls 10 [(0, .ref v0), (1, .int v1), (2, .int v2), (3, .int v3), (4, .int v4), (5, .int v5), (6, .int v6)] := hl
  have hx := X.1
  have hb : c.code = cX8_line := X.2.1
  have hown : s.vm.findClass RX8 = some m.cls := X.2.2.2.2.2.1
  have hts := X.2.2.2.2.2.2.1
  refine W.eq (g2 := F0 m 172 ls [.ref w0]) rfl ?_
  unfold T_X8_line_172 at hf
  cases hf
  have k : s_V G (d + 3) M_X8_line vs0 σ0 Y_X8_line (173, [.ref v0, .int v1, .int v2, .int v3, .int v4, .int v5, .int v6, .int 0, .ref w0], σ) (e_I r) := k
  refine lv_iconst (v := 0) hx hb dX8_line_172 (by decide) ?_
  exact k.2 p e s m below meth c _ _ _ _ _ X I hn.1 hn.2 (lv_sub hl [0, 1, 2, 3, 4, 5, 6] rfl)
set_option maxRecDepth 100000 in
set_option maxHeartbeats 4000000 in
theorem v_X8_line_173 {G : sG} {d : Nat} {vs0 : List Value} {σ0 : sS} {v0 : Nat} {v1 : Int32} {v2 : Int32} {v3 : Int32} {v4 : Int32} {v5 : Int32} {v6 : Int32} {w0 : Int32} {w1 : Nat} {σ : sS} {z : sZ Int32} {r : Int32 × sS} (hf : T_X8_line_173 v0 v1 v2 v3 v4 v5 v6 w0 w1 σ = some z) (k : s_K G (d + 3) M_X8_line vs0 σ0 Y_X8_line e_I z r) : s_V G (d + 3) M_X8_line vs0 σ0 Y_X8_line (173, [.ref v0, .int v1, .int v2, .int v3, .int v4, .int v5, .int v6, .int w0, .ref w1], σ) (e_I r) := by
  have le0 : s_le σ (e_I r).2 := s_lek hem_I (l_X8_line_173 hf) k
  refine ⟨le0, ?_⟩
  intro p e s m below meth c H locs cells slots ls X I hn1 hn2 hl
  have hn : cells + σ0.2.1 ≤ σ.2.1 ∧ slots + σ0.2.2.1 ≤ σ.2.2.1 := ⟨hn1, hn2⟩
  have hl : lv_has ls 10 [(0, .ref v0), (1, .int v1), (2, .int v2), (3, .int v3), (4, .int v4), (5, .int v5), (6, .int v6)] := hl
  have hx := X.1
  have hb : c.code = cX8_line := X.2.1
  have hown : s.vm.findClass RX8 = some m.cls := X.2.2.2.2.2.1
  have hts := X.2.2.2.2.2.2.1
  refine W.eq (g2 := F0 m 173 ls [.int w0, .ref w1]) rfl ?_
  unfold T_X8_line_173 at hf
  obtain ⟨q1, h1, hf⟩ := s_bind hf
  have le2 : s_le q1.2 (e_I r).2 := by
    refine s_lek hem_I ?_ k
    rcases s_ite hf with ⟨-, hf⟩ | ⟨-, hf⟩
    · obtain ⟨q2, hh, hf⟩ := s_bind hf
      refine s_lz.tr (l_X8_lines hh) ?_
      rcases s_ite hf with ⟨-, hf⟩ | ⟨-, hf⟩
      · cases hf
        exact s_le.rf
      · cases hf
        exact s_le.rf
    · cases hf
      exact s_le.rf
  refine lv_iconst (v := 2) hx hb dX8_line_173 (by decide) ?_
  refine r_callV (Y := M_X8_throwsIf) (v := some (.int q1.1)) X I w_1897 my_X8_throwsIf (by omega) (t_X8_throwsIf (G := G) (d := d + 1) h1) (b_X8_throwsIf h1) rfl rfl hl.1 rfl (Nat.le_of_ble_eq_true rfl) hn le2 dX8_line_174 (fun H locs cells slots I hn1 hn2 => ?_)
  have I : s_I G q1.2 s H locs := I
  have hn : cells + σ0.2.1 ≤ q1.2.2.1 ∧ slots + σ0.2.2.1 ≤ q1.2.2.2.1 := ⟨hn1, hn2⟩
  rcases s_ite hf with ⟨c3, hf⟩ | ⟨c3, hf⟩
  · refine lv_if_ne (tgt := 202) hx hb dX8_line_177 (by decide) (fun n => absurd c3 n) (fun _ => ?_)
    obtain ⟨q2, h4, hf⟩ := s_bind hf
    have le5 : s_le q2.2 (e_I r).2 := by
      refine s_lek hem_I ?_ k
      rcases s_ite hf with ⟨-, hf⟩ | ⟨-, hf⟩
      · cases hf
        exact s_le.rf
      · cases hf
        exact s_le.rf
    refine lv_aload_n hx hb dX8_line_180 rfl (lv_at hl 0 rfl) ?_
    refine lv_aload_n hx hb dX8_line_181 rfl (lv_at hl 0 rfl) ?_
    refine r_callV (Y := M_X8_lines) (v := some (.int q2.1)) X I w_2003 my_X8_lines (by omega) (t_X8_lines (G := G) (d := d + 1) h4) (b_X8_lines h4) rfl rfl hl.1 rfl (Nat.le_of_ble_eq_true rfl) hn le5 dX8_line_182 (fun H locs cells slots I hn1 hn2 => ?_)
    have I : s_I G q2.2 s H locs := I
    have hn : cells + σ0.2.1 ≤ q2.2.2.1 ∧ slots + σ0.2.2.1 ≤ q2.2.2.2.1 := ⟨hn1, hn2⟩
    refine lv_bipush (v := 40) hx hb dX8_line_185 (by decide) ?_
    rcases s_ite hf with ⟨c6, hf⟩ | ⟨c6, hf⟩
    · refine lv_icmp_ne (tgt := 194) hx hb dX8_line_187 (by decide) (fun n => absurd c6 n) (fun _ => ?_)
      cases hf
      have k : s_V G (d + 3) M_X8_line vs0 σ0 Y_X8_line (195, [.ref v0, .int v1, .int v2, .int v3, .int v4, .int v5, .int v6, .int 1, .ref v0], q2.2) (e_I r) := k
      refine lv_iconst (v := 1) hx hb dX8_line_190 (by decide) ?_
      refine lv_goto (tgt := 195) hx hb dX8_line_191 (by decide) ?_
      exact k.2 p e s m below meth c _ _ _ _ _ X I hn.1 hn.2 (lv_sub hl [0, 1, 2, 3, 4, 5, 6] rfl)
    · refine lv_icmp_ne (tgt := 194) hx hb dX8_line_187 (by decide) (fun _ => ?_) (fun n => absurd n c6)
      cases hf
      have k : s_V G (d + 3) M_X8_line vs0 σ0 Y_X8_line (195, [.ref v0, .int v1, .int v2, .int v3, .int v4, .int v5, .int v6, .int 0, .ref v0], q2.2) (e_I r) := k
      refine lv_iconst (v := 0) hx hb dX8_line_194 (by decide) ?_
      exact k.2 p e s m below meth c _ _ _ _ _ X I hn.1 hn.2 (lv_sub hl [0, 1, 2, 3, 4, 5, 6] rfl)
  · refine lv_if_ne (tgt := 202) hx hb dX8_line_177 (by decide) (fun _ => ?_) (fun n => absurd n c3)
    cases hf
    have k : _ = r := k
    subst k
    refine lv_iconst (v := 0) hx hb dX8_line_202 (by decide) ?_
    exact r_iret X I rfl rfl rfl hn dX8_line_203
set_option maxRecDepth 100000 in
set_option maxHeartbeats 4000000 in
theorem v_X8_line_195 {G : sG} {d : Nat} {vs0 : List Value} {σ0 : sS} {v0 : Nat} {v1 : Int32} {v2 : Int32} {v3 : Int32} {v4 : Int32} {v5 : Int32} {v6 : Int32} {w0 : Int32} {w1 : Nat} {σ : sS} {z : sZ Int32} {r : Int32 × sS} (hf : T_X8_line_195 v0 v1 v2 v3 v4 v5 v6 w0 w1 σ = some z) (k : s_K G (d + 3) M_X8_line vs0 σ0 Y_X8_line e_I z r) : s_V G (d + 3) M_X8_line vs0 σ0 Y_X8_line (195, [.ref v0, .int v1, .int v2, .int v3, .int v4, .int v5, .int v6, .int w0, .ref w1], σ) (e_I r) := by
  have le0 : s_le σ (e_I r).2 := s_lek hem_I (l_X8_line_195 hf) k
  refine ⟨le0, ?_⟩
  intro p e s m below meth c H locs cells slots ls X I hn1 hn2 hl
  have hn : cells + σ0.2.1 ≤ σ.2.1 ∧ slots + σ0.2.2.1 ≤ σ.2.2.1 := ⟨hn1, hn2⟩
  have hl : lv_has ls 10 [(0, .ref v0), (1, .int v1), (2, .int v2), (3, .int v3), (4, .int v4), (5, .int v5), (6, .int v6)] := hl
  have hx := X.1
  have hb : c.code = cX8_line := X.2.1
  have hown : s.vm.findClass RX8 = some m.cls := X.2.2.2.2.2.1
  have hts := X.2.2.2.2.2.2.1
  refine W.eq (g2 := F0 m 195 ls [.int w0, .ref w1]) rfl ?_
  unfold T_X8_line_195 at hf
  obtain ⟨q1, h1, hf⟩ := s_bind hf
  have le2 : s_le q1.2 (e_I r).2 := by
    refine s_lek hem_I ?_ k
    rcases s_ite hf with ⟨-, hf⟩ | ⟨-, hf⟩
    · obtain ⟨q2, hh, hf⟩ := s_bind hf
      refine s_lz.tr (l_X8_lines hh) ?_
      obtain ⟨x3, -, hf⟩ := s_bind hf
      obtain ⟨σ4, hh, hf⟩ := s_bind hf
      refine s_lz.tr (s_le2 (s_si_2 hh)) ?_
      obtain ⟨x5, -, hf⟩ := s_bind hf
      obtain ⟨σ6, hh, hf⟩ := s_bind hf
      refine s_lz.tr (s_le2 (s_si_2 hh)) ?_
      obtain ⟨x7, -, hf⟩ := s_bind hf
      obtain ⟨σ8, hh, hf⟩ := s_bind hf
      refine s_lz.tr (s_le2 (s_si_2 hh)) ?_
      obtain ⟨x9, -, hf⟩ := s_bind hf
      obtain ⟨σ10, hh, hf⟩ := s_bind hf
      refine s_lz.tr (s_le2 (s_si_2 hh)) ?_
      obtain ⟨x11, -, hf⟩ := s_bind hf
      obtain ⟨σ12, hh, hf⟩ := s_bind hf
      refine s_lz.tr (s_le2 (s_si_2 hh)) ?_
      obtain ⟨x13, -, hf⟩ := s_bind hf
      obtain ⟨σ14, hh, hf⟩ := s_bind hf
      refine s_lz.tr (s_le2 (s_si_2 hh)) ?_
      obtain ⟨x15, -, hf⟩ := s_bind hf
      obtain ⟨x16, -, hf⟩ := s_bind hf
      obtain ⟨σ17, hh, hf⟩ := s_bind hf
      refine s_lz.tr (s_le2 (s_si_2 hh)) ?_
      obtain ⟨q18, hh, hf⟩ := s_bind hf
      refine s_lz.tr (l_X8_lines hh) ?_
      cases hf
      exact s_le.rf
    · cases hf
      exact s_le.rf
  refine lv_iconst (v := 3) hx hb dX8_line_195 (by decide) ?_
  refine r_callV (Y := M_X8_throwsIf) (v := some (.int q1.1)) X I w_1897 my_X8_throwsIf (by omega) (t_X8_throwsIf (G := G) (d := d + 1) h1) (b_X8_throwsIf h1) rfl rfl hl.1 rfl (Nat.le_of_ble_eq_true rfl) hn le2 dX8_line_196 (fun H locs cells slots I hn1 hn2 => ?_)
  have I : s_I G q1.2 s H locs := I
  have hn : cells + σ0.2.1 ≤ q1.2.2.1 ∧ slots + σ0.2.2.1 ≤ q1.2.2.2.1 := ⟨hn1, hn2⟩
  rcases s_ite hf with ⟨c3, hf⟩ | ⟨c3, hf⟩
  · refine lv_if_eq (tgt := 204) hx hb dX8_line_199 (by decide) (fun _ => ?_) (fun n => absurd c3 n)
    obtain ⟨q2, h4, hf⟩ := s_bind hf
    obtain ⟨x3, h5, hf⟩ := s_bind hf
    obtain ⟨σ4, h6, hf⟩ := s_bind hf
    obtain ⟨x5, h7, hf⟩ := s_bind hf
    obtain ⟨σ6, h8, hf⟩ := s_bind hf
    obtain ⟨x7, h9, hf⟩ := s_bind hf
    obtain ⟨σ8, h10, hf⟩ := s_bind hf
    obtain ⟨x9, h11, hf⟩ := s_bind hf
    obtain ⟨σ10, h12, hf⟩ := s_bind hf
    obtain ⟨x11, h13, hf⟩ := s_bind hf
    obtain ⟨σ12, h14, hf⟩ := s_bind hf
    obtain ⟨x13, h15, hf⟩ := s_bind hf
    obtain ⟨σ14, h16, hf⟩ := s_bind hf
    obtain ⟨x15, h17, hf⟩ := s_bind hf
    obtain ⟨x16, h18, hf⟩ := s_bind hf
    obtain ⟨σ17, h19, hf⟩ := s_bind hf
    obtain ⟨q18, h20, hf⟩ := s_bind hf
    cases hf
    have k : _ = r := k
    subst k
    have le21 : s_le q18.2 q18.2 := s_le.rf
    have le22 := s_le.tr (l_X8_lines h20) le21
    have le23 := s_le.tr (s_le2 (s_si_2 h19)) le22
    have le24 := s_le.tr (s_le2 (s_si_2 h16)) le23
    have le25 := s_le.tr (s_le2 (s_si_2 h14)) le24
    have le26 := s_le.tr (s_le2 (s_si_2 h12)) le25
    have le27 := s_le.tr (s_le2 (s_si_2 h10)) le26
    have le28 := s_le.tr (s_le2 (s_si_2 h8)) le27
    have le29 := s_le.tr (s_le2 (s_si_2 h6)) le28
    refine lv_sipush (v := 1292) hx hb dX8_line_204 (by decide) ?_
    refine lv_bipush (v := 6) hx hb dX8_line_207 (by decide) ?_
    refine lv_aload_n hx hb dX8_line_209 rfl (lv_at hl 0 rfl) ?_
    refine r_callV (Y := M_X8_lines) (v := some (.int q2.1)) X I w_2003 my_X8_lines (by omega) (t_X8_lines (G := G) (d := d + 1) h4) (b_X8_lines h4) rfl rfl hl.1 rfl (Nat.le_of_ble_eq_true rfl) hn le29 dX8_line_210 (fun H locs cells slots I hn1 hn2 => ?_)
    have I : s_I G q2.2 s H locs := I
    have hn : cells + σ0.2.1 ≤ q2.2.2.1 ∧ slots + σ0.2.2.1 ≤ q2.2.2.2.1 := ⟨hn1, hn2⟩
    refine lv_imul hx hb dX8_line_213 ?_
    refine lv_iadd hx hb dX8_line_214 ?_
    refine lv_istore (lv' := [(9, .int (1292 + (6 * q2.1))), (0, .ref v0), (1, .int v1), (2, .int v2), (3, .int v3), (4, .int v4), (5, .int v5), (6, .int v6)]) hx hb dX8_line_215 hl (by decide) rfl (fun ls hl => ?_)
    refine lv_aload_n hx hb dX8_line_217 rfl (lv_at hl 1 rfl) ?_
    refine r_gr X I fl_X8_13 h5 dX8_line_218 ?_
    refine lv_iload hx hb dX8_line_221 (lv_at hl 0 rfl) ?_
    refine lv_iload_n hx hb dX8_line_223 rfl (lv_at hl 2 rfl) ?_
    refine r_iast X I h6 dX8_line_224 (fun H locs I => ?_)
    have hn := s_k2 (s_si_2 h6) hn
    refine lv_aload_n hx hb dX8_line_225 rfl (lv_at hl 1 rfl) ?_
    refine r_gr X I fl_X8_13 h7 dX8_line_226 ?_
    refine lv_iload hx hb dX8_line_229 (lv_at hl 0 rfl) ?_
    refine lv_iconst (v := 1) hx hb dX8_line_231 (by decide) ?_
    refine lv_iadd hx hb dX8_line_232 ?_
    refine lv_iload_n hx hb dX8_line_233 rfl (lv_at hl 3 rfl) ?_
    refine r_iast X I h8 dX8_line_234 (fun H locs I => ?_)
    have hn := s_k2 (s_si_2 h8) hn
    refine lv_aload_n hx hb dX8_line_235 rfl (lv_at hl 1 rfl) ?_
    refine r_gr X I fl_X8_13 h9 dX8_line_236 ?_
    refine lv_iload hx hb dX8_line_239 (lv_at hl 0 rfl) ?_
    refine lv_iconst (v := 2) hx hb dX8_line_241 (by decide) ?_
    refine lv_iadd hx hb dX8_line_242 ?_
    refine lv_iload_n hx hb dX8_line_243 rfl (lv_at hl 4 rfl) ?_
    refine r_iast X I h10 dX8_line_244 (fun H locs I => ?_)
    have hn := s_k2 (s_si_2 h10) hn
    refine lv_aload_n hx hb dX8_line_245 rfl (lv_at hl 1 rfl) ?_
    refine r_gr X I fl_X8_13 h11 dX8_line_246 ?_
    refine lv_iload hx hb dX8_line_249 (lv_at hl 0 rfl) ?_
    refine lv_iconst (v := 3) hx hb dX8_line_251 (by decide) ?_
    refine lv_iadd hx hb dX8_line_252 ?_
    refine lv_iload hx hb dX8_line_253 (lv_at hl 5 rfl) ?_
    refine r_iast X I h12 dX8_line_255 (fun H locs I => ?_)
    have hn := s_k2 (s_si_2 h12) hn
    refine lv_aload_n hx hb dX8_line_256 rfl (lv_at hl 1 rfl) ?_
    refine r_gr X I fl_X8_13 h13 dX8_line_257 ?_
    refine lv_iload hx hb dX8_line_260 (lv_at hl 0 rfl) ?_
    refine lv_iconst (v := 4) hx hb dX8_line_262 (by decide) ?_
    refine lv_iadd hx hb dX8_line_263 ?_
    refine lv_iload hx hb dX8_line_264 (lv_at hl 6 rfl) ?_
    refine r_iast X I h14 dX8_line_266 (fun H locs I => ?_)
    have hn := s_k2 (s_si_2 h14) hn
    refine lv_aload_n hx hb dX8_line_267 rfl (lv_at hl 1 rfl) ?_
    refine r_gr X I fl_X8_13 h15 dX8_line_268 ?_
    refine lv_iload hx hb dX8_line_271 (lv_at hl 0 rfl) ?_
    refine lv_iconst (v := 5) hx hb dX8_line_273 (by decide) ?_
    refine lv_iadd hx hb dX8_line_274 ?_
    refine lv_iload hx hb dX8_line_275 (lv_at hl 7 rfl) ?_
    refine r_iast X I h16 dX8_line_277 (fun H locs I => ?_)
    have hn := s_k2 (s_si_2 h16) hn
    refine lv_aload_n hx hb dX8_line_278 rfl (lv_at hl 1 rfl) ?_
    refine r_gr X I fl_X8_13 h17 dX8_line_279 ?_
    refine lv_iconst (v := 2) hx hb dX8_line_282 (by decide) ?_
    refine lv_dup2_11 hx hb dX8_line_283 rfl rfl ?_
    refine r_iald X I h18 dX8_line_284 ?_
    refine lv_iconst (v := 1) hx hb dX8_line_285 (by decide) ?_
    refine lv_iadd hx hb dX8_line_286 ?_
    refine r_iast X I h19 dX8_line_287 (fun H locs I => ?_)
    have hn := s_k2 (s_si_2 h19) hn
    refine lv_aload_n hx hb dX8_line_288 rfl (lv_at hl 1 rfl) ?_
    refine r_callV (Y := M_X8_lines) (v := some (.int q18.1)) X I w_2003 my_X8_lines (by omega) (t_X8_lines (G := G) (d := d + 1) h20) (b_X8_lines h20) rfl rfl hl.1 rfl (Nat.le_of_ble_eq_true rfl) hn le21 dX8_line_289 (fun H locs cells slots I hn1 hn2 => ?_)
    have I : s_I G q18.2 s H locs := I
    have hn : cells + σ0.2.1 ≤ q18.2.2.1 ∧ slots + σ0.2.2.1 ≤ q18.2.2.2.1 := ⟨hn1, hn2⟩
    refine lv_iconst (v := 1) hx hb dX8_line_292 (by decide) ?_
    refine lv_isub hx hb dX8_line_293 ?_
    exact r_iret X I rfl rfl rfl hn dX8_line_294
  · refine lv_if_eq (tgt := 204) hx hb dX8_line_199 (by decide) (fun n => absurd n c3) (fun _ => ?_)
    cases hf
    have k : _ = r := k
    subst k
    refine lv_iconst (v := 0) hx hb dX8_line_202 (by decide) ?_
    exact r_iret X I rfl rfl rfl hn dX8_line_203
theorem v_X8_line {G : sG} {d : Nat} {vs0 : List Value} {σ0 : sS} {x : sL} {z : sZ Int32} {r : Int32 × sS} (hs : S_X8_line x = some z) (k : s_K G (d + 3) M_X8_line vs0 σ0 Y_X8_line e_I z r) : s_V G (d + 3) M_X8_line vs0 σ0 Y_X8_line x (e_I r) := by
  obtain ⟨pc, vs, σ⟩ := x
  unfold S_X8_line at hs
  dsimp only at hs
  rcases s_ite hs with ⟨c, hs⟩ | ⟨-, hs⟩
  · subst c
    unfold U_X8_line_0 at hs
    obtain ⟨a0, g0, hs⟩ := s_bind hs
    obtain ⟨a1, g1, hs⟩ := s_bind hs
    obtain ⟨a2, g2, hs⟩ := s_bind hs
    obtain ⟨a3, g3, hs⟩ := s_bind hs
    obtain ⟨a4, g4, hs⟩ := s_bind hs
    obtain ⟨a5, g5, hs⟩ := s_bind hs
    obtain ⟨a6, g6, hs⟩ := s_bind hs
    obtain ⟨u9, ge, hs⟩ := s_bind hs
    rw [g_r_to g0, g_i_to g1, g_i_to g2, g_i_to g3, g_i_to g4, g_i_to g5, g_i_to g6, g_e_to ge]
    exact v_X8_line_0 hs k
  rcases s_ite hs with ⟨c, hs⟩ | ⟨-, hs⟩
  · subst c
    unfold U_X8_line_14 at hs
    obtain ⟨a0, g0, hs⟩ := s_bind hs
    obtain ⟨a1, g1, hs⟩ := s_bind hs
    obtain ⟨a2, g2, hs⟩ := s_bind hs
    obtain ⟨a3, g3, hs⟩ := s_bind hs
    obtain ⟨a4, g4, hs⟩ := s_bind hs
    obtain ⟨a5, g5, hs⟩ := s_bind hs
    obtain ⟨a6, g6, hs⟩ := s_bind hs
    obtain ⟨a7, g7, hs⟩ := s_bind hs
    obtain ⟨u9, ge, hs⟩ := s_bind hs
    rw [g_r_to g0, g_i_to g1, g_i_to g2, g_i_to g3, g_i_to g4, g_i_to g5, g_i_to g6, g_i_to g7, g_e_to ge]
    exact v_X8_line_14 hs k
  rcases s_ite hs with ⟨c, hs⟩ | ⟨-, hs⟩
  · subst c
    unfold U_X8_line_54 at hs
    obtain ⟨a0, g0, hs⟩ := s_bind hs
    obtain ⟨a1, g1, hs⟩ := s_bind hs
    obtain ⟨a2, g2, hs⟩ := s_bind hs
    obtain ⟨a3, g3, hs⟩ := s_bind hs
    obtain ⟨a4, g4, hs⟩ := s_bind hs
    obtain ⟨a5, g5, hs⟩ := s_bind hs
    obtain ⟨a6, g6, hs⟩ := s_bind hs
    obtain ⟨a7, g7, hs⟩ := s_bind hs
    obtain ⟨u9, ge, hs⟩ := s_bind hs
    rw [g_r_to g0, g_i_to g1, g_i_to g2, g_i_to g3, g_i_to g4, g_i_to g5, g_i_to g6, g_i_to g7, g_e_to ge]
    exact v_X8_line_54 hs k
  rcases s_ite hs with ⟨c, hs⟩ | ⟨-, hs⟩
  · subst c
    unfold U_X8_line_74 at hs
    obtain ⟨a0, g0, hs⟩ := s_bind hs
    obtain ⟨a1, g1, hs⟩ := s_bind hs
    obtain ⟨a2, g2, hs⟩ := s_bind hs
    obtain ⟨a3, g3, hs⟩ := s_bind hs
    obtain ⟨a4, g4, hs⟩ := s_bind hs
    obtain ⟨a5, g5, hs⟩ := s_bind hs
    obtain ⟨a6, g6, hs⟩ := s_bind hs
    obtain ⟨a7, g7, hs⟩ := s_bind hs
    obtain ⟨u9, ge, hs⟩ := s_bind hs
    rw [g_r_to g0, g_i_to g1, g_i_to g2, g_i_to g3, g_i_to g4, g_i_to g5, g_i_to g6, g_i_to g7, g_e_to ge]
    exact v_X8_line_74 hs k
  rcases s_ite hs with ⟨c, hs⟩ | ⟨-, hs⟩
  · subst c
    unfold U_X8_line_89 at hs
    obtain ⟨a0, g0, hs⟩ := s_bind hs
    obtain ⟨a1, g1, hs⟩ := s_bind hs
    obtain ⟨a2, g2, hs⟩ := s_bind hs
    obtain ⟨a3, g3, hs⟩ := s_bind hs
    obtain ⟨a4, g4, hs⟩ := s_bind hs
    obtain ⟨a5, g5, hs⟩ := s_bind hs
    obtain ⟨a6, g6, hs⟩ := s_bind hs
    obtain ⟨a7, g7, hs⟩ := s_bind hs
    obtain ⟨u9, ge, hs⟩ := s_bind hs
    rw [g_r_to g0, g_i_to g1, g_i_to g2, g_i_to g3, g_i_to g4, g_i_to g5, g_i_to g6, g_i_to g7, g_e_to ge]
    exact v_X8_line_89 hs k
  rcases s_ite hs with ⟨c, hs⟩ | ⟨-, hs⟩
  · subst c
    unfold U_X8_line_104 at hs
    obtain ⟨a0, g0, hs⟩ := s_bind hs
    obtain ⟨a1, g1, hs⟩ := s_bind hs
    obtain ⟨a2, g2, hs⟩ := s_bind hs
    obtain ⟨a3, g3, hs⟩ := s_bind hs
    obtain ⟨a4, g4, hs⟩ := s_bind hs
    obtain ⟨a5, g5, hs⟩ := s_bind hs
    obtain ⟨a6, g6, hs⟩ := s_bind hs
    obtain ⟨a7, g7, hs⟩ := s_bind hs
    obtain ⟨u9, ge, hs⟩ := s_bind hs
    rw [g_r_to g0, g_i_to g1, g_i_to g2, g_i_to g3, g_i_to g4, g_i_to g5, g_i_to g6, g_i_to g7, g_e_to ge]
    exact v_X8_line_104 hs k
  rcases s_ite hs with ⟨c, hs⟩ | ⟨-, hs⟩
  · subst c
    unfold U_X8_line_108 at hs
    obtain ⟨a0, g0, hs⟩ := s_bind hs
    obtain ⟨a1, g1, hs⟩ := s_bind hs
    obtain ⟨a2, g2, hs⟩ := s_bind hs
    obtain ⟨a3, g3, hs⟩ := s_bind hs
    obtain ⟨a4, g4, hs⟩ := s_bind hs
    obtain ⟨a5, g5, hs⟩ := s_bind hs
    obtain ⟨a6, g6, hs⟩ := s_bind hs
    obtain ⟨a7, g7, hs⟩ := s_bind hs
    obtain ⟨u9, ge, hs⟩ := s_bind hs
    rw [g_r_to g0, g_i_to g1, g_i_to g2, g_i_to g3, g_i_to g4, g_i_to g5, g_i_to g6, g_i_to g7, g_e_to ge]
    exact v_X8_line_108 hs k
  rcases s_ite hs with ⟨c, hs⟩ | ⟨-, hs⟩
  · subst c
    unfold U_X8_line_109 at hs
    obtain ⟨a0, g0, hs⟩ := s_bind hs
    obtain ⟨a1, g1, hs⟩ := s_bind hs
    obtain ⟨a2, g2, hs⟩ := s_bind hs
    obtain ⟨a3, g3, hs⟩ := s_bind hs
    obtain ⟨a4, g4, hs⟩ := s_bind hs
    obtain ⟨a5, g5, hs⟩ := s_bind hs
    obtain ⟨a6, g6, hs⟩ := s_bind hs
    obtain ⟨a7, g7, hs⟩ := s_bind hs
    obtain ⟨a8, g8, hs⟩ := s_bind hs
    obtain ⟨u9, ge, hs⟩ := s_bind hs
    rw [g_r_to g0, g_i_to g1, g_i_to g2, g_i_to g3, g_i_to g4, g_i_to g5, g_i_to g6, g_i_to g7, g_i_to g8, g_e_to ge]
    exact v_X8_line_109 hs k
  rcases s_ite hs with ⟨c, hs⟩ | ⟨-, hs⟩
  · subst c
    unfold U_X8_line_139 at hs
    obtain ⟨a0, g0, hs⟩ := s_bind hs
    obtain ⟨a1, g1, hs⟩ := s_bind hs
    obtain ⟨a2, g2, hs⟩ := s_bind hs
    obtain ⟨a3, g3, hs⟩ := s_bind hs
    obtain ⟨a4, g4, hs⟩ := s_bind hs
    obtain ⟨a5, g5, hs⟩ := s_bind hs
    obtain ⟨a6, g6, hs⟩ := s_bind hs
    obtain ⟨a7, g7, hs⟩ := s_bind hs
    obtain ⟨a8, g8, hs⟩ := s_bind hs
    obtain ⟨u9, ge, hs⟩ := s_bind hs
    rw [g_r_to g0, g_i_to g1, g_i_to g2, g_i_to g3, g_i_to g4, g_i_to g5, g_i_to g6, g_i_to g7, g_r_to g8, g_e_to ge]
    exact v_X8_line_139 hs k
  rcases s_ite hs with ⟨c, hs⟩ | ⟨-, hs⟩
  · subst c
    unfold U_X8_line_151 at hs
    obtain ⟨a0, g0, hs⟩ := s_bind hs
    obtain ⟨a1, g1, hs⟩ := s_bind hs
    obtain ⟨a2, g2, hs⟩ := s_bind hs
    obtain ⟨a3, g3, hs⟩ := s_bind hs
    obtain ⟨a4, g4, hs⟩ := s_bind hs
    obtain ⟨a5, g5, hs⟩ := s_bind hs
    obtain ⟨a6, g6, hs⟩ := s_bind hs
    obtain ⟨a7, g7, hs⟩ := s_bind hs
    obtain ⟨a8, g8, hs⟩ := s_bind hs
    obtain ⟨u9, ge, hs⟩ := s_bind hs
    rw [g_r_to g0, g_i_to g1, g_i_to g2, g_i_to g3, g_i_to g4, g_i_to g5, g_i_to g6, g_i_to g7, g_r_to g8, g_e_to ge]
    exact v_X8_line_151 hs k
  rcases s_ite hs with ⟨c, hs⟩ | ⟨-, hs⟩
  · subst c
    unfold U_X8_line_168 at hs
    obtain ⟨a0, g0, hs⟩ := s_bind hs
    obtain ⟨a1, g1, hs⟩ := s_bind hs
    obtain ⟨a2, g2, hs⟩ := s_bind hs
    obtain ⟨a3, g3, hs⟩ := s_bind hs
    obtain ⟨a4, g4, hs⟩ := s_bind hs
    obtain ⟨a5, g5, hs⟩ := s_bind hs
    obtain ⟨a6, g6, hs⟩ := s_bind hs
    obtain ⟨a7, g7, hs⟩ := s_bind hs
    obtain ⟨u9, ge, hs⟩ := s_bind hs
    rw [g_r_to g0, g_i_to g1, g_i_to g2, g_i_to g3, g_i_to g4, g_i_to g5, g_i_to g6, g_r_to g7, g_e_to ge]
    exact v_X8_line_168 hs k
  rcases s_ite hs with ⟨c, hs⟩ | ⟨-, hs⟩
  · subst c
    unfold U_X8_line_172 at hs
    obtain ⟨a0, g0, hs⟩ := s_bind hs
    obtain ⟨a1, g1, hs⟩ := s_bind hs
    obtain ⟨a2, g2, hs⟩ := s_bind hs
    obtain ⟨a3, g3, hs⟩ := s_bind hs
    obtain ⟨a4, g4, hs⟩ := s_bind hs
    obtain ⟨a5, g5, hs⟩ := s_bind hs
    obtain ⟨a6, g6, hs⟩ := s_bind hs
    obtain ⟨a7, g7, hs⟩ := s_bind hs
    obtain ⟨u9, ge, hs⟩ := s_bind hs
    rw [g_r_to g0, g_i_to g1, g_i_to g2, g_i_to g3, g_i_to g4, g_i_to g5, g_i_to g6, g_r_to g7, g_e_to ge]
    exact v_X8_line_172 hs k
  rcases s_ite hs with ⟨c, hs⟩ | ⟨-, hs⟩
  · subst c
    unfold U_X8_line_173 at hs
    obtain ⟨a0, g0, hs⟩ := s_bind hs
    obtain ⟨a1, g1, hs⟩ := s_bind hs
    obtain ⟨a2, g2, hs⟩ := s_bind hs
    obtain ⟨a3, g3, hs⟩ := s_bind hs
    obtain ⟨a4, g4, hs⟩ := s_bind hs
    obtain ⟨a5, g5, hs⟩ := s_bind hs
    obtain ⟨a6, g6, hs⟩ := s_bind hs
    obtain ⟨a7, g7, hs⟩ := s_bind hs
    obtain ⟨a8, g8, hs⟩ := s_bind hs
    obtain ⟨u9, ge, hs⟩ := s_bind hs
    rw [g_r_to g0, g_i_to g1, g_i_to g2, g_i_to g3, g_i_to g4, g_i_to g5, g_i_to g6, g_i_to g7, g_r_to g8, g_e_to ge]
    exact v_X8_line_173 hs k
  rcases s_ite hs with ⟨c, hs⟩ | ⟨-, hs⟩
  · subst c
    unfold U_X8_line_195 at hs
    obtain ⟨a0, g0, hs⟩ := s_bind hs
    obtain ⟨a1, g1, hs⟩ := s_bind hs
    obtain ⟨a2, g2, hs⟩ := s_bind hs
    obtain ⟨a3, g3, hs⟩ := s_bind hs
    obtain ⟨a4, g4, hs⟩ := s_bind hs
    obtain ⟨a5, g5, hs⟩ := s_bind hs
    obtain ⟨a6, g6, hs⟩ := s_bind hs
    obtain ⟨a7, g7, hs⟩ := s_bind hs
    obtain ⟨a8, g8, hs⟩ := s_bind hs
    obtain ⟨u9, ge, hs⟩ := s_bind hs
    rw [g_r_to g0, g_i_to g1, g_i_to g2, g_i_to g3, g_i_to g4, g_i_to g5, g_i_to g6, g_i_to g7, g_r_to g8, g_e_to ge]
    exact v_X8_line_195 hs k
  cases hs
theorem t_X8_line {G : sG} {d : Nat} {v0 : Nat} {v1 : Int32} {v2 : Int32} {v3 : Int32} {v4 : Int32} {v5 : Int32} {v6 : Int32} {σ : sS} {q : Int32 × sS} (h : F_X8_line v0 v1 v2 v3 v4 v5 v6 σ = some q) : s_T G (d + 3) M_X8_line [.ref v0, .int v1, .int v2, .int v3, .int v4, .int v5, .int v6] σ (e_I q) := by
  unfold F_X8_line at h
  obtain ⟨-, -, h⟩ := s_bind h
  exact s_ofV rfl (by decide) (Nat.le_of_ble_eq_true rfl) rfl rfl (s_run_ind (V := fun x r => s_V G (d + 3) M_X8_line [.ref v0, .int v1, .int v2, .int v3, .int v4, .int v5, .int v6] σ Y_X8_line x (e_I r)) (fun x z r hs hk => v_X8_line hs (by cases z <;> exact hk)) h)
