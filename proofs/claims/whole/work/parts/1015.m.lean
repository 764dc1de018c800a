/-! X6_isRefunded -/
noncomputable def T_X6_isRefunded_0 (v0 : Nat) (v1 : Int32) (v2 : Int32) (σ : sS) : Option (sZ Int32) :=
  (s_fr σ v0 6 0).bind fun x1 =>
  (F_X1_ofReceipt x1 v1 0 σ).bind fun q2 =>
  if (v2 &&& 1) = 0 then (some (.inl (28, [.ref v0, .int v1, .int v2, .int q2.1], q2.2)))
  else ((s_fr q2.2 v0 6 1).bind fun x3 =>
  (F_X0_tells x3 q2.1 0 q2.2).bind fun q4 =>
  if q4.1 = 0 then (some (.inr (1, q4.2)))
  else (some (.inl (28, [.ref v0, .int v1, .int v2, .int q2.1], q4.2))))
noncomputable def U_X6_isRefunded_0 (vs : List Value) (σ : sS) : Option (sZ Int32) := (g_r vs).bind fun a0 => (g_i a0.2).bind fun a1 => (g_i a1.2).bind fun a2 => (g_e a2.2).bind fun _ => T_X6_isRefunded_0 a0.1 a1.1 a2.1 σ
noncomputable def T_X6_isRefunded_28 (v0 : Nat) (v1 : Int32) (v2 : Int32) (v3 : Int32) (σ : sS) : Option (sZ Int32) :=
  if (v2 &&& 2) = 0 then (some (.inl (46, [.ref v0, .int v1, .int v2, .int v3], σ)))
  else ((s_fr σ v0 6 1).bind fun x1 =>
  (F_X0_tells x1 v3 1 σ).bind fun q2 =>
  if q2.1 = 0 then (some (.inr (1, q2.2)))
  else (some (.inl (46, [.ref v0, .int v1, .int v2, .int v3], q2.2))))
noncomputable def U_X6_isRefunded_28 (vs : List Value) (σ : sS) : Option (sZ Int32) := (g_r vs).bind fun a0 => (g_i a0.2).bind fun a1 => (g_i a1.2).bind fun a2 => (g_i a2.2).bind fun a3 => (g_e a3.2).bind fun _ => T_X6_isRefunded_28 a0.1 a1.1 a2.1 a3.1 σ
noncomputable def T_X6_isRefunded_46 (v0 : Nat) (v1 : Int32) (v2 : Int32) (v3 : Int32) (σ : sS) : Option (sZ Int32) :=
  if (v2 &&& 4) = 0 then (some (.inl (76, [.ref v0, .int v1, .int v2, .int v3], σ)))
  else ((s_fr σ v0 6 1).bind fun x1 =>
  (F_X0_tells x1 v3 3 σ).bind fun q2 =>
  if q2.1 = 0 then (some (.inl (76, [.ref v0, .int v1, .int v2, .int v3], q2.2)))
  else ((s_fr q2.2 v0 6 1).bind fun x3 =>
  (F_X0_tells x3 v3 4 q2.2).bind fun q4 =>
  if q4.1 = 0 then (some (.inr (1, q4.2)))
  else (some (.inl (76, [.ref v0, .int v1, .int v2, .int v3], q4.2)))))
noncomputable def U_X6_isRefunded_46 (vs : List Value) (σ : sS) : Option (sZ Int32) := (g_r vs).bind fun a0 => (g_i a0.2).bind fun a1 => (g_i a1.2).bind fun a2 => (g_i a2.2).bind fun a3 => (g_e a3.2).bind fun _ => T_X6_isRefunded_46 a0.1 a1.1 a2.1 a3.1 σ
noncomputable def T_X6_isRefunded_76 (v0 : Nat) (v1 : Int32) (v2 : Int32) (v3 : Int32) (σ : sS) : Option (sZ Int32) :=
  if (v2 &&& 8) = 0 then (some (.inl (95, [.ref v0, .int v1, .int v2], σ)))
  else ((s_fr σ v0 6 1).bind fun x1 =>
  (F_X0_tells x1 v3 2 σ).bind fun q2 =>
  if q2.1 = 0 then (some (.inl (95, [.ref v0, .int v1, .int v2], q2.2)))
  else (some (.inr (1, q2.2))))
noncomputable def U_X6_isRefunded_76 (vs : List Value) (σ : sS) : Option (sZ Int32) := (g_r vs).bind fun a0 => (g_i a0.2).bind fun a1 => (g_i a1.2).bind fun a2 => (g_i a2.2).bind fun a3 => (g_e a3.2).bind fun _ => T_X6_isRefunded_76 a0.1 a1.1 a2.1 a3.1 σ
noncomputable def T_X6_isRefunded_95 (v0 : Nat) (v1 : Int32) (v2 : Int32) (σ : sS) : Option (sZ Int32) :=
  if (v2 &&& 16) = 0 then (some (.inr (0, σ)))
  else ((F_X6_wasSoldBefore v0 v1 σ).bind fun q1 =>
  if q1.1 = 0 then (some (.inr (0, q1.2)))
  else (some (.inr (1, q1.2))))
noncomputable def U_X6_isRefunded_95 (vs : List Value) (σ : sS) : Option (sZ Int32) := (g_r vs).bind fun a0 => (g_i a0.2).bind fun a1 => (g_i a1.2).bind fun a2 => (g_e a2.2).bind fun _ => T_X6_isRefunded_95 a0.1 a1.1 a2.1 σ
noncomputable def S_X6_isRefunded (x : sL) : Option (sZ Int32) := if x.1 = 0 then U_X6_isRefunded_0 x.2.1 x.2.2 else if x.1 = 28 then U_X6_isRefunded_28 x.2.1 x.2.2 else if x.1 = 46 then U_X6_isRefunded_46 x.2.1 x.2.2 else if x.1 = 76 then U_X6_isRefunded_76 x.2.1 x.2.2 else if x.1 = 95 then U_X6_isRefunded_95 x.2.1 x.2.2 else none
def Y_X6_isRefunded (pc : Nat) : List Nat := if pc = 0 then [0, 1, 2] else if pc = 28 then [0, 1, 2, 3] else if pc = 46 then [0, 1, 2, 3] else if pc = 76 then [0, 1, 2, 3] else if pc = 95 then [0, 1, 2] else []
noncomputable def F_X6_isRefunded (v0 : Nat) (v1 : Int32) (v2 : Int32) (σ : sS) : Option (Int32 × sS) := (s_is σ v0 6).bind fun _ => s_run S_X6_isRefunded (0, [.ref v0, .int v1, .int v2], σ)
theorem l_X6_isRefunded_0 {v0 : Nat} {v1 : Int32} {v2 : Int32} {σ : sS} {z : sZ Int32} (hf : T_X6_isRefunded_0 v0 v1 v2 σ = some z) : s_lz σ z := by
  unfold T_X6_isRefunded_0 at hf
  obtain ⟨x1, -, hf⟩ := s_bind hf
  obtain ⟨q2, hh, hf⟩ := s_bind hf
  refine s_lz.tr (l_X1_ofReceipt hh) ?_
  rcases s_ite hf with ⟨-, hf⟩ | ⟨-, hf⟩
  · cases hf
    exact s_le.rf
  · obtain ⟨x3, -, hf⟩ := s_bind hf
    obtain ⟨q4, hh, hf⟩ := s_bind hf
    refine s_lz.tr (l_X0_tells hh) ?_
    rcases s_ite hf with ⟨-, hf⟩ | ⟨-, hf⟩
    · cases hf
      exact s_le.rf
    · cases hf
      exact s_le.rf
theorem l_X6_isRefunded_28 {v0 : Nat} {v1 : Int32} {v2 : Int32} {v3 : Int32} {σ : sS} {z : sZ Int32} (hf : T_X6_isRefunded_28 v0 v1 v2 v3 σ = some z) : s_lz σ z := by
  unfold T_X6_isRefunded_28 at hf
  rcases s_ite hf with ⟨-, hf⟩ | ⟨-, hf⟩
  · cases hf
    exact s_le.rf
  · obtain ⟨x1, -, hf⟩ := s_bind hf
    obtain ⟨q2, hh, hf⟩ := s_bind hf
    refine s_lz.tr (l_X0_tells hh) ?_
    rcases s_ite hf with ⟨-, hf⟩ | ⟨-, hf⟩
    · cases hf
      exact s_le.rf
    · cases hf
      exact s_le.rf
theorem l_X6_isRefunded_46 {v0 : Nat} {v1 : Int32} {v2 : Int32} {v3 : Int32} {σ : sS} {z : sZ Int32} (hf : T_X6_isRefunded_46 v0 v1 v2 v3 σ = some z) : s_lz σ z := by
  unfold T_X6_isRefunded_46 at hf
  rcases s_ite hf with ⟨-, hf⟩ | ⟨-, hf⟩
  · cases hf
    exact s_le.rf
  · obtain ⟨x1, -, hf⟩ := s_bind hf
    obtain ⟨q2, hh, hf⟩ := s_bind hf
    refine s_lz.tr (l_X0_tells hh) ?_
    rcases s_ite hf with ⟨-, hf⟩ | ⟨-, hf⟩
    · cases hf
      exact s_le.rf
    · obtain ⟨x3, -, hf⟩ := s_bind hf
      obtain ⟨q4, hh, hf⟩ := s_bind hf
      refine s_lz.tr (l_X0_tells hh) ?_
      rcases s_ite hf with ⟨-, hf⟩ | ⟨-, hf⟩
      · cases hf
        exact s_le.rf
      · cases hf
        exact s_le.rf
theorem l_X6_isRefunded_76 {v0 : Nat} {v1 : Int32} {v2 : Int32} {v3 : Int32} {σ : sS} {z : sZ Int32} (hf : T_X6_isRefunded_76 v0 v1 v2 v3 σ = some z) : s_lz σ z := by
  unfold T_X6_isRefunded_76 at hf
  rcases s_ite hf with ⟨-, hf⟩ | ⟨-, hf⟩
  · cases hf
    exact s_le.rf
  · obtain ⟨x1, -, hf⟩ := s_bind hf
    obtain ⟨q2, hh, hf⟩ := s_bind hf
    refine s_lz.tr (l_X0_tells hh) ?_
    rcases s_ite hf with ⟨-, hf⟩ | ⟨-, hf⟩
    · cases hf
      exact s_le.rf
    · cases hf
      exact s_le.rf
theorem l_X6_isRefunded_95 {v0 : Nat} {v1 : Int32} {v2 : Int32} {σ : sS} {z : sZ Int32} (hf : T_X6_isRefunded_95 v0 v1 v2 σ = some z) : s_lz σ z := by
  unfold T_X6_isRefunded_95 at hf
  rcases s_ite hf with ⟨-, hf⟩ | ⟨-, hf⟩
  · cases hf
    exact s_le.rf
  · obtain ⟨q1, hh, hf⟩ := s_bind hf
    refine s_lz.tr (l_X6_wasSoldBefore hh) ?_
    rcases s_ite hf with ⟨-, hf⟩ | ⟨-, hf⟩
    · cases hf
      exact s_le.rf
    · cases hf
      exact s_le.rf
theorem l_X6_isRefunded_s {x : sL} {z : sZ Int32} (hs : S_X6_isRefunded x = some z) : s_lz x.2.2 z := by
  obtain ⟨pc, vs, σ⟩ := x
  unfold S_X6_isRefunded at hs
  dsimp only at hs ⊢
  rcases s_ite hs with ⟨c, hs⟩ | ⟨-, hs⟩
  · subst c
    unfold U_X6_isRefunded_0 at hs
    obtain ⟨a0, g0, hs⟩ := s_bind hs
    obtain ⟨a1, g1, hs⟩ := s_bind hs
    obtain ⟨a2, g2, hs⟩ := s_bind hs
    obtain ⟨u9, ge, hs⟩ := s_bind hs
    exact l_X6_isRefunded_0 hs
  rcases s_ite hs with ⟨c, hs⟩ | ⟨-, hs⟩
  · subst c
    unfold U_X6_isRefunded_28 at hs
    obtain ⟨a0, g0, hs⟩ := s_bind hs
    obtain ⟨a1, g1, hs⟩ := s_bind hs
    obtain ⟨a2, g2, hs⟩ := s_bind hs
    obtain ⟨a3, g3, hs⟩ := s_bind hs
    obtain ⟨u9, ge, hs⟩ := s_bind hs
    exact l_X6_isRefunded_28 hs
  rcases s_ite hs with ⟨c, hs⟩ | ⟨-, hs⟩
  · subst c
    unfold U_X6_isRefunded_46 at hs
    obtain ⟨a0, g0, hs⟩ := s_bind hs
    obtain ⟨a1, g1, hs⟩ := s_bind hs
    obtain ⟨a2, g2, hs⟩ := s_bind hs
    obtain ⟨a3, g3, hs⟩ := s_bind hs
    obtain ⟨u9, ge, hs⟩ := s_bind hs
    exact l_X6_isRefunded_46 hs
  rcases s_ite hs with ⟨c, hs⟩ | ⟨-, hs⟩
  · subst c
    unfold U_X6_isRefunded_76 at hs
    obtain ⟨a0, g0, hs⟩ := s_bind hs
    obtain ⟨a1, g1, hs⟩ := s_bind hs
    obtain ⟨a2, g2, hs⟩ := s_bind hs
    obtain ⟨a3, g3, hs⟩ := s_bind hs
    obtain ⟨u9, ge, hs⟩ := s_bind hs
    exact l_X6_isRefunded_76 hs
  rcases s_ite hs with ⟨c, hs⟩ | ⟨-, hs⟩
  · subst c
    unfold U_X6_isRefunded_95 at hs
    obtain ⟨a0, g0, hs⟩ := s_bind hs
    obtain ⟨a1, g1, hs⟩ := s_bind hs
    obtain ⟨a2, g2, hs⟩ := s_bind hs
    obtain ⟨u9, ge, hs⟩ := s_bind hs
    exact l_X6_isRefunded_95 hs
  cases hs
theorem l_X6_isRefunded {v0 : Nat} {v1 : Int32} {v2 : Int32} {σ : sS} {q : Int32 × sS} (h : F_X6_isRefunded v0 v1 v2 σ = some q) : s_le σ q.2 := by
  unfold F_X6_isRefunded at h
  obtain ⟨-, -, h⟩ := s_bind h
  exact s_run_ind (V := fun x r => s_le x.2.2 r.2) (fun x z r hs hk => by
    have h9 := l_X6_isRefunded_s hs
    cases z with
    | inl y => exact s_le.tr h9 hk
    | inr q => cases hk; exact h9) h
theorem b_X6_isRefunded {v0 : Nat} {v1 : Int32} {v2 : Int32} {σ : sS} {q : Int32 × sS} (h : F_X6_isRefunded v0 v1 v2 σ = some q) : ∃ fs, σ.1 v0 = some (.inr (6, fs)) := by
  unfold F_X6_isRefunded at h
  obtain ⟨u, hu, -⟩ := s_bind h
  exact s_is_to hu
set_option maxRecDepth 100000 in
set_option maxHeartbeats 4000000 in
theorem v_X6_isRefunded_0 {G : sG} {d : Nat} {vs0 : List Value} {σ0 : sS} {v0 : Nat} {v1 : Int32} {v2 : Int32} {σ : sS} {z : sZ Int32} {r : Int32 × sS} (hf : T_X6_isRefunded_0 v0 v1 v2 σ = some z) (k : s_K G (d + 5) M_X6_isRefunded vs0 σ0 Y_X6_isRefunded e_I z r) : s_V G (d + 5) M_X6_isRefunded vs0 σ0 Y_X6_isRefunded (0, [.ref v0, .int v1, .int v2], σ) (e_I r) := by
  have le0 : s_le σ (e_I r).2 := s_lek hem_I (l_X6_isRefunded_0 hf) k
  refine ⟨le0, ?_⟩
  intro p e s m below meth c H locs cells slots ls X I hn1 hn2 hl
  have hn : cells + σ0.2.1 ≤ σ.2.1 ∧ slots + σ0.2.2.1 ≤ σ.2.2.1 := ⟨hn1, hn2⟩
  have hl : lv_has ls 4 [(0, .ref v0), (1, .int v1), (2, .int v2)] := hl
  have hx := X.1
  have hb : c.code = cX6_isRefunded := X.2.1
  have hown : s.vm.findClass RX6 = some m.cls := X.2.2.2.2.2.1
  have hts := X.2.2.2.2.2.2.1
  refine W.eq (g2 := F0 m 0 ls []) rfl ?_
  unfold T_X6_isRefunded_0 at hf
  obtain ⟨x1, h1, hf⟩ := s_bind hf
  obtain ⟨q2, h2, hf⟩ := s_bind hf
  have le3 : s_le q2.2 (e_I r).2 := by
    refine s_lek hem_I ?_ k
    rcases s_ite hf with ⟨-, hf⟩ | ⟨-, hf⟩
    · cases hf
      exact s_le.rf
    · obtain ⟨x3, -, hf⟩ := s_bind hf
      obtain ⟨q4, hh, hf⟩ := s_bind hf
      refine s_lz.tr (l_X0_tells hh) ?_
      rcases s_ite hf with ⟨-, hf⟩ | ⟨-, hf⟩
      · cases hf
        exact s_le.rf
      · cases hf
        exact s_le.rf
  refine lv_aload_n hx hb dX6_isRefunded_0 rfl (lv_at hl 0 rfl) ?_
  refine r_gr X I fl_X6_9 h1 dX6_isRefunded_1 ?_
  refine lv_iload_n hx hb dX6_isRefunded_4 rfl (lv_at hl 1 rfl) ?_
  refine lv_iconst (v := 0) hx hb dX6_isRefunded_5 (by decide) ?_
  refine r_callV (Y := M_X1_ofReceipt) (v := some (.int q2.1)) X I w_620 my_X1_ofReceipt (by omega) (t_X1_ofReceipt (G := G) (d := d + 3) h2) (b_X1_ofReceipt h2) rfl rfl hl.1 rfl (Nat.le_of_ble_eq_true rfl) hn le3 dX6_isRefunded_6 (fun H locs cells slots I hn1 hn2 => ?_)
  have I : s_I G q2.2 s H locs := I
  have hn : cells + σ0.2.1 ≤ q2.2.2.1 ∧ slots + σ0.2.2.1 ≤ q2.2.2.2.1 := ⟨hn1, hn2⟩
  refine lv_istore_n (lv' := [(3, .int q2.1), (0, .ref v0), (1, .int v1), (2, .int v2)]) hx hb dX6_isRefunded_9 rfl hl (by decide) rfl (fun ls hl => ?_)
  refine lv_iload_n hx hb dX6_isRefunded_10 rfl (lv_at hl 3 rfl) ?_
  refine lv_iconst (v := 1) hx hb dX6_isRefunded_11 (by decide) ?_
  refine lv_iand hx hb dX6_isRefunded_12 ?_
  rcases s_ite hf with ⟨c4, hf⟩ | ⟨c4, hf⟩
  · refine lv_if_eq (tgt := 28) hx hb dX6_isRefunded_13 (by decide) (fun _ => ?_) (fun n => absurd c4 n)
    cases hf
    have k : s_V G (d + 5) M_X6_isRefunded vs0 σ0 Y_X6_isRefunded (28, [.ref v0, .int v1, .int v2, .int q2.1], q2.2) (e_I r) := k
    exact k.2 p e s m below meth c _ _ _ _ _ X I hn.1 hn.2 (lv_sub hl [1, 2, 3, 0] rfl)
  · refine lv_if_eq (tgt := 28) hx hb dX6_isRefunded_13 (by decide) (fun n => absurd n c4) (fun _ => ?_)
    obtain ⟨x3, h5, hf⟩ := s_bind hf
    obtain ⟨q4, h6, hf⟩ := s_bind hf
    have le7 : s_le q4.2 (e_I r).2 := by
      refine s_lek hem_I ?_ k
      rcases s_ite hf with ⟨-, hf⟩ | ⟨-, hf⟩
      · cases hf
        exact s_le.rf
      · cases hf
        exact s_le.rf
    refine lv_aload_n hx hb dX6_isRefunded_16 rfl (lv_at hl 1 rfl) ?_
    refine r_gr X I fl_X6_15 h5 dX6_isRefunded_17 ?_
    refine lv_iload_n hx hb dX6_isRefunded_20 rfl (lv_at hl 0 rfl) ?_
    refine lv_iconst (v := 0) hx hb dX6_isRefunded_21 (by decide) ?_
    refine r_callV (Y := M_X0_tells) (v := some (.int q4.1)) X I w_1604 my_X0_tells (by omega) (t_X0_tells (G := G) (d := d + 0) h6) (b_X0_tells h6) rfl rfl hl.1 rfl (Nat.le_of_ble_eq_true rfl) hn le7 dX6_isRefunded_22 (fun H locs cells slots I hn1 hn2 => ?_)
    have I : s_I G q4.2 s H locs := I
    have hn : cells + σ0.2.1 ≤ q4.2.2.1 ∧ slots + σ0.2.2.1 ≤ q4.2.2.2.1 := ⟨hn1, hn2⟩
    rcases s_ite hf with ⟨c8, hf⟩ | ⟨c8, hf⟩
    · refine lv_if_eq (tgt := 110) hx hb dX6_isRefunded_25 (by decide) (fun _ => ?_) (fun n => absurd c8 n)
      cases hf
      have k : _ = r := k
      subst k
      refine lv_iconst (v := 1) hx hb dX6_isRefunded_110 (by decide) ?_
      refine lv_goto (tgt := 115) hx hb dX6_isRefunded_111 (by decide) ?_
      exact r_iret X I rfl rfl rfl hn dX6_isRefunded_115
    · refine lv_if_eq (tgt := 110) hx hb dX6_isRefunded_25 (by decide) (fun n => absurd n c8) (fun _ => ?_)
      cases hf
      have k : s_V G (d + 5) M_X6_isRefunded vs0 σ0 Y_X6_isRefunded (28, [.ref v0, .int v1, .int v2, .int q2.1], q4.2) (e_I r) := k
      exact k.2 p e s m below meth c _ _ _ _ _ X I hn.1 hn.2 (lv_sub hl [1, 2, 3, 0] rfl)
set_option maxRecDepth 100000 in
set_option maxHeartbeats 4000000 in
theorem v_X6_isRefunded_28 {G : sG} {d : Nat} {vs0 : List Value} {σ0 : sS} {v0 : Nat} {v1 : Int32} {v2 : Int32} {v3 : Int32} {σ : sS} {z : sZ Int32} {r : Int32 × sS} (hf : T_X6_isRefunded_28 v0 v1 v2 v3 σ = some z) (k : s_K G (d + 5) M_X6_isRefunded vs0 σ0 Y_X6_isRefunded e_I z r) : s_V G (d + 5) M_X6_isRefunded vs0 σ0 Y_X6_isRefunded (28, [.ref v0, .int v1, .int v2, .int v3], σ) (e_I r) := by
  have le0 : s_le σ (e_I r).2 := s_lek hem_I (l_X6_isRefunded_28 hf) k
  refine ⟨le0, ?_⟩
  intro p e s m below meth c H locs cells slots ls X I hn1 hn2 hl
  have hn : cells + σ0.2.1 ≤ σ.2.1 ∧ slots + σ0.2.2.1 ≤ σ.2.2.1 := ⟨hn1, hn2⟩
  have hl : lv_has ls 4 [(0, .ref v0), (1, .int v1), (2, .int v2), (3, .int v3)] := hl
  have hx := X.1
  have hb : c.code = cX6_isRefunded := X.2.1
  have hown : s.vm.findClass RX6 = some m.cls := X.2.2.2.2.2.1
  have hts := X.2.2.2.2.2.2.1
  refine W.eq (g2 := F0 m 28 ls []) rfl ?_
  unfold T_X6_isRefunded_28 at hf
  refine lv_iload_n hx hb dX6_isRefunded_28 rfl (lv_at hl 2 rfl) ?_
  refine lv_iconst (v := 2) hx hb dX6_isRefunded_29 (by decide) ?_
  refine lv_iand hx hb dX6_isRefunded_30 ?_
  rcases s_ite hf with ⟨c1, hf⟩ | ⟨c1, hf⟩
  · refine lv_if_eq (tgt := 46) hx hb dX6_isRefunded_31 (by decide) (fun _ => ?_) (fun n => absurd c1 n)
    cases hf
    have k : s_V G (d + 5) M_X6_isRefunded vs0 σ0 Y_X6_isRefunded (46, [.ref v0, .int v1, .int v2, .int v3], σ) (e_I r) := k
    exact k.2 p e s m below meth c _ _ _ _ _ X I hn.1 hn.2 (lv_sub hl [0, 1, 2, 3] rfl)
  · refine lv_if_eq (tgt := 46) hx hb dX6_isRefunded_31 (by decide) (fun n => absurd n c1) (fun _ => ?_)
    obtain ⟨x1, h2, hf⟩ := s_bind hf
    obtain ⟨q2, h3, hf⟩ := s_bind hf
    have le4 : s_le q2.2 (e_I r).2 := by
      refine s_lek hem_I ?_ k
      rcases s_ite hf with ⟨-, hf⟩ | ⟨-, hf⟩
      · cases hf
        exact s_le.rf
      · cases hf
        exact s_le.rf
    refine lv_aload_n hx hb dX6_isRefunded_34 rfl (lv_at hl 0 rfl) ?_
    refine r_gr X I fl_X6_15 h2 dX6_isRefunded_35 ?_
    refine lv_iload_n hx hb dX6_isRefunded_38 rfl (lv_at hl 3 rfl) ?_
    refine lv_iconst (v := 1) hx hb dX6_isRefunded_39 (by decide) ?_
    refine r_callV (Y := M_X0_tells) (v := some (.int q2.1)) X I w_1604 my_X0_tells (by omega) (t_X0_tells (G := G) (d := d + 0) h3) (b_X0_tells h3) rfl rfl hl.1 rfl (Nat.le_of_ble_eq_true rfl) hn le4 dX6_isRefunded_40 (fun H locs cells slots I hn1 hn2 => ?_)
    have I : s_I G q2.2 s H locs := I
    have hn : cells + σ0.2.1 ≤ q2.2.2.1 ∧ slots + σ0.2.2.1 ≤ q2.2.2.2.1 := ⟨hn1, hn2⟩
    rcases s_ite hf with ⟨c5, hf⟩ | ⟨c5, hf⟩
    · refine lv_if_eq (tgt := 110) hx hb dX6_isRefunded_43 (by decide) (fun _ => ?_) (fun n => absurd c5 n)
      cases hf
      have k : _ = r := k
      subst k
      refine lv_iconst (v := 1) hx hb dX6_isRefunded_110 (by decide) ?_
      refine lv_goto (tgt := 115) hx hb dX6_isRefunded_111 (by decide) ?_
      exact r_iret X I rfl rfl rfl hn dX6_isRefunded_115
    · refine lv_if_eq (tgt := 110) hx hb dX6_isRefunded_43 (by decide) (fun n => absurd n c5) (fun _ => ?_)
      cases hf
      have k : s_V G (d + 5) M_X6_isRefunded vs0 σ0 Y_X6_isRefunded (46, [.ref v0, .int v1, .int v2, .int v3], q2.2) (e_I r) := k
      exact k.2 p e s m below meth c _ _ _ _ _ X I hn.1 hn.2 (lv_sub hl [0, 1, 2, 3] rfl)
set_option maxRecDepth 100000 in
set_option maxHeartbeats 4000000 in
theorem v_X6_isRefunded_46 {G : sG} {d : Nat} {vs0 : List Value} {σ0 : sS} {v0 : Nat} {v1 : Int32} {v2 : Int32} {v3 : Int32} {σ : sS} {z : sZ Int32} {r : Int32 × sS} (hf : T_X6_isRefunded_46 v0 v1 v2 v3 σ = some z) (k : s_K G (d + 5) M_X6_isRefunded vs0 σ0 Y_X6_isRefunded e_I z r) : s_V G (d + 5) M_X6_isRefunded vs0 σ0 Y_X6_isRefunded (46, [.ref v0, .int v1, .int v2, .int v3], σ) (e_I r) := by
  have le0 : s_le σ (e_I r).2 := s_lek hem_I (l_X6_isRefunded_46 hf) k
  refine ⟨le0, ?_⟩
  intro p e s m below meth c H locs cells slots ls X I hn1 hn2 hl
  have hn : cells + σ0.2.1 ≤ σ.2.1 ∧ slots + σ0.2.2.1 ≤ σ.2.2.1 := ⟨hn1, hn2⟩
  have hl : lv_has ls 4 [(0, .ref v0), (1, .int v1), (2, .int v2), (3, .int v3)] := hl
  have hx := X.1
  have hb : c.code = cX6_isRefunded := X.2.1
  have hown : s.vm.findClass RX6 = some m.cls := X.2.2.2.2.2.1
  have hts := X.2.2.2.2.2.2.1
  refine W.eq (g2 := F0 m 46 ls []) rfl ?_
  unfold T_X6_isRefunded_46 at hf
  refine lv_iload_n hx hb dX6_isRefunded_46 rfl (lv_at hl 2 rfl) ?_
  refine lv_iconst (v := 4) hx hb dX6_isRefunded_47 (by decide) ?_
  refine lv_iand hx hb dX6_isRefunded_48 ?_
  rcases s_ite hf with ⟨c1, hf⟩ | ⟨c1, hf⟩
  · refine lv_if_eq (tgt := 76) hx hb dX6_isRefunded_49 (by decide) (fun _ => ?_) (fun n => absurd c1 n)
    cases hf
    have k : s_V G (d + 5) M_X6_isRefunded vs0 σ0 Y_X6_isRefunded (76, [.ref v0, .int v1, .int v2, .int v3], σ) (e_I r) := k
    exact k.2 p e s m below meth c _ _ _ _ _ X I hn.1 hn.2 (lv_sub hl [0, 1, 2, 3] rfl)
  · refine lv_if_eq (tgt := 76) hx hb dX6_isRefunded_49 (by decide) (fun n => absurd n c1) (fun _ => ?_)
    obtain ⟨x1, h2, hf⟩ := s_bind hf
    obtain ⟨q2, h3, hf⟩ := s_bind hf
    have le4 : s_le q2.2 (e_I r).2 := by
      refine s_lek hem_I ?_ k
      rcases s_ite hf with ⟨-, hf⟩ | ⟨-, hf⟩
      · cases hf
        exact s_le.rf
      · obtain ⟨x3, -, hf⟩ := s_bind hf
        obtain ⟨q4, hh, hf⟩ := s_bind hf
        refine s_lz.tr (l_X0_tells hh) ?_
        rcases s_ite hf with ⟨-, hf⟩ | ⟨-, hf⟩
        · cases hf
          exact s_le.rf
        · cases hf
          exact s_le.rf
    refine lv_aload_n hx hb dX6_isRefunded_52 rfl (lv_at hl 0 rfl) ?_
    refine r_gr X I fl_X6_15 h2 dX6_isRefunded_53 ?_
    refine lv_iload_n hx hb dX6_isRefunded_56 rfl (lv_at hl 3 rfl) ?_
    refine lv_iconst (v := 3) hx hb dX6_isRefunded_57 (by decide) ?_
    refine r_callV (Y := M_X0_tells) (v := some (.int q2.1)) X I w_1604 my_X0_tells (by omega) (t_X0_tells (G := G) (d := d + 0) h3) (b_X0_tells h3) rfl rfl hl.1 rfl (Nat.le_of_ble_eq_true rfl) hn le4 dX6_isRefunded_58 (fun H locs cells slots I hn1 hn2 => ?_)
    have I : s_I G q2.2 s H locs := I
    have hn : cells + σ0.2.1 ≤ q2.2.2.1 ∧ slots + σ0.2.2.1 ≤ q2.2.2.2.1 := ⟨hn1, hn2⟩
    rcases s_ite hf with ⟨c5, hf⟩ | ⟨c5, hf⟩
    · refine lv_if_eq (tgt := 76) hx hb dX6_isRefunded_61 (by decide) (fun _ => ?_) (fun n => absurd c5 n)
      cases hf
      have k : s_V G (d + 5) M_X6_isRefunded vs0 σ0 Y_X6_isRefunded (76, [.ref v0, .int v1, .int v2, .int v3], q2.2) (e_I r) := k
      exact k.2 p e s m below meth c _ _ _ _ _ X I hn.1 hn.2 (lv_sub hl [0, 1, 2, 3] rfl)
    · refine lv_if_eq (tgt := 76) hx hb dX6_isRefunded_61 (by decide) (fun n => absurd n c5) (fun _ => ?_)
      obtain ⟨x3, h6, hf⟩ := s_bind hf
      obtain ⟨q4, h7, hf⟩ := s_bind hf
      have le8 : s_le q4.2 (e_I r).2 := by
        refine s_lek hem_I ?_ k
        rcases s_ite hf with ⟨-, hf⟩ | ⟨-, hf⟩
        · cases hf
          exact s_le.rf
        · cases hf
          exact s_le.rf
      refine lv_aload_n hx hb dX6_isRefunded_64 rfl (lv_at hl 0 rfl) ?_
      refine r_gr X I fl_X6_15 h6 dX6_isRefunded_65 ?_
      refine lv_iload_n hx hb dX6_isRefunded_68 rfl (lv_at hl 3 rfl) ?_
      refine lv_iconst (v := 4) hx hb dX6_isRefunded_69 (by decide) ?_
      refine r_callV (Y := M_X0_tells) (v := some (.int q4.1)) X I w_1604 my_X0_tells (by omega) (t_X0_tells (G := G) (d := d + 0) h7) (b_X0_tells h7) rfl rfl hl.1 rfl (Nat.le_of_ble_eq_true rfl) hn le8 dX6_isRefunded_70 (fun H locs cells slots I hn1 hn2 => ?_)
      have I : s_I G q4.2 s H locs := I
      have hn : cells + σ0.2.1 ≤ q4.2.2.1 ∧ slots + σ0.2.2.1 ≤ q4.2.2.2.1 := ⟨hn1, hn2⟩
      rcases s_ite hf with ⟨c9, hf⟩ | ⟨c9, hf⟩
      · refine lv_if_eq (tgt := 110) hx hb dX6_isRefunded_73 (by decide) (fun _ => ?_) (fun n => absurd c9 n)
        cases hf
        have k : _ = r := k
        subst k
        refine lv_iconst (v := 1) hx hb dX6_isRefunded_110 (by decide) ?_
        refine lv_goto (tgt := 115) hx hb dX6_isRefunded_111 (by decide) ?_
        exact r_iret X I rfl rfl rfl hn dX6_isRefunded_115
      · refine lv_if_eq (tgt := 110) hx hb dX6_isRefunded_73 (by decide) (fun n => absurd n c9) (fun _ => ?_)
        cases hf
        have k : s_V G (d + 5) M_X6_isRefunded vs0 σ0 Y_X6_isRefunded (76, [.ref v0, .int v1, .int v2, .int v3], q4.2) (e_I r) := k
        exact k.2 p e s m below meth c _ _ _ _ _ X I hn.1 hn.2 (lv_sub hl [0, 1, 2, 3] rfl)
set_option maxRecDepth 100000 in
set_option maxHeartbeats 4000000 in
theorem v_X6_isRefunded_76 {G : sG} {d : Nat} {vs0 : List Value} {σ0 : sS} {v0 : Nat} {v1 : Int32} {v2 : Int32} {v3 : Int32} {σ : sS} {z : sZ Int32} {r : Int32 × sS} (hf : T_X6_isRefunded_76 v0 v1 v2 v3 σ = some z) (k : s_K G (d + 5) M_X6_isRefunded vs0 σ0 Y_X6_isRefunded e_I z r) : s_V G (d + 5) M_X6_isRefunded vs0 σ0 Y_X6_isRefunded (76, [.ref v0, .int v1, .int v2, .int v3], σ) (e_I r) := by
  have le0 : s_le σ (e_I r).2 := s_lek hem_I (l_X6_isRefunded_76 hf) k
  refine ⟨le0, ?_⟩
  intro p e s m below meth c H locs cells slots ls X I hn1 hn2 hl
  have hn : cells + σ0.2.1 ≤ σ.2.1 ∧ slots + σ0.2.2.1 ≤ σ.2.2.1 := ⟨hn1, hn2⟩
  have hl : lv_has ls 4 [(0, .ref v0), (1, .int v1), (2, .int v2), (3, .int v3)] := hl
  have hx := X.1
  have hb : c.code = cX6_isRefunded := X.2.1
  have hown : s.vm.findClass RX6 = some m.cls := X.2.2.2.2.2.1
  have hts := X.2.2.2.2.2.2.1
  refine W.eq (g2 := F0 m 76 ls []) rfl ?_
  unfold T_X6_isRefunded_76 at hf
  refine lv_iload_n hx hb dX6_isRefunded_76 rfl (lv_at hl 2 rfl) ?_
  refine lv_bipush (v := 8) hx hb dX6_isRefunded_77 (by decide) ?_
  refine lv_iand hx hb dX6_isRefunded_79 ?_
  rcases s_ite hf with ⟨c1, hf⟩ | ⟨c1, hf⟩
  · refine lv_if_eq (tgt := 95) hx hb dX6_isRefunded_80 (by decide) (fun _ => ?_) (fun n => absurd c1 n)
    cases hf
    have k : s_V G (d + 5) M_X6_isRefunded vs0 σ0 Y_X6_isRefunded (95, [.ref v0, .int v1, .int v2], σ) (e_I r) := k
    exact k.2 p e s m below meth c _ _ _ _ _ X I hn.1 hn.2 (lv_sub hl [0, 1, 2] rfl)
  · refine lv_if_eq (tgt := 95) hx hb dX6_isRefunded_80 (by decide) (fun n => absurd n c1) (fun _ => ?_)
    obtain ⟨x1, h2, hf⟩ := s_bind hf
    obtain ⟨q2, h3, hf⟩ := s_bind hf
    have le4 : s_le q2.2 (e_I r).2 := by
      refine s_lek hem_I ?_ k
      rcases s_ite hf with ⟨-, hf⟩ | ⟨-, hf⟩
      · cases hf
        exact s_le.rf
      · cases hf
        exact s_le.rf
    refine lv_aload_n hx hb dX6_isRefunded_83 rfl (lv_at hl 0 rfl) ?_
    refine r_gr X I fl_X6_15 h2 dX6_isRefunded_84 ?_
    refine lv_iload_n hx hb dX6_isRefunded_87 rfl (lv_at hl 3 rfl) ?_
    refine lv_iconst (v := 2) hx hb dX6_isRefunded_88 (by decide) ?_
    refine r_callV (Y := M_X0_tells) (v := some (.int q2.1)) X I w_1604 my_X0_tells (by omega) (t_X0_tells (G := G) (d := d + 0) h3) (b_X0_tells h3) rfl rfl hl.1 rfl (Nat.le_of_ble_eq_true rfl) hn le4 dX6_isRefunded_89 (fun H locs cells slots I hn1 hn2 => ?_)
    have I : s_I G q2.2 s H locs := I
    have hn : cells + σ0.2.1 ≤ q2.2.2.1 ∧ slots + σ0.2.2.1 ≤ q2.2.2.2.1 := ⟨hn1, hn2⟩
    rcases s_ite hf with ⟨c5, hf⟩ | ⟨c5, hf⟩
    · refine lv_if_ne (tgt := 110) hx hb dX6_isRefunded_92 (by decide) (fun n => absurd c5 n) (fun _ => ?_)
      cases hf
      have k : s_V G (d + 5) M_X6_isRefunded vs0 σ0 Y_X6_isRefunded (95, [.ref v0, .int v1, .int v2], q2.2) (e_I r) := k
      exact k.2 p e s m below meth c _ _ _ _ _ X I hn.1 hn.2 (lv_sub hl [0, 1, 2] rfl)
    · refine lv_if_ne (tgt := 110) hx hb dX6_isRefunded_92 (by decide) (fun _ => ?_) (fun n => absurd n c5)
      cases hf
      have k : _ = r := k
      subst k
      refine lv_iconst (v := 1) hx hb dX6_isRefunded_110 (by decide) ?_
      refine lv_goto (tgt := 115) hx hb dX6_isRefunded_111 (by decide) ?_
      exact r_iret X I rfl rfl rfl hn dX6_isRefunded_115
set_option maxRecDepth 100000 in
set_option maxHeartbeats 4000000 in
theorem v_X6_isRefunded_95 {G : sG} {d : Nat} {vs0 : List Value} {σ0 : sS} {v0 : Nat} {v1 : Int32} {v2 : Int32} {σ : sS} {z : sZ Int32} {r : Int32 × sS} (hf : T_X6_isRefunded_95 v0 v1 v2 σ = some z) (k : s_K G (d + 5) M_X6_isRefunded vs0 σ0 Y_X6_isRefunded e_I z r) : s_V G (d + 5) M_X6_isRefunded vs0 σ0 Y_X6_isRefunded (95, [.ref v0, .int v1, .int v2], σ) (e_I r) := by
  have le0 : s_le σ (e_I r).2 := s_lek hem_I (l_X6_isRefunded_95 hf) k
  refine ⟨le0, ?_⟩
  intro p e s m below meth c H locs cells slots ls X I hn1 hn2 hl
  have hn : cells + σ0.2.1 ≤ σ.2.1 ∧ slots + σ0.2.2.1 ≤ σ.2.2.1 := ⟨hn1, hn2⟩
  have hl : lv_has ls 4 [(0, .ref v0), (1, .int v1), (2, .int v2)] := hl
  have hx := X.1
  have hb : c.code = cX6_isRefunded := X.2.1
  have hown : s.vm.findClass RX6 = some m.cls := X.2.2.2.2.2.1
  have hts := X.2.2.2.2.2.2.1
  refine W.eq (g2 := F0 m 95 ls []) rfl ?_
  unfold T_X6_isRefunded_95 at hf
  refine lv_iload_n hx hb dX6_isRefunded_95 rfl (lv_at hl 2 rfl) ?_
  refine lv_bipush (v := 16) hx hb dX6_isRefunded_96 (by decide) ?_
  refine lv_iand hx hb dX6_isRefunded_98 ?_
  rcases s_ite hf with ⟨c1, hf⟩ | ⟨c1, hf⟩
  · refine lv_if_eq (tgt := 114) hx hb dX6_isRefunded_99 (by decide) (fun _ => ?_) (fun n => absurd c1 n)
    cases hf
    have k : _ = r := k
    subst k
    refine lv_iconst (v := 0) hx hb dX6_isRefunded_114 (by decide) ?_
    exact r_iret X I rfl rfl rfl hn dX6_isRefunded_115
  · refine lv_if_eq (tgt := 114) hx hb dX6_isRefunded_99 (by decide) (fun n => absurd n c1) (fun _ => ?_)
    obtain ⟨q1, h2, hf⟩ := s_bind hf
    have le3 : s_le q1.2 (e_I r).2 := by
      refine s_lek hem_I ?_ k
      rcases s_ite hf with ⟨-, hf⟩ | ⟨-, hf⟩
      · cases hf
        exact s_le.rf
      · cases hf
        exact s_le.rf
    refine lv_aload_n hx hb dX6_isRefunded_102 rfl (lv_at hl 0 rfl) ?_
    refine lv_iload_n hx hb dX6_isRefunded_103 rfl (lv_at hl 1 rfl) ?_
    refine r_callV (Y := M_X6_wasSoldBefore) (v := some (.int q1.1)) X I w_1605 my_X6_wasSoldBefore (by omega) (t_X6_wasSoldBefore (G := G) (d := d + 1) h2) (b_X6_wasSoldBefore h2) rfl rfl hl.1 rfl (Nat.le_of_ble_eq_true rfl) hn le3 dX6_isRefunded_104 (fun H locs cells slots I hn1 hn2 => ?_)
    have I : s_I G q1.2 s H locs := I
    have hn : cells + σ0.2.1 ≤ q1.2.2.1 ∧ slots + σ0.2.2.1 ≤ q1.2.2.2.1 := ⟨hn1, hn2⟩
    rcases s_ite hf with ⟨c4, hf⟩ | ⟨c4, hf⟩
    · refine lv_if_eq (tgt := 114) hx hb dX6_isRefunded_107 (by decide) (fun _ => ?_) (fun n => absurd c4 n)
      cases hf
      have k : _ = r := k
      subst k
      refine lv_iconst (v := 0) hx hb dX6_isRefunded_114 (by decide) ?_
      exact r_iret X I rfl rfl rfl hn dX6_isRefunded_115
    · refine lv_if_eq (tgt := 114) hx hb dX6_isRefunded_107 (by decide) (fun n => absurd n c4) (fun _ => ?_)
      cases hf
      have k : _ = r := k
      subst k
      refine lv_iconst (v := 1) hx hb dX6_isRefunded_110 (by decide) ?_
      refine lv_goto (tgt := 115) hx hb dX6_isRefunded_111 (by decide) ?_
      exact r_iret X I rfl rfl rfl hn dX6_isRefunded_115
theorem v_X6_isRefunded {G : sG} {d : Nat} {vs0 : List Value} {σ0 : sS} {x : sL} {z : sZ Int32} {r : Int32 × sS} (hs : S_X6_isRefunded x = some z) (k : s_K G (d + 5) M_X6_isRefunded vs0 σ0 Y_X6_isRefunded e_I z r) : s_V G (d + 5) M_X6_isRefunded vs0 σ0 Y_X6_isRefunded x (e_I r) := by
  obtain ⟨pc, vs, σ⟩ := x
  unfold S_X6_isRefunded at hs
  dsimp only at hs
  rcases s_ite hs with ⟨c, hs⟩ | ⟨-, hs⟩
  · subst c
    unfold U_X6_isRefunded_0 at hs
    obtain ⟨a0, g0, hs⟩ := s_bind hs
    obtain ⟨a1, g1, hs⟩ := s_bind hs
    obtain ⟨a2, g2, hs⟩ := s_bind hs
    obtain ⟨u9, ge, hs⟩ := s_bind hs
    rw [g_r_to g0, g_i_to g1, g_i_to g2, g_e_to ge]
    exact v_X6_isRefunded_0 hs k
  rcases s_ite hs with ⟨c, hs⟩ | ⟨-, hs⟩
  · subst c
    unfold U_X6_isRefunded_28 at hs
    obtain ⟨a0, g0, hs⟩ := s_bind hs
    obtain ⟨a1, g1, hs⟩ := s_bind hs
    obtain ⟨a2, g2, hs⟩ := s_bind hs
    obtain ⟨a3, g3, hs⟩ := s_bind hs
    obtain ⟨u9, ge, hs⟩ := s_bind hs
    rw [g_r_to g0, g_i_to g1, g_i_to g2, g_i_to g3, g_e_to ge]
    exact v_X6_isRefunded_28 hs k
  rcases s_ite hs with ⟨c, hs⟩ | ⟨-, hs⟩
  · subst c
    unfold U_X6_isRefunded_46 at hs
    obtain ⟨a0, g0, hs⟩ := s_bind hs
    obtain ⟨a1, g1, hs⟩ := s_bind hs
    obtain ⟨a2, g2, hs⟩ := s_bind hs
    obtain ⟨a3, g3, hs⟩ := s_bind hs
    obtain ⟨u9, ge, hs⟩ := s_bind hs
    rw [g_r_to g0, g_i_to g1, g_i_to g2, g_i_to g3, g_e_to ge]
    exact v_X6_isRefunded_46 hs k
  rcases s_ite hs with ⟨c, hs⟩ | ⟨-, hs⟩
  · subst c
    unfold U_X6_isRefunded_76 at hs
    obtain ⟨a0, g0, hs⟩ := s_bind hs
    obtain ⟨a1, g1, hs⟩ := s_bind hs
    obtain ⟨a2, g2, hs⟩ := s_bind hs
    obtain ⟨a3, g3, hs⟩ := s_bind hs
    obtain ⟨u9, ge, hs⟩ := s_bind hs
    rw [g_r_to g0, g_i_to g1, g_i_to g2, g_i_to g3, g_e_to ge]
    exact v_X6_isRefunded_76 hs k
  rcases s_ite hs with ⟨c, hs⟩ | ⟨-, hs⟩
  · subst c
    unfold U_X6_isRefunded_95 at hs
    obtain ⟨a0, g0, hs⟩ := s_bind hs
    obtain ⟨a1, g1, hs⟩ := s_bind hs
    obtain ⟨a2, g2, hs⟩ := s_bind hs
    obtain ⟨u9, ge, hs⟩ := s_bind hs
    rw [g_r_to g0, g_i_to g1, g_i_to g2, g_e_to ge]
    exact v_X6_isRefunded_95 hs k
  cases hs
theorem t_X6_isRefunded {G : sG} {d : Nat} {v0 : Nat} {v1 : Int32} {v2 : Int32} {σ : sS} {q : Int32 × sS} (h : F_X6_isRefunded v0 v1 v2 σ = some q) : s_T G (d + 5) M_X6_isRefunded [.ref v0, .int v1, .int v2] σ (e_I q) := by
  unfold F_X6_isRefunded at h
  obtain ⟨-, -, h⟩ := s_bind h
  exact s_ofV rfl (by decide) (Nat.le_of_ble_eq_true rfl) rfl rfl (s_run_ind (V := fun x r => s_V G (d + 5) M_X6_isRefunded [.ref v0, .int v1, .int v2] σ Y_X6_isRefunded x (e_I r)) (fun x z r hs hk => v_X6_isRefunded hs (by cases z <;> exact hk)) h)
/-! X6_refunded -/
noncomputable def T_X6_refunded_0 (v0 : Nat) (v1 : Int32) (σ : sS) : Option (sZ Int32) :=
  some (.inl (4, [.ref v0, .int v1, .int 0, .int 0], σ))
noncomputable def U_X6_refunded_0 (vs : List Value) (σ : sS) : Option (sZ Int32) := (g_r vs).bind fun a0 => (g_i a0.2).bind fun a1 => (g_e a1.2).bind fun _ => T_X6_refunded_0 a0.1 a1.1 σ
noncomputable def T_X6_refunded_4 (v0 : Nat) (v1 : Int32) (v2 : Int32) (v3 : Int32) (σ : sS) : Option (sZ Int32) :=
  (s_fr σ v0 6 0).bind fun x1 =>
  (s_fi σ x1 1 9).bind fun x2 =>
  if x2 ≤ v3 then (some (.inr (v2, σ)))
  else ((s_fr σ v0 6 0).bind fun x3 =>
  (F_X1_isVoid x3 v3 σ).bind fun q4 =>
  if q4.1 = 0 then ((F_X6_isRefunded v0 v3 v1 q4.2).bind fun q5 =>
  if q5.1 = 0 then (some (.inl (41, [.ref v0, .int v1, .int v2, .int v3], q5.2)))
  else (some (.inl (41, [.ref v0, .int v1, .int (v2 ||| (1 <<< (v3 &&& 31))), .int v3], q5.2))))
  else (some (.inl (41, [.ref v0, .int v1, .int v2, .int v3], q4.2))))
noncomputable def U_X6_refunded_4 (vs : List Value) (σ : sS) : Option (sZ Int32) := (g_r vs).bind fun a0 => (g_i a0.2).bind fun a1 => (g_i a1.2).bind fun a2 => (g_i a2.2).bind fun a3 => (g_e a3.2).bind fun _ => T_X6_refunded_4 a0.1 a1.1 a2.1 a3.1 σ
noncomputable def T_X6_refunded_41 (v0 : Nat) (v1 : Int32) (v2 : Int32) (v3 : Int32) (σ : sS) : Option (sZ Int32) :=
  some (.inl (4, [.ref v0, .int v1, .int v2, .int (v3 + 1)], σ))
noncomputable def U_X6_refunded_41 (vs : List Value) (σ : sS) : Option (sZ Int32) := (g_r vs).bind fun a0 => (g_i a0.2).bind fun a1 => (g_i a1.2).bind fun a2 => (g_i a2.2).bind fun a3 => (g_e a3.2).bind fun _ => T_X6_refunded_41 a0.1 a1.1 a2.1 a3.1 σ
noncomputable def S_X6_refunded (x : sL) : Option (sZ Int32) := if x.1 = 0 then U_X6_refunded_0 x.2.1 x.2.2 else if x.1 = 4 then U_X6_refunded_4 x.2.1 x.2.2 else if x.1 = 41 then U_X6_refunded_41 x.2.1 x.2.2 else none
def Y_X6_refunded (pc : Nat) : List Nat := if pc = 0 then [0, 1] else if pc = 4 then [0, 1, 2, 3] else if pc = 41 then [0, 1, 2, 3] else []
noncomputable def F_X6_refunded (v0 : Nat) (v1 : Int32) (σ : sS) : Option (Int32 × sS) := (s_is σ v0 6).bind fun _ => s_run S_X6_refunded (0, [.ref v0, .int v1], σ)
theorem l_X6_refunded_0 {v0 : Nat} {v1 : Int32} {σ : sS} {z : sZ Int32} (hf : T_X6_refunded_0 v0 v1 σ = some z) : s_lz σ z := by
  unfold T_X6_refunded_0 at hf
  cases hf
  exact s_le.rf
theorem l_X6_refunded_4 {v0 : Nat} {v1 : Int32} {v2 : Int32} {v3 : Int32} {σ : sS} {z : sZ Int32} (hf : T_X6_refunded_4 v0 v1 v2 v3 σ = some z) : s_lz σ z := by
  unfold T_X6_refunded_4 at hf
  obtain ⟨x1, -, hf⟩ := s_bind hf
  obtain ⟨x2, -, hf⟩ := s_bind hf
  rcases s_ite hf with ⟨-, hf⟩ | ⟨-, hf⟩
  · cases hf
    exact s_le.rf
  · obtain ⟨x3, -, hf⟩ := s_bind hf
    obtain ⟨q4, hh, hf⟩ := s_bind hf
    refine s_lz.tr (l_X1_isVoid hh) ?_
    rcases s_ite hf with ⟨-, hf⟩ | ⟨-, hf⟩
    · obtain ⟨q5, hh, hf⟩ := s_bind hf
      refine s_lz.tr (l_X6_isRefunded hh) ?_
      rcases s_ite hf with ⟨-, hf⟩ | ⟨-, hf⟩
      · cases hf
        exact s_le.rf
      · cases hf
        exact s_le.rf
    · cases hf
      exact s_le.rf
theorem l_X6_refunded_41 {v0 : Nat} {v1 : Int32} {v2 : Int32} {v3 : Int32} {σ : sS} {z : sZ Int32} (hf : T_X6_refunded_41 v0 v1 v2 v3 σ = some z) : s_lz σ z := by
  unfold T_X6_refunded_41 at hf
  cases hf
  exact s_le.rf
theorem l_X6_refunded_s {x : sL} {z : sZ Int32} (hs : S_X6_refunded x = some z) : s_lz x.2.2 z := by
  obtain ⟨pc, vs, σ⟩ := x
  unfold S_X6_refunded at hs
  dsimp only at hs ⊢
  rcases s_ite hs with ⟨c, hs⟩ | ⟨-, hs⟩
  · subst c
    unfold U_X6_refunded_0 at hs
    obtain ⟨a0, g0, hs⟩ := s_bind hs
    obtain ⟨a1, g1, hs⟩ := s_bind hs
    obtain ⟨u9, ge, hs⟩ := s_bind hs
    exact l_X6_refunded_0 hs
  rcases s_ite hs with ⟨c, hs⟩ | ⟨-, hs⟩
  · subst c
    unfold U_X6_refunded_4 at hs
    obtain ⟨a0, g0, hs⟩ := s_bind hs
    obtain ⟨a1, g1, hs⟩ := s_bind hs
    obtain ⟨a2, g2, hs⟩ := s_bind hs
    obtain ⟨a3, g3, hs⟩ := s_bind hs
    obtain ⟨u9, ge, hs⟩ := s_bind hs
    exact l_X6_refunded_4 hs
  rcases s_ite hs with ⟨c, hs⟩ | ⟨-, hs⟩
  · subst c
    unfold U_X6_refunded_41 at hs
    obtain ⟨a0, g0, hs⟩ := s_bind hs
    obtain ⟨a1, g1, hs⟩ := s_bind hs
    obtain ⟨a2, g2, hs⟩ := s_bind hs
    obtain ⟨a3, g3, hs⟩ := s_bind hs
    obtain ⟨u9, ge, hs⟩ := s_bind hs
    exact l_X6_refunded_41 hs
  cases hs
theorem l_X6_refunded {v0 : Nat} {v1 : Int32} {σ : sS} {q : Int32 × sS} (h : F_X6_refunded v0 v1 σ = some q) : s_le σ q.2 := by
  unfold F_X6_refunded at h
  obtain ⟨-, -, h⟩ := s_bind h
  exact s_run_ind (V := fun x r => s_le x.2.2 r.2) (fun x z r hs hk => by
    have h9 := l_X6_refunded_s hs
    cases z with
    | inl y => exact s_le.tr h9 hk
    | inr q => cases hk; exact h9) h
theorem b_X6_refunded {v0 : Nat} {v1 : Int32} {σ : sS} {q : Int32 × sS} (h : F_X6_refunded v0 v1 σ = some q) : ∃ fs, σ.1 v0 = some (.inr (6, fs)) := by
  unfold F_X6_refunded at h
  obtain ⟨u, hu, -⟩ := s_bind h
  exact s_is_to hu
set_option maxRecDepth 100000 in
set_option maxHeartbeats 4000000 in
theorem v_X6_refunded_0 {G : sG} {d : Nat} {vs0 : List Value} {σ0 : sS} {v0 : Nat} {v1 : Int32} {σ : sS} {z : sZ Int32} {r : Int32 × sS} (hf : T_X6_refunded_0 v0 v1 σ = some z) (k : s_K G (d + 6) M_X6_refunded vs0 σ0 Y_X6_refunded e_I z r) : s_V G (d + 6) M_X6_refunded vs0 σ0 Y_X6_refunded (0, [.ref v0, .int v1], σ) (e_I r) := by
  have le0 : s_le σ (e_I r).2 := s_lek hem_I (l_X6_refunded_0 hf) k
  refine ⟨le0, ?_⟩
  intro p e s m below meth c H locs cells slots ls X I hn1 hn2 hl
  have hn : cells + σ0.2.1 ≤ σ.2.1 ∧ slots + σ0.2.2.1 ≤ σ.2.2.1 := ⟨hn1, hn2⟩
  have hl : lv_has ls 4 [(0, .ref v0), (1, .int v1)] := hl
  have hx := X.1
  have hb : c.code = cX6_refunded := X.2.1
  have hown : s.vm.findClass RX6 = some m.cls := X.2.2.2.2.2.1
  have hts := X.2.2.2.2.2.2.1
  refine W.eq (g2 := F0 m 0 ls []) rfl ?_
  unfold T_X6_refunded_0 at hf
  cases hf
  have k : s_V G (d + 6) M_X6_refunded vs0 σ0 Y_X6_refunded (4, [.ref v0, .int v1, .int 0, .int 0], σ) (e_I r) := k
  refine lv_iconst (v := 0) hx hb dX6_refunded_0 (by decide) ?_
  refine lv_istore_n (lv' := [(2, .int 0), (0, .ref v0), (1, .int v1)]) hx hb dX6_refunded_1 rfl hl (by decide) rfl (fun ls hl => ?_)
  refine lv_iconst (v := 0) hx hb dX6_refunded_2 (by decide) ?_
  refine lv_istore_n (lv' := [(3, .int 0), (2, .int 0), (0, .ref v0), (1, .int v1)]) hx hb dX6_refunded_3 rfl hl (by decide) rfl (fun ls hl => ?_)
  exact k.2 p e s m below meth c _ _ _ _ _ X I hn.1 hn.2 (lv_sub hl [2, 3, 1, 0] rfl)
set_option maxRecDepth 100000 in
set_option maxHeartbeats 4000000 in
theorem v_X6_refunded_4 {G : sG} {d : Nat} {vs0 : List Value} {σ0 : sS} {v0 : Nat} {v1 : Int32} {v2 : Int32} {v3 : Int32} {σ : sS} {z : sZ Int32} {r : Int32 × sS} (hf : T_X6_refunded_4 v0 v1 v2 v3 σ = some z) (k : s_K G (d + 6) M_X6_refunded vs0 σ0 Y_X6_refunded e_I z r) : s_V G (d + 6) M_X6_refunded vs0 σ0 Y_X6_refunded (4, [.ref v0, .int v1, .int v2, .int v3], σ) (e_I r) := by
  have le0 : s_le σ (e_I r).2 := s_lek hem_I (l_X6_refunded_4 hf) k
  refine ⟨le0, ?_⟩
  intro p e s m below meth c H locs cells slots ls X I hn1 hn2 hl
  have hn : cells + σ0.2.1 ≤ σ.2.1 ∧ slots + σ0.2.2.1 ≤ σ.2.2.1 := ⟨hn1, hn2⟩
  have hl : lv_has ls 4 [(0, .ref v0), (1, .int v1), (2, .int v2), (3, .int v3)] := hl
  have hx := X.1
  have hb : c.code = cX6_refunded := X.2.1
  have hown : s.vm.findClass RX6 = some m.cls := X.2.2.2.2.2.1
  have hts := X.2.2.2.2.2.2.1
  refine W.eq (g2 := F0 m 4 ls []) rfl ?_
  unfold T_X6_refunded_4 at hf
  obtain ⟨x1, h1, hf⟩ := s_bind hf
  obtain ⟨x2, h2, hf⟩ := s_bind hf
  refine lv_iload_n hx hb dX6_refunded_4 rfl (lv_at hl 3 rfl) ?_
  refine lv_aload_n hx hb dX6_refunded_5 rfl (lv_at hl 0 rfl) ?_
  refine r_gr X I fl_X6_9 h1 dX6_refunded_6 ?_
  refine r_gi X I fl_X6_19 h2 dX6_refunded_9 ?_
  rcases s_ite hf with ⟨c3, hf⟩ | ⟨c3, hf⟩
  · refine lv_icmp_ge (tgt := 47) hx hb dX6_refunded_12 (by decide) (fun _ => ?_) (fun n => absurd c3 n)
    cases hf
    have k : _ = r := k
    subst k
    refine lv_iload_n hx hb dX6_refunded_47 rfl (lv_at hl 2 rfl) ?_
    exact r_iret X I rfl rfl rfl hn dX6_refunded_48
  · refine lv_icmp_ge (tgt := 47) hx hb dX6_refunded_12 (by decide) (fun n => absurd n c3) (fun _ => ?_)
    obtain ⟨x3, h4, hf⟩ := s_bind hf
    obtain ⟨q4, h5, hf⟩ := s_bind hf
    have le6 : s_le q4.2 (e_I r).2 := by
      refine s_lek hem_I ?_ k
      rcases s_ite hf with ⟨-, hf⟩ | ⟨-, hf⟩
      · obtain ⟨q5, hh, hf⟩ := s_bind hf
        refine s_lz.tr (l_X6_isRefunded hh) ?_
        rcases s_ite hf with ⟨-, hf⟩ | ⟨-, hf⟩
        · cases hf
          exact s_le.rf
        · cases hf
          exact s_le.rf
      · cases hf
        exact s_le.rf
    refine lv_aload_n hx hb dX6_refunded_15 rfl (lv_at hl 0 rfl) ?_
    refine r_gr X I fl_X6_9 h4 dX6_refunded_16 ?_
    refine lv_iload_n hx hb dX6_refunded_19 rfl (lv_at hl 3 rfl) ?_
    refine r_callV (Y := M_X1_isVoid) (v := some (.int q4.1)) X I w_684 my_X1_isVoid (by omega) (t_X1_isVoid (G := G) (d := d + 4) h5) (b_X1_isVoid h5) rfl rfl hl.1 rfl (Nat.le_of_ble_eq_true rfl) hn le6 dX6_refunded_20 (fun H locs cells slots I hn1 hn2 => ?_)
    have I : s_I G q4.2 s H locs := I
    have hn : cells + σ0.2.1 ≤ q4.2.2.1 ∧ slots + σ0.2.2.1 ≤ q4.2.2.2.1 := ⟨hn1, hn2⟩
    rcases s_ite hf with ⟨c7, hf⟩ | ⟨c7, hf⟩
    · refine lv_if_ne (tgt := 41) hx hb dX6_refunded_23 (by decide) (fun n => absurd c7 n) (fun _ => ?_)
      obtain ⟨q5, h8, hf⟩ := s_bind hf
      have le9 : s_le q5.2 (e_I r).2 := by
        refine s_lek hem_I ?_ k
        rcases s_ite hf with ⟨-, hf⟩ | ⟨-, hf⟩
        · cases hf
          exact s_le.rf
        · cases hf
          exact s_le.rf
      refine lv_aload_n hx hb dX6_refunded_26 rfl (lv_at hl 0 rfl) ?_
      refine lv_iload_n hx hb dX6_refunded_27 rfl (lv_at hl 3 rfl) ?_
      refine lv_iload_n hx hb dX6_refunded_28 rfl (lv_at hl 1 rfl) ?_
      refine r_callV (Y := M_X6_isRefunded) (v := some (.int q5.1)) X I w_1600 my_X6_isRefunded (by omega) (t_X6_isRefunded (G := G) (d := d + 0) h8) (b_X6_isRefunded h8) rfl rfl hl.1 rfl (Nat.le_of_ble_eq_true rfl) hn le9 dX6_refunded_29 (fun H locs cells slots I hn1 hn2 => ?_)
      have I : s_I G q5.2 s H locs := I
      have hn : cells + σ0.2.1 ≤ q5.2.2.1 ∧ slots + σ0.2.2.1 ≤ q5.2.2.2.1 := ⟨hn1, hn2⟩
      rcases s_ite hf with ⟨c10, hf⟩ | ⟨c10, hf⟩
      · refine lv_if_eq (tgt := 41) hx hb dX6_refunded_32 (by decide) (fun _ => ?_) (fun n => absurd c10 n)
        cases hf
        have k : s_V G (d + 6) M_X6_refunded vs0 σ0 Y_X6_refunded (41, [.ref v0, .int v1, .int v2, .int v3], q5.2) (e_I r) := k
        exact k.2 p e s m below meth c _ _ _ _ _ X I hn.1 hn.2 (lv_sub hl [0, 1, 2, 3] rfl)
      · refine lv_if_eq (tgt := 41) hx hb dX6_refunded_32 (by decide) (fun n => absurd n c10) (fun _ => ?_)
        cases hf
        have k : s_V G (d + 6) M_X6_refunded vs0 σ0 Y_X6_refunded (41, [.ref v0, .int v1, .int (v2 ||| (1 <<< (v3 &&& 31))), .int v3], q5.2) (e_I r) := k
        refine lv_iload_n hx hb dX6_refunded_35 rfl (lv_at hl 2 rfl) ?_
        refine lv_iconst (v := 1) hx hb dX6_refunded_36 (by decide) ?_
        refine lv_iload_n hx hb dX6_refunded_37 rfl (lv_at hl 3 rfl) ?_
        refine lv_ishl hx hb dX6_refunded_38 ?_
        refine lv_ior hx hb dX6_refunded_39 ?_
        refine lv_istore_n (lv' := [(2, .int (v2 ||| (1 <<< (v3 &&& 31)))), (0, .ref v0), (1, .int v1), (3, .int v3)]) hx hb dX6_refunded_40 rfl hl (by decide) rfl (fun ls hl => ?_)
        exact k.2 p e s m below meth c _ _ _ _ _ X I hn.1 hn.2 (lv_sub hl [1, 2, 0, 3] rfl)
    · refine lv_if_ne (tgt := 41) hx hb dX6_refunded_23 (by decide) (fun _ => ?_) (fun n => absurd n c7)
      cases hf
      have k : s_V G (d + 6) M_X6_refunded vs0 σ0 Y_X6_refunded (41, [.ref v0, .int v1, .int v2, .int v3], q4.2) (e_I r) := k
      exact k.2 p e s m below meth c _ _ _ _ _ X I hn.1 hn.2 (lv_sub hl [0, 1, 2, 3] rfl)
set_option maxRecDepth 100000 in
set_option maxHeartbeats 4000000 in
theorem v_X6_refunded_41 {G : sG} {d : Nat} {vs0 : List Value} {σ0 : sS} {v0 : Nat} {v1 : Int32} {v2 : Int32} {v3 : Int32} {σ : sS} {z : sZ Int32} {r : Int32 × sS} (hf : T_X6_refunded_41 v0 v1 v2 v3 σ = some z) (k : s_K G (d + 6) M_X6_refunded vs0 σ0 Y_X6_refunded e_I z r) : s_V G (d + 6) M_X6_refunded vs0 σ0 Y_X6_refunded (41, [.ref v0, .int v1, .int v2, .int v3], σ) (e_I r) := by
  have le0 : s_le σ (e_I r).2 := s_lek hem_I (l_X6_refunded_41 hf) k
  refine ⟨le0, ?_⟩
  intro p e s m below meth c H locs cells slots ls X I hn1 hn2 hl
  have hn : cells + σ0.2.1 ≤ σ.2.1 ∧ slots + σ0.2.2.1 ≤ σ.2.2.1 := ⟨hn1, hn2⟩
  have hl : lv_has ls 4 [(0, .ref v0), (1, .int v1), (2, .int v2), (3, .int v3)] := hl
  have hx := X.1
  have hb : c.code = cX6_refunded := X.2.1
  have hown : s.vm.findClass RX6 = some m.cls := X.2.2.2.2.2.1
  have hts := X.2.2.2.2.2.2.1
  refine W.eq (g2 := F0 m 41 ls []) rfl ?_
  unfold T_X6_refunded_41 at hf
  cases hf
  have k : s_V G (d + 6) M_X6_refunded vs0 σ0 Y_X6_refunded (4, [.ref v0, .int v1, .int v2, .int (v3 + 1)], σ) (e_I r) := k
  refine lv_iinc (v := (v3 + 1)) (lv' := [(3, .int (v3 + 1)), (0, .ref v0), (1, .int v1), (2, .int v2)]) hx hb dX6_refunded_41 hl (k := 3) rfl rfl (by decide) rfl (fun ls hl => ?_)
  refine lv_goto (tgt := 4) hx hb dX6_refunded_44 (by decide) ?_
  exact k.2 p e s m below meth c _ _ _ _ _ X I hn.1 hn.2 (lv_sub hl [1, 2, 3, 0] rfl)
theorem v_X6_refunded {G : sG} {d : Nat} {vs0 : List Value} {σ0 : sS} {x : sL} {z : sZ Int32} {r : Int32 × sS} (hs : S_X6_refunded x = some z) (k : s_K G (d + 6) M_X6_refunded vs0 σ0 Y_X6_refunded e_I z r) : s_V G (d + 6) M_X6_refunded vs0 σ0 Y_X6_refunded x (e_I r) := by
  obtain ⟨pc, vs, σ⟩ := x
  unfold S_X6_refunded at hs
  dsimp only at hs
  rcases s_ite hs with ⟨c, hs⟩ | ⟨-, hs⟩
  · subst c
    unfold U_X6_refunded_0 at hs
    obtain ⟨a0, g0, hs⟩ := s_bind hs
    obtain ⟨a1, g1, hs⟩ := s_bind hs
    obtain ⟨u9, ge, hs⟩ := s_bind hs
    rw [g_r_to g0, g_i_to g1, g_e_to ge]
    exact v_X6_refunded_0 hs k
  rcases s_ite hs with ⟨c, hs⟩ | ⟨-, hs⟩
  · subst c
    unfold U_X6_refunded_4 at hs
    obtain ⟨a0, g0, hs⟩ := s_bind hs
    obtain ⟨a1, g1, hs⟩ := s_bind hs
    obtain ⟨a2, g2, hs⟩ := s_bind hs
    obtain ⟨a3, g3, hs⟩ := s_bind hs
    obtain ⟨u9, ge, hs⟩ := s_bind hs
    rw [g_r_to g0, g_i_to g1, g_i_to g2, g_i_to g3, g_e_to ge]
    exact v_X6_refunded_4 hs k
  rcases s_ite hs with ⟨c, hs⟩ | ⟨-, hs⟩
  · subst c
    unfold U_X6_refunded_41 at hs
    obtain ⟨a0, g0, hs⟩ := s_bind hs
    obtain ⟨a1, g1, hs⟩ := s_bind hs
    obtain ⟨a2, g2, hs⟩ := s_bind hs
    obtain ⟨a3, g3, hs⟩ := s_bind hs
    obtain ⟨u9, ge, hs⟩ := s_bind hs
    rw [g_r_to g0, g_i_to g1, g_i_to g2, g_i_to g3, g_e_to ge]
    exact v_X6_refunded_41 hs k
  cases hs
theorem t_X6_refunded {G : sG} {d : Nat} {v0 : Nat} {v1 : Int32} {σ : sS} {q : Int32 × sS} (h : F_X6_refunded v0 v1 σ = some q) : s_T G (d + 6) M_X6_refunded [.ref v0, .int v1] σ (e_I q) := by
  unfold F_X6_refunded at h
  obtain ⟨-, -, h⟩ := s_bind h
  exact s_ofV rfl (by decide) (Nat.le_of_ble_eq_true rfl) rfl rfl (s_run_ind (V := fun x r => s_V G (d + 6) M_X6_refunded [.ref v0, .int v1] σ Y_X6_refunded x (e_I r)) (fun x z r hs hk => v_X6_refunded hs (by cases z <;> exact hk)) h)
/-! X6_sellerOf -/
noncomputable def T_X6_sellerOf_0 (v0 : Nat) (v1 : Int32) (σ : sS) : Option (sZ Int32) :=
  (s_fr σ v0 6 0).bind fun x1 =>
  (s_fr σ v0 6 0).bind fun x2 =>
  (F_X1_ofReceipt x2 v1 0 σ).bind fun q3 =>
  (F_X1_ofLine x1 q3.1 0 q3.2).bind fun q4 =>
  some (.inr (q4.1, q4.2))
noncomputable def U_X6_sellerOf_0 (vs : List Value) (σ : sS) : Option (sZ Int32) := (g_r vs).bind fun a0 => (g_i a0.2).bind fun a1 => (g_e a1.2).bind fun _ => T_X6_sellerOf_0 a0.1 a1.1 σ
noncomputable def S_X6_sellerOf (x : sL) : Option (sZ Int32) := if x.1 = 0 then U_X6_sellerOf_0 x.2.1 x.2.2 else none
def Y_X6_sellerOf (pc : Nat) : List Nat := if pc = 0 then [0, 1] else []
noncomputable def F_X6_sellerOf (v0 : Nat) (v1 : Int32) (σ : sS) : Option (Int32 × sS) := (s_is σ v0 6).bind fun _ => s_run S_X6_sellerOf (0, [.ref v0, .int v1], σ)
theorem l_X6_sellerOf_0 {v0 : Nat} {v1 : Int32} {σ : sS} {z : sZ Int32} (hf : T_X6_sellerOf_0 v0 v1 σ = some z) : s_lz σ z := by
  unfold T_X6_sellerOf_0 at hf
  obtain ⟨x1, -, hf⟩ := s_bind hf
  obtain ⟨x2, -, hf⟩ := s_bind hf
  obtain ⟨q3, hh, hf⟩ := s_bind hf
  refine s_lz.tr (l_X1_ofReceipt hh) ?_
  obtain ⟨q4, hh, hf⟩ := s_bind hf
  refine s_lz.tr (l_X1_ofLine hh) ?_
  cases hf
  exact s_le.rf
theorem l_X6_sellerOf_s {x : sL} {z : sZ Int32} (hs : S_X6_sellerOf x = some z) : s_lz x.2.2 z := by
  obtain ⟨pc, vs, σ⟩ := x
  unfold S_X6_sellerOf at hs
  dsimp only at hs ⊢
  rcases s_ite hs with ⟨c, hs⟩ | ⟨-, hs⟩
  · subst c
    unfold U_X6_sellerOf_0 at hs
    obtain ⟨a0, g0, hs⟩ := s_bind hs
    obtain ⟨a1, g1, hs⟩ := s_bind hs
    obtain ⟨u9, ge, hs⟩ := s_bind hs
    exact l_X6_sellerOf_0 hs
  cases hs
theorem l_X6_sellerOf {v0 : Nat} {v1 : Int32} {σ : sS} {q : Int32 × sS} (h : F_X6_sellerOf v0 v1 σ = some q) : s_le σ q.2 := by
  unfold F_X6_sellerOf at h
  obtain ⟨-, -, h⟩ := s_bind h
  exact s_run_ind (V := fun x r => s_le x.2.2 r.2) (fun x z r hs hk => by
    have h9 := l_X6_sellerOf_s hs
    cases z with
    | inl y => exact s_le.tr h9 hk
    | inr q => cases hk; exact h9) h
theorem b_X6_sellerOf {v0 : Nat} {v1 : Int32} {σ : sS} {q : Int32 × sS} (h : F_X6_sellerOf v0 v1 σ = some q) : ∃ fs, σ.1 v0 = some (.inr (6, fs)) := by
  unfold F_X6_sellerOf at h
  obtain ⟨u, hu, -⟩ := s_bind h
  exact s_is_to hu
set_option maxRecDepth 100000 in
set_option maxHeartbeats 4000000 in
theorem v_X6_sellerOf_0 {G : sG} {d : Nat} {vs0 : List Value} {σ0 : sS} {v0 : Nat} {v1 : Int32} {σ : sS} {z : sZ Int32} {r : Int32 × sS} (hf : T_X6_sellerOf_0 v0 v1 σ = some z) (k : s_K G (d + 2) M_X6_sellerOf vs0 σ0 Y_X6_sellerOf e_I z r) : s_V G (d + 2) M_X6_sellerOf vs0 σ0 Y_X6_sellerOf (0, [.ref v0, .int v1], σ) (e_I r) := by
  have le0 : s_le σ (e_I r).2 := s_lek hem_I (l_X6_sellerOf_0 hf) k
  refine ⟨le0, ?_⟩
  intro p e s m below meth c H locs cells slots ls X I hn1 hn2 hl
  have hn : cells + σ0.2.1 ≤ σ.2.1 ∧ slots + σ0.2.2.1 ≤ σ.2.2.1 := ⟨hn1, hn2⟩
  have hl : lv_has ls 2 [(0, .ref v0), (1, .int v1)] := hl
  have hx := X.1
  have hb : c.code = cX6_sellerOf := X.2.1
  have hown : s.vm.findClass RX6 = some m.cls := X.2.2.2.2.2.1
  have hts := X.2.2.2.2.2.2.1
  refine W.eq (g2 := F0 m 0 ls []) rfl ?_
  unfold T_X6_sellerOf_0 at hf
  obtain ⟨x1, h1, hf⟩ := s_bind hf
  obtain ⟨x2, h2, hf⟩ := s_bind hf
  obtain ⟨q3, h3, hf⟩ := s_bind hf
  obtain ⟨q4, h4, hf⟩ := s_bind hf
  cases hf
  have k : _ = r := k
  subst k
  have le5 : s_le q4.2 q4.2 := s_le.rf
  have le6 := s_le.tr (l_X1_ofLine h4) le5
  refine lv_aload_n hx hb dX6_sellerOf_0 rfl (lv_at hl 0 rfl) ?_
  refine r_gr X I fl_X6_9 h1 dX6_sellerOf_1 ?_
  refine lv_aload_n hx hb dX6_sellerOf_4 rfl (lv_at hl 0 rfl) ?_
  refine r_gr X I fl_X6_9 h2 dX6_sellerOf_5 ?_
  refine lv_iload_n hx hb dX6_sellerOf_8 rfl (lv_at hl 1 rfl) ?_
  refine lv_iconst (v := 0) hx hb dX6_sellerOf_9 (by decide) ?_
  refine r_callV (Y := M_X1_ofReceipt) (v := some (.int q3.1)) X I w_620 my_X1_ofReceipt (by omega) (t_X1_ofReceipt (G := G) (d := d + 0) h3) (b_X1_ofReceipt h3) rfl rfl hl.1 rfl (Nat.le_of_ble_eq_true rfl) hn le6 dX6_sellerOf_10 (fun H locs cells slots I hn1 hn2 => ?_)
  have I : s_I G q3.2 s H locs := I
  have hn : cells + σ0.2.1 ≤ q3.2.2.1 ∧ slots + σ0.2.2.1 ≤ q3.2.2.2.1 := ⟨hn1, hn2⟩
  refine lv_iconst (v := 0) hx hb dX6_sellerOf_13 (by decide) ?_
  refine r_callV (Y := M_X1_ofLine) (v := some (.int q4.1)) X I w_624 my_X1_ofLine (by omega) (t_X1_ofLine (G := G) (d := d + 0) h4) (b_X1_ofLine h4) rfl rfl hl.1 rfl (Nat.le_of_ble_eq_true rfl) hn le5 dX6_sellerOf_14 (fun H locs cells slots I hn1 hn2 => ?_)
  have I : s_I G q4.2 s H locs := I
  have hn : cells + σ0.2.1 ≤ q4.2.2.1 ∧ slots + σ0.2.2.1 ≤ q4.2.2.2.1 := ⟨hn1, hn2⟩
  exact r_iret X I rfl rfl rfl hn dX6_sellerOf_17
theorem v_X6_sellerOf {G : sG} {d : Nat} {vs0 : List Value} {σ0 : sS} {x : sL} {z : sZ Int32} {r : Int32 × sS} (hs : S_X6_sellerOf x = some z) (k : s_K G (d + 2) M_X6_sellerOf vs0 σ0 Y_X6_sellerOf e_I z r) : s_V G (d + 2) M_X6_sellerOf vs0 σ0 Y_X6_sellerOf x (e_I r) := by
  obtain ⟨pc, vs, σ⟩ := x
  unfold S_X6_sellerOf at hs
  dsimp only at hs
  rcases s_ite hs with ⟨c, hs⟩ | ⟨-, hs⟩
  · subst c
    unfold U_X6_sellerOf_0 at hs
    obtain ⟨a0, g0, hs⟩ := s_bind hs
    obtain ⟨a1, g1, hs⟩ := s_bind hs
    obtain ⟨u9, ge, hs⟩ := s_bind hs
    rw [g_r_to g0, g_i_to g1, g_e_to ge]
    exact v_X6_sellerOf_0 hs k
  cases hs
theorem t_X6_sellerOf {G : sG} {d : Nat} {v0 : Nat} {v1 : Int32} {σ : sS} {q : Int32 × sS} (h : F_X6_sellerOf v0 v1 σ = some q) : s_T G (d + 2) M_X6_sellerOf [.ref v0, .int v1] σ (e_I q) := by
  unfold F_X6_sellerOf at h
  obtain ⟨-, -, h⟩ := s_bind h
  exact s_ofV rfl (by decide) (Nat.le_of_ble_eq_true rfl) rfl rfl (s_run_ind (V := fun x r => s_V G (d + 2) M_X6_sellerOf [.ref v0, .int v1] σ Y_X6_sellerOf x (e_I r)) (fun x z r hs hk => v_X6_sellerOf hs (by cases z <;> exact hk)) h)
/-! X6_gainOf -/
noncomputable def T_X6_gainOf_0 (v0 : Nat) (v1 : Int32) (v2 : Int32) (σ : sS) : Option (sZ Int32) :=
  (F_X6_refunded v0 v2 σ).bind fun q1 =>
  some (.inl (12, [.ref v0, .int v1, .int q1.1, .int 0, .int 0], q1.2))
noncomputable def U_X6_gainOf_0 (vs : List Value) (σ : sS) : Option (sZ Int32) := (g_r vs).bind fun a0 => (g_i a0.2).bind fun a1 => (g_i a1.2).bind fun a2 => (g_e a2.2).bind fun _ => T_X6_gainOf_0 a0.1 a1.1 a2.1 σ
noncomputable def T_X6_gainOf_12 (v0 : Nat) (v1 : Int32) (v3 : Int32) (v4 : Int32) (v5 : Int32) (σ : sS) : Option (sZ Int32) :=
  (s_fr σ v0 6 0).bind fun x1 =>
  (s_fi σ x1 1 9).bind fun x2 =>
  if x2 ≤ v5 then (some (.inr (v4, σ)))
  else ((s_fr σ v0 6 0).bind fun x3 =>
  (F_X1_isVoid x3 v5 σ).bind fun q4 =>
  if q4.1 = 0 then (if ((v3 >>> (v5 &&& 31)) &&& 1) = 0 then ((s_fr q4.2 v0 6 0).bind fun x5 =>
  (F_X1_ofReceipt x5 v5 2 q4.2).bind fun q6 =>
  (F_X6_sellerOf v0 v5 q6.2).bind fun q7 =>
  if q7.1 = v1 then (some (.inl (74, [.ref v0, .int v1, .int v3, .int (v4 + q6.1), .int v5, .int q6.1], q7.2)))
  else (some (.inl (74, [.ref v0, .int v1, .int v3, .int v4, .int v5, .int q6.1], q7.2))))
  else (some (.inl (97, [.ref v0, .int v1, .int v3, .int v4, .int v5], q4.2))))
  else (some (.inl (97, [.ref v0, .int v1, .int v3, .int v4, .int v5], q4.2))))
noncomputable def U_X6_gainOf_12 (vs : List Value) (σ : sS) : Option (sZ Int32) := (g_r vs).bind fun a0 => (g_i a0.2).bind fun a1 => (g_i a1.2).bind fun a2 => (g_i a2.2).bind fun a3 => (g_i a3.2).bind fun a4 => (g_e a4.2).bind fun _ => T_X6_gainOf_12 a0.1 a1.1 a2.1 a3.1 a4.1 σ
noncomputable def T_X6_gainOf_74 (v0 : Nat) (v1 : Int32) (v3 : Int32) (v4 : Int32) (v5 : Int32) (v6 : Int32) (σ : sS) : Option (sZ Int32) :=
  (s_fr σ v0 6 0).bind fun x1 =>
  (F_X1_ofReceipt x1 v5 1 σ).bind fun q2 =>
  if q2.1 = (4 + v1) then (some (.inl (97, [.ref v0, .int v1, .int v3, .int (v4 - v6), .int v5], q2.2)))
  else (some (.inl (97, [.ref v0, .int v1, .int v3, .int v4, .int v5], q2.2)))
noncomputable def U_X6_gainOf_74 (vs : List Value) (σ : sS) : Option (sZ Int32) := (g_r vs).bind fun a0 => (g_i a0.2).bind fun a1 => (g_i a1.2).bind fun a2 => (g_i a2.2).bind fun a3 => (g_i a3.2).bind fun a4 => (g_i a4.2).bind fun a5 => (g_e a5.2).bind fun _ => T_X6_gainOf_74 a0.1 a1.1 a2.1 a3.1 a4.1 a5.1 σ
noncomputable def T_X6_gainOf_97 (v0 : Nat) (v1 : Int32) (v3 : Int32) (v4 : Int32) (v5 : Int32) (σ : sS) : Option (sZ Int32) :=
  some (.inl (12, [.ref v0, .int v1, .int v3, .int v4, .int (v5 + 1)], σ))
noncomputable def U_X6_gainOf_97 (vs : List Value) (σ : sS) : Option (sZ Int32) := (g_r vs).bind fun a0 => (g_i a0.2).bind fun a1 => (g_i a1.2).bind fun a2 => (g_i a2.2).bind fun a3 => (g_i a3.2).bind fun a4 => (g_e a4.2).bind fun _ => T_X6_gainOf_97 a0.1 a1.1 a2.1 a3.1 a4.1 σ
noncomputable def S_X6_gainOf (x : sL) : Option (sZ Int32) := if x.1 = 0 then U_X6_gainOf_0 x.2.1 x.2.2 else if x.1 = 12 then U_X6_gainOf_12 x.2.1 x.2.2 else if x.1 = 74 then U_X6_gainOf_74 x.2.1 x.2.2 else if x.1 = 97 then U_X6_gainOf_97 x.2.1 x.2.2 else none
def Y_X6_gainOf (pc : Nat) : List Nat := if pc = 0 then [0, 1, 2] else if pc = 12 then [0, 1, 3, 4, 5] else if pc = 74 then [0, 1, 3, 4, 5, 6] else if pc = 97 then [0, 1, 3, 4, 5] else []
noncomputable def F_X6_gainOf (v0 : Nat) (v1 : Int32) (v2 : Int32) (σ : sS) : Option (Int32 × sS) := (s_is σ v0 6).bind fun _ => s_run S_X6_gainOf (0, [.ref v0, .int v1, .int v2], σ)
theorem l_X6_gainOf_0 {v0 : Nat} {v1 : Int32} {v2 : Int32} {σ : sS} {z : sZ Int32} (hf : T_X6_gainOf_0 v0 v1 v2 σ = some z) : s_lz σ z := by
  unfold T_X6_gainOf_0 at hf
  obtain ⟨q1, hh, hf⟩ := s_bind hf
  refine s_lz.tr (l_X6_refunded hh) ?_
  cases hf
  exact s_le.rf
theorem l_X6_gainOf_12 {v0 : Nat} {v1 : Int32} {v3 : Int32} {v4 : Int32} {v5 : Int32} {σ : sS} {z : sZ Int32} (hf : T_X6_gainOf_12 v0 v1 v3 v4 v5 σ = some z) : s_lz σ z := by
  unfold T_X6_gainOf_12 at hf
  obtain ⟨x1, -, hf⟩ := s_bind hf
  obtain ⟨x2, -, hf⟩ := s_bind hf
  rcases s_ite hf with ⟨-, hf⟩ | ⟨-, hf⟩
  · cases hf
    exact s_le.rf
  · obtain ⟨x3, -, hf⟩ := s_bind hf
    obtain ⟨q4, hh, hf⟩ := s_bind hf
    refine s_lz.tr (l_X1_isVoid hh) ?_
    rcases s_ite hf with ⟨-, hf⟩ | ⟨-, hf⟩
    · rcases s_ite hf with ⟨-, hf⟩ | ⟨-, hf⟩
      · obtain ⟨x5, -, hf⟩ := s_bind hf
        obtain ⟨q6, hh, hf⟩ := s_bind hf
        refine s_lz.tr (l_X1_ofReceipt hh) ?_
        obtain ⟨q7, hh, hf⟩ := s_bind hf
        refine s_lz.tr (l_X6_sellerOf hh) ?_
        rcases s_ite hf with ⟨-, hf⟩ | ⟨-, hf⟩
        · cases hf
          exact s_le.rf
        · cases hf
          exact s_le.rf
      · cases hf
        exact s_le.rf
    · cases hf
      exact s_le.rf
theorem l_X6_gainOf_74 {v0 : Nat} {v1 : Int32} {v3 : Int32} {v4 : Int32} {v5 : Int32} {v6 : Int32} {σ : sS} {z : sZ Int32} (hf : T_X6_gainOf_74 v0 v1 v3 v4 v5 v6 σ = some z) : s_lz σ z := by
  unfold T_X6_gainOf_74 at hf
  obtain ⟨x1, -, hf⟩ := s_bind hf
  obtain ⟨q2, hh, hf⟩ := s_bind hf
  refine s_lz.tr (l_X1_ofReceipt hh) ?_
  rcases s_ite hf with ⟨-, hf⟩ | ⟨-, hf⟩
  · cases hf
    exact s_le.rf
  · cases hf
    exact s_le.rf
theorem l_X6_gainOf_97 {v0 : Nat} {v1 : Int32} {v3 : Int32} {v4 : Int32} {v5 : Int32} {σ : sS} {z : sZ Int32} (hf : T_X6_gainOf_97 v0 v1 v3 v4 v5 σ = some z) : s_lz σ z := by
  unfold T_X6_gainOf_97 at hf
  cases hf
  exact s_le.rf
theorem l_X6_gainOf_s {x : sL} {z : sZ Int32} (hs : S_X6_gainOf x = some z) : s_lz x.2.2 z := by
  obtain ⟨pc, vs, σ⟩ := x
  unfold S_X6_gainOf at hs
  dsimp only at hs ⊢
  rcases s_ite hs with ⟨c, hs⟩ | ⟨-, hs⟩
  · subst c
    unfold U_X6_gainOf_0 at hs
    obtain ⟨a0, g0, hs⟩ := s_bind hs
    obtain ⟨a1, g1, hs⟩ := s_bind hs
    obtain ⟨a2, g2, hs⟩ := s_bind hs
    obtain ⟨u9, ge, hs⟩ := s_bind hs
    exact l_X6_gainOf_0 hs
  rcases s_ite hs with ⟨c, hs⟩ | ⟨-, hs⟩
  · subst c
    unfold U_X6_gainOf_12 at hs
    obtain ⟨a0, g0, hs⟩ := s_bind hs
    obtain ⟨a1, g1, hs⟩ := s_bind hs
    obtain ⟨a2, g2, hs⟩ := s_bind hs
    obtain ⟨a3, g3, hs⟩ := s_bind hs
    obtain ⟨a4, g4, hs⟩ := s_bind hs
    obtain ⟨u9, ge, hs⟩ := s_bind hs
    exact l_X6_gainOf_12 hs
  rcases s_ite hs with ⟨c, hs⟩ | ⟨-, hs⟩
  · subst c
    unfold U_X6_gainOf_74 at hs
    obtain ⟨a0, g0, hs⟩ := s_bind hs
    obtain ⟨a1, g1, hs⟩ := s_bind hs
    obtain ⟨a2, g2, hs⟩ := s_bind hs
    obtain ⟨a3, g3, hs⟩ := s_bind hs
    obtain ⟨a4, g4, hs⟩ := s_bind hs
    obtain ⟨a5, g5, hs⟩ := s_bind hs
    obtain ⟨u9, ge, hs⟩ := s_bind hs
    exact l_X6_gainOf_74 hs
  rcases s_ite hs with ⟨c, hs⟩ | ⟨-, hs⟩
  · subst c
    unfold U_X6_gainOf_97 at hs
    obtain ⟨a0, g0, hs⟩ := s_bind hs
    obtain ⟨a1, g1, hs⟩ := s_bind hs
    obtain ⟨a2, g2, hs⟩ := s_bind hs
    obtain ⟨a3, g3, hs⟩ := s_bind hs
    obtain ⟨a4, g4, hs⟩ := s_bind hs
    obtain ⟨u9, ge, hs⟩ := s_bind hs
    exact l_X6_gainOf_97 hs
  cases hs
theorem l_X6_gainOf {v0 : Nat} {v1 : Int32} {v2 : Int32} {σ : sS} {q : Int32 × sS} (h : F_X6_gainOf v0 v1 v2 σ = some q) : s_le σ q.2 := by
  unfold F_X6_gainOf at h
  obtain ⟨-, -, h⟩ := s_bind h
  exact s_run_ind (V := fun x r => s_le x.2.2 r.2) (fun x z r hs hk => by
    have h9 := l_X6_gainOf_s hs
    cases z with
    | inl y => exact s_le.tr h9 hk
    | inr q => cases hk; exact h9) h
theorem b_X6_gainOf {v0 : Nat} {v1 : Int32} {v2 : Int32} {σ : sS} {q : Int32 × sS} (h : F_X6_gainOf v0 v1 v2 σ = some q) : ∃ fs, σ.1 v0 = some (.inr (6, fs)) := by
  unfold F_X6_gainOf at h
  obtain ⟨u, hu, -⟩ := s_bind h
  exact s_is_to hu
set_option maxRecDepth 100000 in
set_option maxHeartbeats 4000000 in
theorem v_X6_gainOf_0 {G : sG} {d : Nat} {vs0 : List Value} {σ0 : sS} {v0 : Nat} {v1 : Int32} {v2 : Int32} {σ : sS} {z : sZ Int32} {r : Int32 × sS} (hf : T_X6_gainOf_0 v0 v1 v2 σ = some z) (k : s_K G (d + 7) M_X6_gainOf vs0 σ0 Y_X6_gainOf e_I z r) : s_V G (d + 7) M_X6_gainOf vs0 σ0 Y_X6_gainOf (0, [.ref v0, .int v1, .int v2], σ) (e_I r) := by
  have le0 : s_le σ (e_I r).2 := s_lek hem_I (l_X6_gainOf_0 hf) k
  refine ⟨le0, ?_⟩
  intro p e s m below meth c H locs cells slots ls X I hn1 hn2 hl
  have hn : cells + σ0.2.1 ≤ σ.2.1 ∧ slots + σ0.2.2.1 ≤ σ.2.2.1 := ⟨hn1, hn2⟩
  have hl : lv_has ls 7 [(0, .ref v0), (1, .int v1), (2, .int v2)] := hl
  have hx := X.1
  have hb : c.code = cX6_gainOf := X.2.1
  have hown : s.vm.findClass RX6 = some m.cls := X.2.2.2.2.2.1
  have hts := X.2.2.2.2.2.2.1
  refine W.eq (g2 := F0 m 0 ls []) rfl ?_
  unfold T_X6_gainOf_0 at hf
  obtain ⟨q1, h1, hf⟩ := s_bind hf
  cases hf
  have k : s_V G (d + 7) M_X6_gainOf vs0 σ0 Y_X6_gainOf (12, [.ref v0, .int v1, .int q1.1, .int 0, .int 0], q1.2) (e_I r) := k
  have le2 : s_le q1.2 (e_I r).2 := k.1
  refine lv_aload_n hx hb dX6_gainOf_0 rfl (lv_at hl 0 rfl) ?_
  refine lv_iload_n hx hb dX6_gainOf_1 rfl (lv_at hl 2 rfl) ?_
  refine r_callV (Y := M_X6_refunded) (v := some (.int q1.1)) X I w_1596 my_X6_refunded (by omega) (t_X6_refunded (G := G) (d := d + 0) h1) (b_X6_refunded h1) rfl rfl hl.1 rfl (Nat.le_of_ble_eq_true rfl) hn le2 dX6_gainOf_2 (fun H locs cells slots I hn1 hn2 => ?_)
  have I : s_I G q1.2 s H locs := I
  have hn : cells + σ0.2.1 ≤ q1.2.2.1 ∧ slots + σ0.2.2.1 ≤ q1.2.2.2.1 := ⟨hn1, hn2⟩
  refine lv_istore_n (lv' := [(3, .int q1.1), (0, .ref v0), (1, .int v1), (2, .int v2)]) hx hb dX6_gainOf_5 rfl hl (by decide) rfl (fun ls hl => ?_)
  refine lv_iconst (v := 0) hx hb dX6_gainOf_6 (by decide) ?_
  refine lv_istore (lv' := [(4, .int 0), (3, .int q1.1), (0, .ref v0), (1, .int v1), (2, .int v2)]) hx hb dX6_gainOf_7 hl (by decide) rfl (fun ls hl => ?_)
  refine lv_iconst (v := 0) hx hb dX6_gainOf_9 (by decide) ?_
  refine lv_istore (lv' := [(5, .int 0), (4, .int 0), (3, .int q1.1), (0, .ref v0), (1, .int v1), (2, .int v2)]) hx hb dX6_gainOf_10 hl (by decide) rfl (fun ls hl => ?_)
  exact k.2 p e s m below meth c _ _ _ _ _ X I hn.1 hn.2 (lv_sub hl [3, 4, 2, 1, 0] rfl)
set_option maxRecDepth 100000 in
set_option maxHeartbeats 4000000 in
theorem v_X6_gainOf_12 {G : sG} {d : Nat} {vs0 : List Value} {σ0 : sS} {v0 : Nat} {v1 : Int32} {v3 : Int32} {v4 : Int32} {v5 : Int32} {σ : sS} {z : sZ Int32} {r : Int32 × sS} (hf : T_X6_gainOf_12 v0 v1 v3 v4 v5 σ = some z) (k : s_K G (d + 7) M_X6_gainOf vs0 σ0 Y_X6_gainOf e_I z r) : s_V G (d + 7) M_X6_gainOf vs0 σ0 Y_X6_gainOf (12, [.ref v0, .int v1, .int v3, .int v4, .int v5], σ) (e_I r) := by
  have le0 : s_le σ (e_I r).2 := s_lek hem_I (l_X6_gainOf_12 hf) k
  refine ⟨le0, ?_⟩
  intro p e s m below meth c H locs cells slots ls X I hn1 hn2 hl
  have hn : cells + σ0.2.1 ≤ σ.2.1 ∧ slots + σ0.2.2.1 ≤ σ.2.2.1 := ⟨hn1, hn2⟩
  have hl : lv_has ls 7 [(0, .ref v0), (1, .int v1), (3, .int v3), (4, .int v4), (5, .int v5)] := hl
  have hx := X.1
  have hb : c.code = cX6_gainOf := X.2.1
  have hown : s.vm.findClass RX6 = some m.cls := X.2.2.2.2.2.1
  have hts := X.2.2.2.2.2.2.1
  refine W.eq (g2 := F0 m 12 ls []) rfl ?_
  unfold T_X6_gainOf_12 at hf
  obtain ⟨x1, h1, hf⟩ := s_bind hf
  obtain ⟨x2, h2, hf⟩ := s_bind hf
  refine lv_iload hx hb dX6_gainOf_12 (lv_at hl 4 rfl) ?_
  refine lv_aload_n hx hb dX6_gainOf_14 rfl (lv_at hl 0 rfl) ?_
  refine r_gr X I fl_X6_9 h1 dX6_gainOf_15 ?_
  refine r_gi X I fl_X6_19 h2 dX6_gainOf_18 ?_
  rcases s_ite hf with ⟨c3, hf⟩ | ⟨c3, hf⟩
  · refine lv_icmp_ge (tgt := 103) hx hb dX6_gainOf_21 (by decide) (fun _ => ?_) (fun n => absurd c3 n)
    cases hf
    have k : _ = r := k
    subst k
    refine lv_iload hx hb dX6_gainOf_103 (lv_at hl 3 rfl) ?_
    exact r_iret X I rfl rfl rfl hn dX6_gainOf_105
  · refine lv_icmp_ge (tgt := 103) hx hb dX6_gainOf_21 (by decide) (fun n => absurd n c3) (fun _ => ?_)
    obtain ⟨x3, h4, hf⟩ := s_bind hf
    obtain ⟨q4, h5, hf⟩ := s_bind hf
    have le6 : s_le q4.2 (e_I r).2 := by
      refine s_lek hem_I ?_ k
      rcases s_ite hf with ⟨-, hf⟩ | ⟨-, hf⟩
      · rcases s_ite hf with ⟨-, hf⟩ | ⟨-, hf⟩
        · obtain ⟨x5, -, hf⟩ := s_bind hf
          obtain ⟨q6, hh, hf⟩ := s_bind hf
          refine s_lz.tr (l_X1_ofReceipt hh) ?_
          obtain ⟨q7, hh, hf⟩ := s_bind hf
          refine s_lz.tr (l_X6_sellerOf hh) ?_
          rcases s_ite hf with ⟨-, hf⟩ | ⟨-, hf⟩
          · cases hf
            exact s_le.rf
          · cases hf
            exact s_le.rf
        · cases hf
          exact s_le.rf
      · cases hf
        exact s_le.rf
    refine lv_aload_n hx hb dX6_gainOf_24 rfl (lv_at hl 0 rfl) ?_
    refine r_gr X I fl_X6_9 h4 dX6_gainOf_25 ?_
    refine lv_iload hx hb dX6_gainOf_28 (lv_at hl 4 rfl) ?_
    refine r_callV (Y := M_X1_isVoid) (v := some (.int q4.1)) X I w_684 my_X1_isVoid (by omega) (t_X1_isVoid (G := G) (d := d + 5) h5) (b_X1_isVoid h5) rfl rfl hl.1 rfl (Nat.le_of_ble_eq_true rfl) hn le6 dX6_gainOf_30 (fun H locs cells slots I hn1 hn2 => ?_)
    have I : s_I G q4.2 s H locs := I
    have hn : cells + σ0.2.1 ≤ q4.2.2.1 ∧ slots + σ0.2.2.1 ≤ q4.2.2.2.1 := ⟨hn1, hn2⟩
    rcases s_ite hf with ⟨c7, hf⟩ | ⟨c7, hf⟩
    · refine lv_if_ne (tgt := 97) hx hb dX6_gainOf_33 (by decide) (fun n => absurd c7 n) (fun _ => ?_)
      refine lv_iload_n hx hb dX6_gainOf_36 rfl (lv_at hl 2 rfl) ?_
      refine lv_iload hx hb dX6_gainOf_37 (lv_at hl 4 rfl) ?_
      refine lv_ishr hx hb dX6_gainOf_39 ?_
      refine lv_iconst (v := 1) hx hb dX6_gainOf_40 (by decide) ?_
      refine lv_iand hx hb dX6_gainOf_41 ?_
      rcases s_ite hf with ⟨c8, hf⟩ | ⟨c8, hf⟩
      · refine lv_if_ne (tgt := 97) hx hb dX6_gainOf_42 (by decide) (fun n => absurd c8 n) (fun _ => ?_)
        obtain ⟨x5, h9, hf⟩ := s_bind hf
        obtain ⟨q6, h10, hf⟩ := s_bind hf
        obtain ⟨q7, h11, hf⟩ := s_bind hf
        have le12 : s_le q7.2 (e_I r).2 := by
          refine s_lek hem_I ?_ k
          rcases s_ite hf with ⟨-, hf⟩ | ⟨-, hf⟩
          · cases hf
            exact s_le.rf
          · cases hf
            exact s_le.rf
        have le13 := s_le.tr (l_X6_sellerOf h11) le12
        refine lv_aload_n hx hb dX6_gainOf_45 rfl (lv_at hl 0 rfl) ?_
        refine r_gr X I fl_X6_9 h9 dX6_gainOf_46 ?_
        refine lv_iload hx hb dX6_gainOf_49 (lv_at hl 4 rfl) ?_
        refine lv_iconst (v := 2) hx hb dX6_gainOf_51 (by decide) ?_
        refine r_callV (Y := M_X1_ofReceipt) (v := some (.int q6.1)) X I w_620 my_X1_ofReceipt (by omega) (t_X1_ofReceipt (G := G) (d := d + 5) h10) (b_X1_ofReceipt h10) rfl rfl hl.1 rfl (Nat.le_of_ble_eq_true rfl) hn le13 dX6_gainOf_52 (fun H locs cells slots I hn1 hn2 => ?_)
        have I : s_I G q6.2 s H locs := I
        have hn : cells + σ0.2.1 ≤ q6.2.2.1 ∧ slots + σ0.2.2.1 ≤ q6.2.2.2.1 := ⟨hn1, hn2⟩
        refine lv_istore (lv' := [(6, .int q6.1), (0, .ref v0), (1, .int v1), (3, .int v3), (4, .int v4), (5, .int v5)]) hx hb dX6_gainOf_55 hl (by decide) rfl (fun ls hl => ?_)
        refine lv_aload_n hx hb dX6_gainOf_57 rfl (lv_at hl 1 rfl) ?_
        refine lv_iload hx hb dX6_gainOf_58 (lv_at hl 5 rfl) ?_
        refine r_callV (Y := M_X6_sellerOf) (v := some (.int q7.1)) X I w_1614 my_X6_sellerOf (by omega) (t_X6_sellerOf (G := G) (d := d + 4) h11) (b_X6_sellerOf h11) rfl rfl hl.1 rfl (Nat.le_of_ble_eq_true rfl) hn le12 dX6_gainOf_60 (fun H locs cells slots I hn1 hn2 => ?_)
        have I : s_I G q7.2 s H locs := I
        have hn : cells + σ0.2.1 ≤ q7.2.2.1 ∧ slots + σ0.2.2.1 ≤ q7.2.2.2.1 := ⟨hn1, hn2⟩
        refine lv_iload_n hx hb dX6_gainOf_63 rfl (lv_at hl 2 rfl) ?_
        rcases s_ite hf with ⟨c14, hf⟩ | ⟨c14, hf⟩
        · refine lv_icmp_ne (tgt := 74) hx hb dX6_gainOf_64 (by decide) (fun n => absurd c14 n) (fun _ => ?_)
          cases hf
          have k : s_V G (d + 7) M_X6_gainOf vs0 σ0 Y_X6_gainOf (74, [.ref v0, .int v1, .int v3, .int (v4 + q6.1), .int v5, .int q6.1], q7.2) (e_I r) := k
          refine lv_iload hx hb dX6_gainOf_67 (lv_at hl 4 rfl) ?_
          refine lv_iload hx hb dX6_gainOf_69 (lv_at hl 0 rfl) ?_
          refine lv_iadd hx hb dX6_gainOf_71 ?_
          refine lv_istore (lv' := [(4, .int (v4 + q6.1)), (6, .int q6.1), (0, .ref v0), (1, .int v1), (3, .int v3), (5, .int v5)]) hx hb dX6_gainOf_72 hl (by decide) rfl (fun ls hl => ?_)
          exact k.2 p e s m below meth c _ _ _ _ _ X I hn.1 hn.2 (lv_sub hl [2, 3, 4, 0, 5, 1] rfl)
        · refine lv_icmp_ne (tgt := 74) hx hb dX6_gainOf_64 (by decide) (fun _ => ?_) (fun n => absurd n c14)
          cases hf
          have k : s_V G (d + 7) M_X6_gainOf vs0 σ0 Y_X6_gainOf (74, [.ref v0, .int v1, .int v3, .int v4, .int v5, .int q6.1], q7.2) (e_I r) := k
          exact k.2 p e s m below meth c _ _ _ _ _ X I hn.1 hn.2 (lv_sub hl [1, 2, 3, 4, 5, 0] rfl)
      · refine lv_if_ne (tgt := 97) hx hb dX6_gainOf_42 (by decide) (fun _ => ?_) (fun n => absurd n c8)
        cases hf
        have k : s_V G (d + 7) M_X6_gainOf vs0 σ0 Y_X6_gainOf (97, [.ref v0, .int v1, .int v3, .int v4, .int v5], q4.2) (e_I r) := k
        exact k.2 p e s m below meth c _ _ _ _ _ X I hn.1 hn.2 (lv_sub hl [0, 1, 2, 3, 4] rfl)
    · refine lv_if_ne (tgt := 97) hx hb dX6_gainOf_33 (by decide) (fun _ => ?_) (fun n => absurd n c7)
      cases hf
      have k : s_V G (d + 7) M_X6_gainOf vs0 σ0 Y_X6_gainOf (97, [.ref v0, .int v1, .int v3, .int v4, .int v5], q4.2) (e_I r) := k
      exact k.2 p e s m below meth c _ _ _ _ _ X I hn.1 hn.2 (lv_sub hl [0, 1, 2, 3, 4] rfl)
set_option maxRecDepth 100000 in
set_option maxHeartbeats 4000000 in
theorem v_X6_gainOf_74 {G : sG} {d : Nat} {vs0 : List Value} {σ0 : sS} {v0 : Nat} {v1 : Int32} {v3 : Int32} {v4 : Int32} {v5 : Int32} {v6 : Int32} {σ : sS} {z : sZ Int32} {r : Int32 × sS} (hf : T_X6_gainOf_74 v0 v1 v3 v4 v5 v6 σ = some z) (k : s_K G (d + 7) M_X6_gainOf vs0 σ0 Y_X6_gainOf e_I z r) : s_V G (d + 7) M_X6_gainOf vs0 σ0 Y_X6_gainOf (74, [.ref v0, .int v1, .int v3, .int v4, .int v5, .int v6], σ) (e_I r) := by
  have le0 : s_le σ (e_I r).2 := s_lek hem_I (l_X6_gainOf_74 hf) k
  refine ⟨le0, ?_⟩
  intro p e s m below meth c H locs cells slots ls X I hn1 hn2 hl
  have hn : cells + σ0.2.1 ≤ σ.2.1 ∧ slots + σ0.2.2.1 ≤ σ.2.2.1 := ⟨hn1, hn2⟩
  have hl : lv_has ls 7 [(0, .ref v0), (1, .int v1), (3, .int v3), (4, .int v4), (5, .int v5), (6, .int v6)] := hl
  have hx := X.1
  have hb : c.code = cX6_gainOf := X.2.1
  have hown : s.vm.findClass RX6 = some m.cls := X.2.2.2.2.2.1
  have hts := X.2.2.2.2.2.2.1
  refine W.eq (g2 := F0 m 74 ls []) rfl ?_
  unfold T_X6_gainOf_74 at hf
  obtain ⟨x1, h1, hf⟩ := s_bind hf
  obtain ⟨q2, h2, hf⟩ := s_bind hf
  have le3 : s_le q2.2 (e_I r).2 := by
    refine s_lek hem_I ?_ k
    rcases s_ite hf with ⟨-, hf⟩ | ⟨-, hf⟩
    · cases hf
      exact s_le.rf
    · cases hf
      exact s_le.rf
  refine lv_aload_n hx hb dX6_gainOf_74 rfl (lv_at hl 0 rfl) ?_
  refine r_gr X I fl_X6_9 h1 dX6_gainOf_75 ?_
  refine lv_iload hx hb dX6_gainOf_78 (lv_at hl 4 rfl) ?_
  refine lv_iconst (v := 1) hx hb dX6_gainOf_80 (by decide) ?_
  refine r_callV (Y := M_X1_ofReceipt) (v := some (.int q2.1)) X I w_620 my_X1_ofReceipt (by omega) (t_X1_ofReceipt (G := G) (d := d + 5) h2) (b_X1_ofReceipt h2) rfl rfl hl.1 rfl (Nat.le_of_ble_eq_true rfl) hn le3 dX6_gainOf_81 (fun H locs cells slots I hn1 hn2 => ?_)
  have I : s_I G q2.2 s H locs := I
  have hn : cells + σ0.2.1 ≤ q2.2.2.1 ∧ slots + σ0.2.2.1 ≤ q2.2.2.2.1 := ⟨hn1, hn2⟩
  refine lv_iconst (v := 4) hx hb dX6_gainOf_84 (by decide) ?_
  refine lv_iload_n hx hb dX6_gainOf_85 rfl (lv_at hl 1 rfl) ?_
  refine lv_iadd hx hb dX6_gainOf_86 ?_
  rcases s_ite hf with ⟨c4, hf⟩ | ⟨c4, hf⟩
  · refine lv_icmp_ne (tgt := 97) hx hb dX6_gainOf_87 (by decide) (fun n => absurd c4 n) (fun _ => ?_)
    cases hf
    have k : s_V G (d + 7) M_X6_gainOf vs0 σ0 Y_X6_gainOf (97, [.ref v0, .int v1, .int v3, .int (v4 - v6), .int v5], q2.2) (e_I r) := k
    refine lv_iload hx hb dX6_gainOf_90 (lv_at hl 3 rfl) ?_
    refine lv_iload hx hb dX6_gainOf_92 (lv_at hl 5 rfl) ?_
    refine lv_isub hx hb dX6_gainOf_94 ?_
    refine lv_istore (lv' := [(4, .int (v4 - v6)), (0, .ref v0), (1, .int v1), (3, .int v3), (5, .int v5), (6, .int v6)]) hx hb dX6_gainOf_95 hl (by decide) rfl (fun ls hl => ?_)
    exact k.2 p e s m below meth c _ _ _ _ _ X I hn.1 hn.2 (lv_sub hl [1, 2, 3, 0, 4] rfl)
  · refine lv_icmp_ne (tgt := 97) hx hb dX6_gainOf_87 (by decide) (fun _ => ?_) (fun n => absurd n c4)
    cases hf
    have k : s_V G (d + 7) M_X6_gainOf vs0 σ0 Y_X6_gainOf (97, [.ref v0, .int v1, .int v3, .int v4, .int v5], q2.2) (e_I r) := k
    exact k.2 p e s m below meth c _ _ _ _ _ X I hn.1 hn.2 (lv_sub hl [0, 1, 2, 3, 4] rfl)
set_option maxRecDepth 100000 in
set_option maxHeartbeats 4000000 in
theorem v_X6_gainOf_97 {G : sG} {d : Nat} {vs0 : List Value} {σ0 : sS} {v0 : Nat} {v1 : Int32} {v3 : Int32} {v4 : Int32} {v5 : Int32} {σ : sS} {z : sZ Int32} {r : Int32 × sS} (hf : T_X6_gainOf_97 v0 v1 v3 v4 v5 σ = some z) (k : s_K G (d + 7) M_X6_gainOf vs0 σ0 Y_X6_gainOf e_I z r) : s_V G (d + 7) M_X6_gainOf vs0 σ0 Y_X6_gainOf (97, [.ref v0, .int v1, .int v3, .int v4, .int v5], σ) (e_I r) := by
  have le0 : s_le σ (e_I r).2 := s_lek hem_I (l_X6_gainOf_97 hf) k
  refine ⟨le0, ?_⟩
  intro p e s m below meth c H locs cells slots ls X I hn1 hn2 hl
  have hn : cells + σ0.2.1 ≤ σ.2.1 ∧ slots + σ0.2.2.1 ≤ σ.2.2.1 := ⟨hn1, hn2⟩
  have hl : lv_has ls 7 [(0, .ref v0), (1, .int v1), (3, .int v3), (4, .int v4), (5, .int v5)] := hl
  have hx := X.1
  have hb : c.code = cX6_gainOf := X.2.1
  have hown : s.vm.findClass RX6 = some m.cls := X.2.2.2.2.2.1
  have hts := X.2.2.2.2.2.2.1
  refine W.eq (g2 := F0 m 97 ls []) rfl ?_
  unfold T_X6_gainOf_97 at hf
  cases hf
  have k : s_V G (d + 7) M_X6_gainOf vs0 σ0 Y_X6_gainOf (12, [.ref v0, .int v1, .int v3, .int v4, .int (v5 + 1)], σ) (e_I r) := k
  refine lv_iinc (v := (v5 + 1)) (lv' := [(5, .int (v5 + 1)), (0, .ref v0), (1, .int v1), (3, .int v3), (4, .int v4)]) hx hb dX6_gainOf_97 hl (k := 4) rfl rfl (by decide) rfl (fun ls hl => ?_)
  refine lv_goto (tgt := 12) hx hb dX6_gainOf_100 (by decide) ?_
  exact k.2 p e s m below meth c _ _ _ _ _ X I hn.1 hn.2 (lv_sub hl [1, 2, 3, 4, 0] rfl)
theorem v_X6_gainOf {G : sG} {d : Nat} {vs0 : List Value} {σ0 : sS} {x : sL} {z : sZ Int32} {r : Int32 × sS} (hs : S_X6_gainOf x = some z) (k : s_K G (d + 7) M_X6_gainOf vs0 σ0 Y_X6_gainOf e_I z r) : s_V G (d + 7) M_X6_gainOf vs0 σ0 Y_X6_gainOf x (e_I r) := by
  obtain ⟨pc, vs, σ⟩ := x
  unfold S_X6_gainOf at hs
  dsimp only at hs
  rcases s_ite hs with ⟨c, hs⟩ | ⟨-, hs⟩
  · subst c
    unfold U_X6_gainOf_0 at hs
    obtain ⟨a0, g0, hs⟩ := s_bind hs
    obtain ⟨a1, g1, hs⟩ := s_bind hs
    obtain ⟨a2, g2, hs⟩ := s_bind hs
    obtain ⟨u9, ge, hs⟩ := s_bind hs
    rw [g_r_to g0, g_i_to g1, g_i_to g2, g_e_to ge]
    exact v_X6_gainOf_0 hs k
  rcases s_ite hs with ⟨c, hs⟩ | ⟨-, hs⟩
  · subst c
    unfold U_X6_gainOf_12 at hs
    obtain ⟨a0, g0, hs⟩ := s_bind hs
    obtain ⟨a1, g1, hs⟩ := s_bind hs
    obtain ⟨a2, g2, hs⟩ := s_bind hs
    obtain ⟨a3, g3, hs⟩ := s_bind hs
    obtain ⟨a4, g4, hs⟩ := s_bind hs
    obtain ⟨u9, ge, hs⟩ := s_bind hs
    rw [g_r_to g0, g_i_to g1, g_i_to g2, g_i_to g3, g_i_to g4, g_e_to ge]
    exact v_X6_gainOf_12 hs k
  rcases s_ite hs with ⟨c, hs⟩ | ⟨-, hs⟩
  · subst c
    unfold U_X6_gainOf_74 at hs
    obtain ⟨a0, g0, hs⟩ := s_bind hs
    obtain ⟨a1, g1, hs⟩ := s_bind hs
    obtain ⟨a2, g2, hs⟩ := s_bind hs
    obtain ⟨a3, g3, hs⟩ := s_bind hs
    obtain ⟨a4, g4, hs⟩ := s_bind hs
    obtain ⟨a5, g5, hs⟩ := s_bind hs
    obtain ⟨u9, ge, hs⟩ := s_bind hs
    rw [g_r_to g0, g_i_to g1, g_i_to g2, g_i_to g3, g_i_to g4, g_i_to g5, g_e_to ge]
    exact v_X6_gainOf_74 hs k
  rcases s_ite hs with ⟨c, hs⟩ | ⟨-, hs⟩
  · subst c
    unfold U_X6_gainOf_97 at hs
    obtain ⟨a0, g0, hs⟩ := s_bind hs
    obtain ⟨a1, g1, hs⟩ := s_bind hs
    obtain ⟨a2, g2, hs⟩ := s_bind hs
    obtain ⟨a3, g3, hs⟩ := s_bind hs
    obtain ⟨a4, g4, hs⟩ := s_bind hs
    obtain ⟨u9, ge, hs⟩ := s_bind hs
    rw [g_r_to g0, g_i_to g1, g_i_to g2, g_i_to g3, g_i_to g4, g_e_to ge]
    exact v_X6_gainOf_97 hs k
  cases hs
theorem t_X6_gainOf {G : sG} {d : Nat} {v0 : Nat} {v1 : Int32} {v2 : Int32} {σ : sS} {q : Int32 × sS} (h : F_X6_gainOf v0 v1 v2 σ = some q) : s_T G (d + 7) M_X6_gainOf [.ref v0, .int v1, .int v2] σ (e_I q) := by
  unfold F_X6_gainOf at h
  obtain ⟨-, -, h⟩ := s_bind h
  exact s_ofV rfl (by decide) (Nat.le_of_ble_eq_true rfl) rfl rfl (s_run_ind (V := fun x r => s_V G (d + 7) M_X6_gainOf [.ref v0, .int v1, .int v2] σ Y_X6_gainOf x (e_I r)) (fun x z r hs hk => v_X6_gainOf hs (by cases z <;> exact hk)) h)
/-! X7_gains -/
noncomputable def T_X7_gains_0 (v0 : Nat) (v1 : Int32) (v2 : Int32) (σ : sS) : Option (sZ (Int32 ⊕ String)) :=
  (F_X7_needHouse v0 v1 σ).bind fun q1 => s_sum q1.1 (fun x2 => (F_X7_needLaw v0 v2 q1.2).bind fun q4 => s_sum q4.1 (fun x5 => (s_fr q4.2 v0 7 5).bind fun x7 =>
  (F_X0_audit x7 q4.2).bind fun q8 =>
  (s_fr q8.2 v0 7 7).bind fun x9 =>
  (F_X6_gainOf x9 v1 v2 q8.2).bind fun q10 =>
  some (.inr (.inl q10.1, q10.2))) (fun E6 => some (.inr (.inr E6, q4.2)))) (fun E3 => some (.inr (.inr E3, q1.2)))
noncomputable def U_X7_gains_0 (vs : List Value) (σ : sS) : Option (sZ (Int32 ⊕ String)) := (g_r vs).bind fun a0 => (g_i a0.2).bind fun a1 => (g_i a1.2).bind fun a2 => (g_e a2.2).bind fun _ => T_X7_gains_0 a0.1 a1.1 a2.1 σ
noncomputable def S_X7_gains (x : sL) : Option (sZ (Int32 ⊕ String)) := if x.1 = 0 then U_X7_gains_0 x.2.1 x.2.2 else none
def Y_X7_gains (pc : Nat) : List Nat := if pc = 0 then [0, 1, 2] else []
noncomputable def F_X7_gains (v0 : Nat) (v1 : Int32) (v2 : Int32) (σ : sS) : Option ((Int32 ⊕ String) × sS) := (s_is σ v0 7).bind fun _ => s_run S_X7_gains (0, [.ref v0, .int v1, .int v2], σ)
theorem l_X7_gains_0 {v0 : Nat} {v1 : Int32} {v2 : Int32} {σ : sS} {z : sZ (Int32 ⊕ String)} (hf : T_X7_gains_0 v0 v1 v2 σ = some z) : s_lz σ z := by
  unfold T_X7_gains_0 at hf
  obtain ⟨q1, hh, hf⟩ := s_bind hf
  refine s_lz.tr (l_X7_needHouse hh) ?_
  rcases s_sum_some hf with ⟨x2, -, hf⟩ | ⟨E3, -, hf⟩
  · obtain ⟨q4, hh, hf⟩ := s_bind hf
    refine s_lz.tr (l_X7_needLaw hh) ?_
    rcases s_sum_some hf with ⟨x5, -, hf⟩ | ⟨E6, -, hf⟩
    · obtain ⟨x7, -, hf⟩ := s_bind hf
      obtain ⟨q8, hh, hf⟩ := s_bind hf
      refine s_lz.tr (l_X0_audit hh) ?_
      obtain ⟨x9, -, hf⟩ := s_bind hf
      obtain ⟨q10, hh, hf⟩ := s_bind hf
      refine s_lz.tr (l_X6_gainOf hh) ?_
      cases hf
      exact s_le.rf
    · cases hf
      exact s_le.rf
  · cases hf
    exact s_le.rf
theorem l_X7_gains_s {x : sL} {z : sZ (Int32 ⊕ String)} (hs : S_X7_gains x = some z) : s_lz x.2.2 z := by
  obtain ⟨pc, vs, σ⟩ := x
  unfold S_X7_gains at hs
  dsimp only at hs ⊢
  rcases s_ite hs with ⟨c, hs⟩ | ⟨-, hs⟩
  · subst c
    unfold U_X7_gains_0 at hs
    obtain ⟨a0, g0, hs⟩ := s_bind hs
    obtain ⟨a1, g1, hs⟩ := s_bind hs
    obtain ⟨a2, g2, hs⟩ := s_bind hs
    obtain ⟨u9, ge, hs⟩ := s_bind hs
    exact l_X7_gains_0 hs
  cases hs
theorem l_X7_gains {v0 : Nat} {v1 : Int32} {v2 : Int32} {σ : sS} {q : (Int32 ⊕ String) × sS} (h : F_X7_gains v0 v1 v2 σ = some q) : s_le σ q.2 := by
  unfold F_X7_gains at h
  obtain ⟨-, -, h⟩ := s_bind h
  exact s_run_ind (V := fun x r => s_le x.2.2 r.2) (fun x z r hs hk => by
    have h9 := l_X7_gains_s hs
    cases z with
    | inl y => exact s_le.tr h9 hk
    | inr q => cases hk; exact h9) h
theorem b_X7_gains {v0 : Nat} {v1 : Int32} {v2 : Int32} {σ : sS} {q : (Int32 ⊕ String) × sS} (h : F_X7_gains v0 v1 v2 σ = some q) : ∃ fs, σ.1 v0 = some (.inr (7, fs)) := by
  unfold F_X7_gains at h
  obtain ⟨u, hu, -⟩ := s_bind h
  exact s_is_to hu
set_option maxRecDepth 100000 in
set_option maxHeartbeats 4000000 in
theorem v_X7_gains_0 {G : sG} {d : Nat} {vs0 : List Value} {σ0 : sS} {v0 : Nat} {v1 : Int32} {v2 : Int32} {σ : sS} {z : sZ (Int32 ⊕ String)} {r : (Int32 ⊕ String) × sS} (hf : T_X7_gains_0 v0 v1 v2 σ = some z) (k : s_K G (d + 8) M_X7_gains vs0 σ0 Y_X7_gains e_IX z r) : s_V G (d + 8) M_X7_gains vs0 σ0 Y_X7_gains (0, [.ref v0, .int v1, .int v2], σ) (e_IX r) := by
  have le0 : s_le σ (e_IX r).2 := s_lek hem_IX (l_X7_gains_0 hf) k
  refine ⟨le0, ?_⟩
  intro p e s m below meth c H locs cells slots ls X I hn1 hn2 hl
  have hn : cells + σ0.2.1 ≤ σ.2.1 ∧ slots + σ0.2.2.1 ≤ σ.2.2.1 := ⟨hn1, hn2⟩
  have hl : lv_has ls 3 [(0, .ref v0), (1, .int v1), (2, .int v2)] := hl
  have hx := X.1
  have hb : c.code = cX7_gains := X.2.1
  have hown : s.vm.findClass RX7 = some m.cls := X.2.2.2.2.2.1
  have hts := X.2.2.2.2.2.2.1
  refine W.eq (g2 := F0 m 0 ls []) rfl ?_
  unfold T_X7_gains_0 at hf
  obtain ⟨q1, h1, hf⟩ := s_bind hf
  refine lv_aload_n hx hb dX7_gains_0 rfl (lv_at hl 0 rfl) ?_
  refine lv_iload_n hx hb dX7_gains_1 rfl (lv_at hl 1 rfl) ?_
  rcases s_sum_some hf with ⟨x2, hq2, hf⟩ | ⟨E3, hq2, hf⟩
  · have le3 : s_le q1.2 (e_IX r).2 := by
      refine s_lek hem_IX ?_ k
      obtain ⟨q4, hh, hf⟩ := s_bind hf
      refine s_lz.tr (l_X7_needLaw hh) ?_
      rcases s_sum_some hf with ⟨x5, -, hf⟩ | ⟨E6, -, hf⟩
      · obtain ⟨x7, -, hf⟩ := s_bind hf
        obtain ⟨q8, hh, hf⟩ := s_bind hf
        refine s_lz.tr (l_X0_audit hh) ?_
        obtain ⟨x9, -, hf⟩ := s_bind hf
        obtain ⟨q10, hh, hf⟩ := s_bind hf
        refine s_lz.tr (l_X6_gainOf hh) ?_
        cases hf
        exact s_le.rf
      · cases hf
        exact s_le.rf
    refine r_callV (Y := M_X7_needHouse) (v := none) X I w_1087 my_X7_needHouse (by omega) (t_X7_needHouse (G := G) (d := d + 6) h1) (b_X7_needHouse h1) (e_VX_l hq2) rfl hl.1 rfl (Nat.le_of_ble_eq_true rfl) hn le3 dX7_gains_2 (fun H locs cells slots I hn1 hn2 => ?_)
    have I : s_I G q1.2 s H locs := I
    have hn : cells + σ0.2.1 ≤ q1.2.2.1 ∧ slots + σ0.2.2.1 ≤ q1.2.2.2.1 := ⟨hn1, hn2⟩
    obtain ⟨q4, h4, hf⟩ := s_bind hf
    refine lv_aload_n hx hb dX7_gains_5 rfl (lv_at hl 0 rfl) ?_
    refine lv_iload_n hx hb dX7_gains_6 rfl (lv_at hl 2 rfl) ?_
    rcases s_sum_some hf with ⟨x5, hq5, hf⟩ | ⟨E6, hq5, hf⟩
    · have le6 : s_le q4.2 (e_IX r).2 := by
        refine s_lek hem_IX ?_ k
        obtain ⟨x7, -, hf⟩ := s_bind hf
        obtain ⟨q8, hh, hf⟩ := s_bind hf
        refine s_lz.tr (l_X0_audit hh) ?_
        obtain ⟨x9, -, hf⟩ := s_bind hf
        obtain ⟨q10, hh, hf⟩ := s_bind hf
        refine s_lz.tr (l_X6_gainOf hh) ?_
        cases hf
        exact s_le.rf
      refine r_callV (Y := M_X7_needLaw) (v := none) X I w_1587 my_X7_needLaw (by omega) (t_X7_needLaw (G := G) (d := d + 6) h4) (b_X7_needLaw h4) (e_VX_l hq5) rfl hl.1 rfl (Nat.le_of_ble_eq_true rfl) hn le6 dX7_gains_7 (fun H locs cells slots I hn1 hn2 => ?_)
      have I : s_I G q4.2 s H locs := I
      have hn : cells + σ0.2.1 ≤ q4.2.2.1 ∧ slots + σ0.2.2.1 ≤ q4.2.2.2.1 := ⟨hn1, hn2⟩
      obtain ⟨x7, h7, hf⟩ := s_bind hf
      obtain ⟨q8, h8, hf⟩ := s_bind hf
      obtain ⟨x9, h9, hf⟩ := s_bind hf
      obtain ⟨q10, h10, hf⟩ := s_bind hf
      cases hf
      have k : _ = r := k
      subst k
      have le11 : s_le q10.2 q10.2 := s_le.rf
      have le12 := s_le.tr (l_X6_gainOf h10) le11
      refine lv_aload_n hx hb dX7_gains_10 rfl (lv_at hl 0 rfl) ?_
      refine r_gr X I fl_X7_49 h7 dX7_gains_11 ?_
      refine r_callV (Y := M_X0_audit) (v := none) X I w_509 my_X0_audit (by omega) (t_X0_audit (G := G) (d := d + 1) h8) (b_X0_audit h8) rfl rfl hl.1 rfl (Nat.le_of_ble_eq_true rfl) hn le12 dX7_gains_14 (fun H locs cells slots I hn1 hn2 => ?_)
      have I : s_I G q8.2 s H locs := I
      have hn : cells + σ0.2.1 ≤ q8.2.2.1 ∧ slots + σ0.2.2.1 ≤ q8.2.2.2.1 := ⟨hn1, hn2⟩
      refine lv_aload_n hx hb dX7_gains_17 rfl (lv_at hl 0 rfl) ?_
      refine r_gr X I fl_X7_65 h9 dX7_gains_18 ?_
      refine lv_iload_n hx hb dX7_gains_21 rfl (lv_at hl 1 rfl) ?_
      refine lv_iload_n hx hb dX7_gains_22 rfl (lv_at hl 2 rfl) ?_
      refine r_callV (Y := M_X6_gainOf) (v := some (.int q10.1)) X I w_1592 my_X6_gainOf (by omega) (t_X6_gainOf (G := G) (d := d + 0) h10) (b_X6_gainOf h10) rfl rfl hl.1 rfl (Nat.le_of_ble_eq_true rfl) hn le11 dX7_gains_23 (fun H locs cells slots I hn1 hn2 => ?_)
      have I : s_I G q10.2 s H locs := I
      have hn : cells + σ0.2.1 ≤ q10.2.2.1 ∧ slots + σ0.2.2.1 ≤ q10.2.2.2.1 := ⟨hn1, hn2⟩
      exact r_iret X I rfl rfl rfl hn dX7_gains_26
    · cases hf
      have k : _ = r := k
      subst k
      exact r_callVx (Y := M_X7_needLaw) X I rfl w_1587 my_X7_needLaw (by omega) (t_X7_needLaw (G := G) (d := d + 6) h4) (b_X7_needLaw h4) (e_VX_r hq5) rfl hl.1 rfl (Nat.le_of_ble_eq_true rfl) hn rfl dX7_gains_7
  · cases hf
    have k : _ = r := k
    subst k
    exact r_callVx (Y := M_X7_needHouse) X I rfl w_1087 my_X7_needHouse (by omega) (t_X7_needHouse (G := G) (d := d + 6) h1) (b_X7_needHouse h1) (e_VX_r hq2) rfl hl.1 rfl (Nat.le_of_ble_eq_true rfl) hn rfl dX7_gains_2
theorem v_X7_gains {G : sG} {d : Nat} {vs0 : List Value} {σ0 : sS} {x : sL} {z : sZ (Int32 ⊕ String)} {r : (Int32 ⊕ String) × sS} (hs : S_X7_gains x = some z) (k : s_K G (d + 8) M_X7_gains vs0 σ0 Y_X7_gains e_IX z r) : s_V G (d + 8) M_X7_gains vs0 σ0 Y_X7_gains x (e_IX r) := by
  obtain ⟨pc, vs, σ⟩ := x
  unfold S_X7_gains at hs
  dsimp only at hs
  rcases s_ite hs with ⟨c, hs⟩ | ⟨-, hs⟩
  · subst c
    unfold U_X7_gains_0 at hs
    obtain ⟨a0, g0, hs⟩ := s_bind hs
    obtain ⟨a1, g1, hs⟩ := s_bind hs
    obtain ⟨a2, g2, hs⟩ := s_bind hs
    obtain ⟨u9, ge, hs⟩ := s_bind hs
    rw [g_r_to g0, g_i_to g1, g_i_to g2, g_e_to ge]
    exact v_X7_gains_0 hs k
  cases hs
theorem t_X7_gains {G : sG} {d : Nat} {v0 : Nat} {v1 : Int32} {v2 : Int32} {σ : sS} {q : (Int32 ⊕ String) × sS} (h : F_X7_gains v0 v1 v2 σ = some q) : s_T G (d + 8) M_X7_gains [.ref v0, .int v1, .int v2] σ (e_IX q) := by
  unfold F_X7_gains at h
  obtain ⟨-, -, h⟩ := s_bind h
  exact s_ofV rfl (by decide) (Nat.le_of_ble_eq_true rfl) rfl rfl (s_run_ind (V := fun x r => s_V G (d + 8) M_X7_gains [.ref v0, .int v1, .int v2] σ Y_X7_gains x (e_IX r)) (fun x z r hs hk => v_X7_gains hs (by cases z <;> exact hk)) h)
/-! L_gains -/
noncomputable def T_L_gains_0 (v0 : Nat) (v1 : Int32) (v2 : Int32) (v3 : Nat) (σ : sS) : Option (sZ Int32) :=
  (F_X7_gains v0 v1 v2 σ).bind fun q1 => s_sum q1.1 (fun x2 => (s_sl q1.2 v3 0 ((x2 : Int32).toInt64)).bind fun σ4 =>
  some (.inr (0, σ4))) (fun E3 => if E3 = "java/lang/IndexOutOfBoundsException" then (some (.inr (1, q1.2))) else if E3 = "java/lang/IllegalArgumentException" then (some (.inr (2, q1.2))) else none)
noncomputable def U_L_gains_0 (vs : List Value) (σ : sS) : Option (sZ Int32) := (g_r vs).bind fun a0 => (g_i a0.2).bind fun a1 => (g_i a1.2).bind fun a2 => (g_r a2.2).bind fun a3 => (g_e a3.2).bind fun _ => T_L_gains_0 a0.1 a1.1 a2.1 a3.1 σ
noncomputable def S_L_gains (x : sL) : Option (sZ Int32) := if x.1 = 0 then U_L_gains_0 x.2.1 x.2.2 else none
def Y_L_gains (pc : Nat) : List Nat := if pc = 0 then [0, 1, 2, 3] else []
noncomputable def F_L_gains (v0 : Nat) (v1 : Int32) (v2 : Int32) (v3 : Nat) (σ : sS) : Option (Int32 × sS) := s_run S_L_gains (0, [.ref v0, .int v1, .int v2, .ref v3], σ)
theorem hp_L_gains_5_1 : s_pass RL "java/lang/IllegalArgumentException" 5 [(0, 10, 13, 27)] := fun z hz => by
  simp only [List.mem_cons, List.not_mem_nil, or_false] at hz
  rcases hz with rfl
  · exact ⟨rfl, by decide, "java/lang/IndexOutOfBoundsException", w_1011, by decide +kernel⟩
theorem l_L_gains_0 {v0 : Nat} {v1 : Int32} {v2 : Int32} {v3 : Nat} {σ : sS} {z : sZ Int32} (hf : T_L_gains_0 v0 v1 v2 v3 σ = some z) : s_lz σ z := by
  unfold T_L_gains_0 at hf
  obtain ⟨q1, hh, hf⟩ := s_bind hf
  refine s_lz.tr (l_X7_gains hh) ?_
  rcases s_sum_some hf with ⟨x2, -, hf⟩ | ⟨E3, -, hf⟩
  · obtain ⟨σ4, hh, hf⟩ := s_bind hf
    refine s_lz.tr (s_le2 (s_sl_2 hh)) ?_
    cases hf
    exact s_le.rf
  · rcases s_ite hf with ⟨-, hf⟩ | ⟨-, hf⟩
    · cases hf
      exact s_le.rf
    rcases s_ite hf with ⟨-, hf⟩ | ⟨-, hf⟩
    · cases hf
      exact s_le.rf
    cases hf
theorem l_L_gains_s {x : sL} {z : sZ Int32} (hs : S_L_gains x = some z) : s_lz x.2.2 z := by
  obtain ⟨pc, vs, σ⟩ := x
  unfold S_L_gains at hs
  dsimp only at hs ⊢
  rcases s_ite hs with ⟨c, hs⟩ | ⟨-, hs⟩
  · subst c
    unfold U_L_gains_0 at hs
    obtain ⟨a0, g0, hs⟩ := s_bind hs
    obtain ⟨a1, g1, hs⟩ := s_bind hs
    obtain ⟨a2, g2, hs⟩ := s_bind hs
    obtain ⟨a3, g3, hs⟩ := s_bind hs
    obtain ⟨u9, ge, hs⟩ := s_bind hs
    exact l_L_gains_0 hs
  cases hs
theorem l_L_gains {v0 : Nat} {v1 : Int32} {v2 : Int32} {v3 : Nat} {σ : sS} {q : Int32 × sS} (h : F_L_gains v0 v1 v2 v3 σ = some q) : s_le σ q.2 := by
  unfold F_L_gains at h
  exact s_run_ind (V := fun x r => s_le x.2.2 r.2) (fun x z r hs hk => by
    have h9 := l_L_gains_s hs
    cases z with
    | inl y => exact s_le.tr h9 hk
    | inr q => cases hk; exact h9) h
set_option maxRecDepth 100000 in
set_option maxHeartbeats 4000000 in
theorem v_L_gains_0 {G : sG} {d : Nat} {vs0 : List Value} {σ0 : sS} {v0 : Nat} {v1 : Int32} {v2 : Int32} {v3 : Nat} {σ : sS} {z : sZ Int32} {r : Int32 × sS} (hf : T_L_gains_0 v0 v1 v2 v3 σ = some z) (k : s_K G (d + 9) M_L_gains vs0 σ0 Y_L_gains e_I z r) : s_V G (d + 9) M_L_gains vs0 σ0 Y_L_gains (0, [.ref v0, .int v1, .int v2, .ref v3], σ) (e_I r) := by
  have le0 : s_le σ (e_I r).2 := s_lek hem_I (l_L_gains_0 hf) k
  refine ⟨le0, ?_⟩
  intro p e s m below meth c H locs cells slots ls X I hn1 hn2 hl
  have hn : cells + σ0.2.1 ≤ σ.2.1 ∧ slots + σ0.2.2.1 ≤ σ.2.2.1 := ⟨hn1, hn2⟩
  have hl : lv_has ls 5 [(0, .ref v0), (1, .int v1), (2, .int v2), (3, .ref v3)] := hl
  have hx := X.1
  have hb : c.code = cL_gains := X.2.1
  have hown : s.vm.findClass RL = some m.cls := X.2.2.2.2.2.1
  have hts := X.2.2.2.2.2.2.1
  refine W.eq (g2 := F0 m 0 ls []) rfl ?_
  unfold T_L_gains_0 at hf
  obtain ⟨q1, h1, hf⟩ := s_bind hf
  refine lv_aload_n hx hb dL_gains_0 rfl (lv_at hl 3 rfl) ?_
  refine lv_iconst (v := 0) hx hb dL_gains_1 (by decide) ?_
  refine lv_aload_n hx hb dL_gains_2 rfl (lv_at hl 0 rfl) ?_
  refine lv_iload_n hx hb dL_gains_3 rfl (lv_at hl 1 rfl) ?_
  refine lv_iload_n hx hb dL_gains_4 rfl (lv_at hl 2 rfl) ?_
  rcases s_sum_some hf with ⟨x2, hq2, hf⟩ | ⟨E3, hq2, hf⟩
  · have le3 : s_le q1.2 (e_I r).2 := by
      refine s_lek hem_I ?_ k
      obtain ⟨σ4, hh, hf⟩ := s_bind hf
      refine s_lz.tr (s_le2 (s_sl_2 hh)) ?_
      cases hf
      exact s_le.rf
    refine r_callV (Y := M_X7_gains) (v := some (.int x2)) X I w_1583 my_X7_gains (by omega) (t_X7_gains (G := G) (d := d + 0) h1) (b_X7_gains h1) (e_IX_l hq2) rfl hl.1 rfl (Nat.le_of_ble_eq_true rfl) hn le3 dL_gains_5 (fun H locs cells slots I hn1 hn2 => ?_)
    have I : s_I G q1.2 s H locs := I
    have hn : cells + σ0.2.1 ≤ q1.2.2.1 ∧ slots + σ0.2.2.1 ≤ q1.2.2.2.1 := ⟨hn1, hn2⟩
    obtain ⟨σ4, h4, hf⟩ := s_bind hf
    cases hf
    have k : _ = r := k
    subst k
    have le5 : s_le σ4 σ4 := s_le.rf
    refine lv_i2l hx hb dL_gains_8 rfl ?_
    refine r_last X I h4 dL_gains_9 (fun H locs I => ?_)
    have hn := s_k2 (s_sl_2 h4) hn
    refine lv_goto (tgt := 21) hx hb dL_gains_10 (by decide) ?_
    refine lv_iconst (v := 0) hx hb dL_gains_21 (by decide) ?_
    exact r_iret X I rfl rfl rfl hn dL_gains_22
  · rcases s_ite hf with ⟨c6, hf⟩ | ⟨c6, hf⟩
    · subst c6
      have le7 : s_le q1.2 (e_I r).2 := by
        refine s_lek hem_I ?_ k
        cases hf
        exact s_le.rf
      refine r_callVh (x := (0, 10, 13, 27)) (Y := M_X7_gains) (E := "java/lang/IndexOutOfBoundsException") (name := "java/lang/IndexOutOfBoundsException") X I [] [(0, 10, 17, 13)] rfl (fun z hz => by cases hz) rfl (by decide) w_1011 (by decide +kernel) w_1583 my_X7_gains (by omega) (t_X7_gains (G := G) (d := d + 0) h1) (b_X7_gains h1) (e_IX_r hq2) rfl hl.1 rfl (Nat.le_of_ble_eq_true rfl) hn le7 dL_gains_5 (fun a5 H locs cells slots I hn1 hn2 => ?_)
      have I : s_I G q1.2 s H locs := I
      have hn : cells + σ0.2.1 ≤ q1.2.2.1 ∧ slots + σ0.2.2.1 ≤ q1.2.2.2.1 := ⟨hn1, hn2⟩
      cases hf
      have k : _ = r := k
      subst k
      refine lv_astore (lv' := [(4, .ref a5), (0, .ref v0), (1, .int v1), (2, .int v2), (3, .ref v3)]) hx hb dL_gains_13 hl (by decide) rfl (fun ls hl => ?_)
      refine lv_iconst (v := 1) hx hb dL_gains_15 (by decide) ?_
      exact r_iret X I rfl rfl rfl hn dL_gains_16
    rcases s_ite hf with ⟨c8, hf⟩ | ⟨c8, hf⟩
    · subst c8
      have le9 : s_le q1.2 (e_I r).2 := by
        refine s_lek hem_I ?_ k
        cases hf
        exact s_le.rf
      refine r_callVh (x := (0, 10, 17, 13)) (Y := M_X7_gains) (E := "java/lang/IllegalArgumentException") (name := "java/lang/IllegalArgumentException") X I [(0, 10, 13, 27)] [] rfl hp_L_gains_5_1 rfl (by decide) w_691 (by decide +kernel) w_1583 my_X7_gains (by omega) (t_X7_gains (G := G) (d := d + 0) h1) (b_X7_gains h1) (e_IX_r hq2) rfl hl.1 rfl (Nat.le_of_ble_eq_true rfl) hn le9 dL_gains_5 (fun a6 H locs cells slots I hn1 hn2 => ?_)
      have I : s_I G q1.2 s H locs := I
      have hn : cells + σ0.2.1 ≤ q1.2.2.1 ∧ slots + σ0.2.2.1 ≤ q1.2.2.2.1 := ⟨hn1, hn2⟩
      cases hf
      have k : _ = r := k
      subst k
      refine lv_astore (lv' := [(4, .ref a6), (0, .ref v0), (1, .int v1), (2, .int v2), (3, .ref v3)]) hx hb dL_gains_17 hl (by decide) rfl (fun ls hl => ?_)
      refine lv_iconst (v := 2) hx hb dL_gains_19 (by decide) ?_
      exact r_iret X I rfl rfl rfl hn dL_gains_20
    cases hf
theorem v_L_gains {G : sG} {d : Nat} {vs0 : List Value} {σ0 : sS} {x : sL} {z : sZ Int32} {r : Int32 × sS} (hs : S_L_gains x = some z) (k : s_K G (d + 9) M_L_gains vs0 σ0 Y_L_gains e_I z r) : s_V G (d + 9) M_L_gains vs0 σ0 Y_L_gains x (e_I r) := by
  obtain ⟨pc, vs, σ⟩ := x
  unfold S_L_gains at hs
  dsimp only at hs
  rcases s_ite hs with ⟨c, hs⟩ | ⟨-, hs⟩
  · subst c
    unfold U_L_gains_0 at hs
    obtain ⟨a0, g0, hs⟩ := s_bind hs
    obtain ⟨a1, g1, hs⟩ := s_bind hs
    obtain ⟨a2, g2, hs⟩ := s_bind hs
    obtain ⟨a3, g3, hs⟩ := s_bind hs
    obtain ⟨u9, ge, hs⟩ := s_bind hs
    rw [g_r_to g0, g_i_to g1, g_i_to g2, g_r_to g3, g_e_to ge]
    exact v_L_gains_0 hs k
  cases hs
theorem t_L_gains {G : sG} {d : Nat} {v0 : Nat} {v1 : Int32} {v2 : Int32} {v3 : Nat} {σ : sS} {q : Int32 × sS} (h : F_L_gains v0 v1 v2 v3 σ = some q) : s_T G (d + 9) M_L_gains [.ref v0, .int v1, .int v2, .ref v3] σ (e_I q) := by
  unfold F_L_gains at h
  exact s_ofVH rfl (by decide) (Nat.le_of_ble_eq_true rfl) rfl rfl (s_run_ind (V := fun x r => s_V G (d + 9) M_L_gains [.ref v0, .int v1, .int v2, .ref v3] σ Y_L_gains x (e_I r)) (fun x z r hs hk => v_L_gains hs (by cases z <;> exact hk)) h)
/-! X7_needWorld -/
noncomputable def T_X7_needWorld_0 (v0 : Nat) (v1 : Int32) (σ : sS) : Option (sZ (Unit ⊕ String)) :=
  if v1 < 0 then (some (.inr (.inr "java/lang/IllegalArgumentException", s_ex σ)))
  else ((s_fr σ v0 7 1).bind fun x1 =>
  (F_X1_worldCount x1 σ).bind fun q2 =>
  if v1 < q2.1 then (some (.inr (.inl (), q2.2)))
  else (some (.inr (.inr "java/lang/IllegalArgumentException", s_ex q2.2))))
noncomputable def U_X7_needWorld_0 (vs : List Value) (σ : sS) : Option (sZ (Unit ⊕ String)) := (g_r vs).bind fun a0 => (g_i a0.2).bind fun a1 => (g_e a1.2).bind fun _ => T_X7_needWorld_0 a0.1 a1.1 σ
noncomputable def S_X7_needWorld (x : sL) : Option (sZ (Unit ⊕ String)) := if x.1 = 0 then U_X7_needWorld_0 x.2.1 x.2.2 else none
def Y_X7_needWorld (pc : Nat) : List Nat := if pc = 0 then [0, 1] else []
noncomputable def F_X7_needWorld (v0 : Nat) (v1 : Int32) (σ : sS) : Option ((Unit ⊕ String) × sS) := (s_is σ v0 7).bind fun _ => s_run S_X7_needWorld (0, [.ref v0, .int v1], σ)
theorem l_X7_needWorld_0 {v0 : Nat} {v1 : Int32} {σ : sS} {z : sZ (Unit ⊕ String)} (hf : T_X7_needWorld_0 v0 v1 σ = some z) : s_lz σ z := by
  unfold T_X7_needWorld_0 at hf
  rcases s_ite hf with ⟨-, hf⟩ | ⟨-, hf⟩
  · cases hf
    exact s_ex_le
  · obtain ⟨x1, -, hf⟩ := s_bind hf
    obtain ⟨q2, hh, hf⟩ := s_bind hf
    refine s_lz.tr (l_X1_worldCount hh) ?_
    rcases s_ite hf with ⟨-, hf⟩ | ⟨-, hf⟩
    · cases hf
      exact s_le.rf
    · cases hf
      exact s_ex_le
theorem l_X7_needWorld_s {x : sL} {z : sZ (Unit ⊕ String)} (hs : S_X7_needWorld x = some z) : s_lz x.2.2 z := by
  obtain ⟨pc, vs, σ⟩ := x
  unfold S_X7_needWorld at hs
  dsimp only at hs ⊢
  rcases s_ite hs with ⟨c, hs⟩ | ⟨-, hs⟩
  · subst c
    unfold U_X7_needWorld_0 at hs
    obtain ⟨a0, g0, hs⟩ := s_bind hs
    obtain ⟨a1, g1, hs⟩ := s_bind hs
    obtain ⟨u9, ge, hs⟩ := s_bind hs
    exact l_X7_needWorld_0 hs
  cases hs
theorem l_X7_needWorld {v0 : Nat} {v1 : Int32} {σ : sS} {q : (Unit ⊕ String) × sS} (h : F_X7_needWorld v0 v1 σ = some q) : s_le σ q.2 := by
  unfold F_X7_needWorld at h
  obtain ⟨-, -, h⟩ := s_bind h
  exact s_run_ind (V := fun x r => s_le x.2.2 r.2) (fun x z r hs hk => by
    have h9 := l_X7_needWorld_s hs
    cases z with
    | inl y => exact s_le.tr h9 hk
    | inr q => cases hk; exact h9) h
theorem b_X7_needWorld {v0 : Nat} {v1 : Int32} {σ : sS} {q : (Unit ⊕ String) × sS} (h : F_X7_needWorld v0 v1 σ = some q) : ∃ fs, σ.1 v0 = some (.inr (7, fs)) := by
  unfold F_X7_needWorld at h
  obtain ⟨u, hu, -⟩ := s_bind h
  exact s_is_to hu
set_option maxRecDepth 100000 in
set_option maxHeartbeats 4000000 in
theorem v_X7_needWorld_0 {G : sG} {d : Nat} {vs0 : List Value} {σ0 : sS} {v0 : Nat} {v1 : Int32} {σ : sS} {z : sZ (Unit ⊕ String)} {r : (Unit ⊕ String) × sS} (hf : T_X7_needWorld_0 v0 v1 σ = some z) (k : s_K G (d + 2) M_X7_needWorld vs0 σ0 Y_X7_needWorld e_VX z r) : s_V G (d + 2) M_X7_needWorld vs0 σ0 Y_X7_needWorld (0, [.ref v0, .int v1], σ) (e_VX r) := by
  have le0 : s_le σ (e_VX r).2 := s_lek hem_VX (l_X7_needWorld_0 hf) k
  refine ⟨le0, ?_⟩
  intro p e s m below meth c H locs cells slots ls X I hn1 hn2 hl
  have hn : cells + σ0.2.1 ≤ σ.2.1 ∧ slots + σ0.2.2.1 ≤ σ.2.2.1 := ⟨hn1, hn2⟩
  have hl : lv_has ls 2 [(0, .ref v0), (1, .int v1)] := hl
  have hx := X.1
  have hb : c.code = cX7_needWorld := X.2.1
  have hown : s.vm.findClass RX7 = some m.cls := X.2.2.2.2.2.1
  have hts := X.2.2.2.2.2.2.1
  refine W.eq (g2 := F0 m 0 ls []) rfl ?_
  unfold T_X7_needWorld_0 at hf
  refine lv_iload_n hx hb dX7_needWorld_0 rfl (lv_at hl 1 rfl) ?_
  rcases s_ite hf with ⟨c1, hf⟩ | ⟨c1, hf⟩
  · refine lv_if_lt (tgt := 15) hx hb dX7_needWorld_1 (by decide) (fun _ => ?_) (fun n => absurd c1 n)
    cases hf
    have k : _ = r := k
    subst k
    exact r_throwW X I rfl th_X7_96_357 hl.1 (Nat.le_of_ble_eq_true rfl) hn rfl dX7_needWorld_15 dX7_needWorld_18 dX7_needWorld_19 dX7_needWorld_22 dX7_needWorld_25
  · refine lv_if_lt (tgt := 15) hx hb dX7_needWorld_1 (by decide) (fun n => absurd n c1) (fun _ => ?_)
    obtain ⟨x1, h2, hf⟩ := s_bind hf
    obtain ⟨q2, h3, hf⟩ := s_bind hf
    have le4 : s_le q2.2 (e_VX r).2 := by
      refine s_lek hem_VX ?_ k
      rcases s_ite hf with ⟨-, hf⟩ | ⟨-, hf⟩
      · cases hf
        exact s_le.rf
      · cases hf
        exact s_ex_le
    refine lv_iload_n hx hb dX7_needWorld_4 rfl (lv_at hl 1 rfl) ?_
    refine lv_aload_n hx hb dX7_needWorld_5 rfl (lv_at hl 0 rfl) ?_
    refine r_gr X I fl_X7_19 h2 dX7_needWorld_6 ?_
    refine r_callV (Y := M_X1_worldCount) (v := some (.int q2.1)) X I w_1056 my_X1_worldCount (by omega) (t_X1_worldCount (G := G) (d := d + 0) h3) (b_X1_worldCount h3) rfl rfl hl.1 rfl (Nat.le_of_ble_eq_true rfl) hn le4 dX7_needWorld_9 (fun H locs cells slots I hn1 hn2 => ?_)
    have I : s_I G q2.2 s H locs := I
    have hn : cells + σ0.2.1 ≤ q2.2.2.1 ∧ slots + σ0.2.2.1 ≤ q2.2.2.2.1 := ⟨hn1, hn2⟩
    rcases s_ite hf with ⟨c5, hf⟩ | ⟨c5, hf⟩
    · refine lv_icmp_lt (tgt := 26) hx hb dX7_needWorld_12 (by decide) (fun _ => ?_) (fun n => absurd c5 n)
      cases hf
      have k : _ = r := k
      subst k
      exact r_vret X I rfl rfl hn dX7_needWorld_26
    · refine lv_icmp_lt (tgt := 26) hx hb dX7_needWorld_12 (by decide) (fun n => absurd n c5) (fun _ => ?_)
      cases hf
      have k : _ = r := k
      subst k
      exact r_throwW X I rfl th_X7_96_357 hl.1 (Nat.le_of_ble_eq_true rfl) hn rfl dX7_needWorld_15 dX7_needWorld_18 dX7_needWorld_19 dX7_needWorld_22 dX7_needWorld_25
theorem v_X7_needWorld {G : sG} {d : Nat} {vs0 : List Value} {σ0 : sS} {x : sL} {z : sZ (Unit ⊕ String)} {r : (Unit ⊕ String) × sS} (hs : S_X7_needWorld x = some z) (k : s_K G (d + 2) M_X7_needWorld vs0 σ0 Y_X7_needWorld e_VX z r) : s_V G (d + 2) M_X7_needWorld vs0 σ0 Y_X7_needWorld x (e_VX r) := by
  obtain ⟨pc, vs, σ⟩ := x
  unfold S_X7_needWorld at hs
  dsimp only at hs
  rcases s_ite hs with ⟨c, hs⟩ | ⟨-, hs⟩
  · subst c
    unfold U_X7_needWorld_0 at hs
    obtain ⟨a0, g0, hs⟩ := s_bind hs
    obtain ⟨a1, g1, hs⟩ := s_bind hs
    obtain ⟨u9, ge, hs⟩ := s_bind hs
    rw [g_r_to g0, g_i_to g1, g_e_to ge]
    exact v_X7_needWorld_0 hs k
  cases hs
theorem t_X7_needWorld {G : sG} {d : Nat} {v0 : Nat} {v1 : Int32} {σ : sS} {q : (Unit ⊕ String) × sS} (h : F_X7_needWorld v0 v1 σ = some q) : s_T G (d + 2) M_X7_needWorld [.ref v0, .int v1] σ (e_VX q) := by
  unfold F_X7_needWorld at h
  obtain ⟨-, -, h⟩ := s_bind h
  exact s_ofV rfl (by decide) (Nat.le_of_ble_eq_true rfl) rfl rfl (s_run_ind (V := fun x r => s_V G (d + 2) M_X7_needWorld [.ref v0, .int v1] σ Y_X7_needWorld x (e_VX r)) (fun x z r hs hk => v_X7_needWorld hs (by cases z <;> exact hk)) h)
/-! X7_holds -/
noncomputable def T_X7_holds_0 (v0 : Nat) (v1 : Int32) (v2 : Int32) (σ : sS) : Option (sZ (Int32 ⊕ String)) :=
  (F_X7_needFormula v0 v1 σ).bind fun q1 => s_sum q1.1 (fun x2 => (F_X7_needWorld v0 v2 q1.2).bind fun q4 => s_sum q4.1 (fun x5 => (s_fr q4.2 v0 7 1).bind fun x7 =>
  (F_X1_isTrue x7 v1 v2 q4.2).bind fun q8 =>
  if (q8.1 = 0 ∨ q8.1 = 1) then (some (.inr (.inl q8.1, q8.2))) else none) (fun E6 => some (.inr (.inr E6, q4.2)))) (fun E3 => some (.inr (.inr E3, q1.2)))
noncomputable def U_X7_holds_0 (vs : List Value) (σ : sS) : Option (sZ (Int32 ⊕ String)) := (g_r vs).bind fun a0 => (g_i a0.2).bind fun a1 => (g_i a1.2).bind fun a2 => (g_e a2.2).bind fun _ => T_X7_holds_0 a0.1 a1.1 a2.1 σ
noncomputable def S_X7_holds (x : sL) : Option (sZ (Int32 ⊕ String)) := if x.1 = 0 then U_X7_holds_0 x.2.1 x.2.2 else none
def Y_X7_holds (pc : Nat) : List Nat := if pc = 0 then [0, 1, 2] else []
noncomputable def F_X7_holds (v0 : Nat) (v1 : Int32) (v2 : Int32) (σ : sS) : Option ((Int32 ⊕ String) × sS) := (s_is σ v0 7).bind fun _ => s_run S_X7_holds (0, [.ref v0, .int v1, .int v2], σ)
theorem l_X7_holds_0 {v0 : Nat} {v1 : Int32} {v2 : Int32} {σ : sS} {z : sZ (Int32 ⊕ String)} (hf : T_X7_holds_0 v0 v1 v2 σ = some z) : s_lz σ z := by
  unfold T_X7_holds_0 at hf
  obtain ⟨q1, hh, hf⟩ := s_bind hf
  refine s_lz.tr (l_X7_needFormula hh) ?_
  rcases s_sum_some hf with ⟨x2, -, hf⟩ | ⟨E3, -, hf⟩
  · obtain ⟨q4, hh, hf⟩ := s_bind hf
    refine s_lz.tr (l_X7_needWorld hh) ?_
    rcases s_sum_some hf with ⟨x5, -, hf⟩ | ⟨E6, -, hf⟩
    · obtain ⟨x7, -, hf⟩ := s_bind hf
      obtain ⟨q8, hh, hf⟩ := s_bind hf
      refine s_lz.tr (l_X1_isTrue hh) ?_
      rcases s_ite hf with ⟨-, hf⟩ | ⟨-, hf⟩
      · cases hf
        exact s_le.rf
      · cases hf
    · cases hf
      exact s_le.rf
  · cases hf
    exact s_le.rf
theorem l_X7_holds_s {x : sL} {z : sZ (Int32 ⊕ String)} (hs : S_X7_holds x = some z) : s_lz x.2.2 z := by
  obtain ⟨pc, vs, σ⟩ := x
  unfold S_X7_holds at hs
  dsimp only at hs ⊢
  rcases s_ite hs with ⟨c, hs⟩ | ⟨-, hs⟩
  · subst c
    unfold U_X7_holds_0 at hs
    obtain ⟨a0, g0, hs⟩ := s_bind hs
    obtain ⟨a1, g1, hs⟩ := s_bind hs
    obtain ⟨a2, g2, hs⟩ := s_bind hs
    obtain ⟨u9, ge, hs⟩ := s_bind hs
    exact l_X7_holds_0 hs
  cases hs
theorem l_X7_holds {v0 : Nat} {v1 : Int32} {v2 : Int32} {σ : sS} {q : (Int32 ⊕ String) × sS} (h : F_X7_holds v0 v1 v2 σ = some q) : s_le σ q.2 := by
  unfold F_X7_holds at h
  obtain ⟨-, -, h⟩ := s_bind h
  exact s_run_ind (V := fun x r => s_le x.2.2 r.2) (fun x z r hs hk => by
    have h9 := l_X7_holds_s hs
    cases z with
    | inl y => exact s_le.tr h9 hk
    | inr q => cases hk; exact h9) h
theorem b_X7_holds {v0 : Nat} {v1 : Int32} {v2 : Int32} {σ : sS} {q : (Int32 ⊕ String) × sS} (h : F_X7_holds v0 v1 v2 σ = some q) : ∃ fs, σ.1 v0 = some (.inr (7, fs)) := by
  unfold F_X7_holds at h
  obtain ⟨u, hu, -⟩ := s_bind h
  exact s_is_to hu
set_option maxRecDepth 100000 in
set_option maxHeartbeats 4000000 in
theorem v_X7_holds_0 {G : sG} {d : Nat} {vs0 : List Value} {σ0 : sS} {v0 : Nat} {v1 : Int32} {v2 : Int32} {σ : sS} {z : sZ (Int32 ⊕ String)} {r : (Int32 ⊕ String) × sS} (hf : T_X7_holds_0 v0 v1 v2 σ = some z) (k : s_K G (d + 3) M_X7_holds vs0 σ0 Y_X7_holds e_IX z r) : s_V G (d + 3) M_X7_holds vs0 σ0 Y_X7_holds (0, [.ref v0, .int v1, .int v2], σ) (e_IX r) := by
  have le0 : s_le σ (e_IX r).2 := s_lek hem_IX (l_X7_holds_0 hf) k
  refine ⟨le0, ?_⟩
  intro p e s m below meth c H locs cells slots ls X I hn1 hn2 hl
  have hn : cells + σ0.2.1 ≤ σ.2.1 ∧ slots + σ0.2.2.1 ≤ σ.2.2.1 := ⟨hn1, hn2⟩
  have hl : lv_has ls 3 [(0, .ref v0), (1, .int v1), (2, .int v2)] := hl
  have hx := X.1
  have hb : c.code = cX7_holds := X.2.1
  have hown : s.vm.findClass RX7 = some m.cls := X.2.2.2.2.2.1
  have hts := X.2.2.2.2.2.2.1
  refine W.eq (g2 := F0 m 0 ls []) rfl ?_
  unfold T_X7_holds_0 at hf
  obtain ⟨q1, h1, hf⟩ := s_bind hf
  refine lv_aload_n hx hb dX7_holds_0 rfl (lv_at hl 0 rfl) ?_
  refine lv_iload_n hx hb dX7_holds_1 rfl (lv_at hl 1 rfl) ?_
  rcases s_sum_some hf with ⟨x2, hq2, hf⟩ | ⟨E3, hq2, hf⟩
  · have le3 : s_le q1.2 (e_IX r).2 := by
      refine s_lek hem_IX ?_ k
      obtain ⟨q4, hh, hf⟩ := s_bind hf
      refine s_lz.tr (l_X7_needWorld hh) ?_
      rcases s_sum_some hf with ⟨x5, -, hf⟩ | ⟨E6, -, hf⟩
      · obtain ⟨x7, -, hf⟩ := s_bind hf
        obtain ⟨q8, hh, hf⟩ := s_bind hf
        refine s_lz.tr (l_X1_isTrue hh) ?_
        rcases s_ite hf with ⟨-, hf⟩ | ⟨-, hf⟩
        · cases hf
          exact s_le.rf
        · cases hf
      · cases hf
        exact s_le.rf
    refine r_callV (Y := M_X7_needFormula) (v := none) X I w_1016 my_X7_needFormula (by omega) (t_X7_needFormula (G := G) (d := d + 1) h1) (b_X7_needFormula h1) (e_VX_l hq2) rfl hl.1 rfl (Nat.le_of_ble_eq_true rfl) hn le3 dX7_holds_2 (fun H locs cells slots I hn1 hn2 => ?_)
    have I : s_I G q1.2 s H locs := I
    have hn : cells + σ0.2.1 ≤ q1.2.2.1 ∧ slots + σ0.2.2.1 ≤ q1.2.2.2.1 := ⟨hn1, hn2⟩
    obtain ⟨q4, h4, hf⟩ := s_bind hf
    refine lv_aload_n hx hb dX7_holds_5 rfl (lv_at hl 0 rfl) ?_
    refine lv_iload_n hx hb dX7_holds_6 rfl (lv_at hl 2 rfl) ?_
    rcases s_sum_some hf with ⟨x5, hq5, hf⟩ | ⟨E6, hq5, hf⟩
    · have le6 : s_le q4.2 (e_IX r).2 := by
        refine s_lek hem_IX ?_ k
        obtain ⟨x7, -, hf⟩ := s_bind hf
        obtain ⟨q8, hh, hf⟩ := s_bind hf
        refine s_lz.tr (l_X1_isTrue hh) ?_
        rcases s_ite hf with ⟨-, hf⟩ | ⟨-, hf⟩
        · cases hf
          exact s_le.rf
        · cases hf
      refine r_callV (Y := M_X7_needWorld) (v := none) X I w_1052 my_X7_needWorld (by omega) (t_X7_needWorld (G := G) (d := d + 0) h4) (b_X7_needWorld h4) (e_VX_l hq5) rfl hl.1 rfl (Nat.le_of_ble_eq_true rfl) hn le6 dX7_holds_7 (fun H locs cells slots I hn1 hn2 => ?_)
      have I : s_I G q4.2 s H locs := I
      have hn : cells + σ0.2.1 ≤ q4.2.2.1 ∧ slots + σ0.2.2.1 ≤ q4.2.2.2.1 := ⟨hn1, hn2⟩
      obtain ⟨x7, h7, hf⟩ := s_bind hf
      obtain ⟨q8, h8, hf⟩ := s_bind hf
      have le9 : s_le q8.2 (e_IX r).2 := by
        refine s_lek hem_IX ?_ k
        rcases s_ite hf with ⟨-, hf⟩ | ⟨-, hf⟩
        · cases hf
          exact s_le.rf
        · cases hf
      refine lv_aload_n hx hb dX7_holds_10 rfl (lv_at hl 0 rfl) ?_
      refine r_gr X I fl_X7_19 h7 dX7_holds_11 ?_
      refine lv_iload_n hx hb dX7_holds_14 rfl (lv_at hl 1 rfl) ?_
      refine lv_iload_n hx hb dX7_holds_15 rfl (lv_at hl 2 rfl) ?_
      refine r_callV (Y := M_X1_isTrue) (v := some (.int q8.1)) X I w_1058 my_X1_isTrue (by omega) (t_X1_isTrue (G := G) (d := d + 0) h8) (b_X1_isTrue h8) rfl rfl hl.1 rfl (Nat.le_of_ble_eq_true rfl) hn le9 dX7_holds_16 (fun H locs cells slots I hn1 hn2 => ?_)
      have I : s_I G q8.2 s H locs := I
      have hn : cells + σ0.2.1 ≤ q8.2.2.1 ∧ slots + σ0.2.2.1 ≤ q8.2.2.2.1 := ⟨hn1, hn2⟩
      rcases s_ite hf with ⟨hchk, hf⟩ | ⟨-, hf⟩
      · cases hf
        have k : _ = r := k
        subst k
        exact r_iret X I rfl (s_nb hchk) rfl hn dX7_holds_19
      · cases hf
    · cases hf
      have k : _ = r := k
      subst k
      exact r_callVx (Y := M_X7_needWorld) X I rfl w_1052 my_X7_needWorld (by omega) (t_X7_needWorld (G := G) (d := d + 0) h4) (b_X7_needWorld h4) (e_VX_r hq5) rfl hl.1 rfl (Nat.le_of_ble_eq_true rfl) hn rfl dX7_holds_7
  · cases hf
    have k : _ = r := k
    subst k
    exact r_callVx (Y := M_X7_needFormula) X I rfl w_1016 my_X7_needFormula (by omega) (t_X7_needFormula (G := G) (d := d + 1) h1) (b_X7_needFormula h1) (e_VX_r hq2) rfl hl.1 rfl (Nat.le_of_ble_eq_true rfl) hn rfl dX7_holds_2
theorem v_X7_holds {G : sG} {d : Nat} {vs0 : List Value} {σ0 : sS} {x : sL} {z : sZ (Int32 ⊕ String)} {r : (Int32 ⊕ String) × sS} (hs : S_X7_holds x = some z) (k : s_K G (d + 3) M_X7_holds vs0 σ0 Y_X7_holds e_IX z r) : s_V G (d + 3) M_X7_holds vs0 σ0 Y_X7_holds x (e_IX r) := by
  obtain ⟨pc, vs, σ⟩ := x
  unfold S_X7_holds at hs
  dsimp only at hs
  rcases s_ite hs with ⟨c, hs⟩ | ⟨-, hs⟩
  · subst c
    unfold U_X7_holds_0 at hs
    obtain ⟨a0, g0, hs⟩ := s_bind hs
    obtain ⟨a1, g1, hs⟩ := s_bind hs
    obtain ⟨a2, g2, hs⟩ := s_bind hs
    obtain ⟨u9, ge, hs⟩ := s_bind hs
    rw [g_r_to g0, g_i_to g1, g_i_to g2, g_e_to ge]
    exact v_X7_holds_0 hs k
  cases hs
theorem t_X7_holds {G : sG} {d : Nat} {v0 : Nat} {v1 : Int32} {v2 : Int32} {σ : sS} {q : (Int32 ⊕ String) × sS} (h : F_X7_holds v0 v1 v2 σ = some q) : s_T G (d + 3) M_X7_holds [.ref v0, .int v1, .int v2] σ (e_IX q) := by
  unfold F_X7_holds at h
  obtain ⟨-, -, h⟩ := s_bind h
  exact s_ofV rfl (by decide) (Nat.le_of_ble_eq_true rfl) rfl rfl (s_run_ind (V := fun x r => s_V G (d + 3) M_X7_holds [.ref v0, .int v1, .int v2] σ Y_X7_holds x (e_IX r)) (fun x z r hs hk => v_X7_holds hs (by cases z <;> exact hk)) h)
/-! L_holds -/
noncomputable def T_L_holds_0 (v0 : Nat) (v1 : Int32) (v2 : Int32) (v3 : Nat) (σ : sS) : Option (sZ Int32) :=
  (F_X7_holds v0 v1 v2 σ).bind fun q1 => s_sum q1.1 (fun x2 => if x2 = 0 then (some (.inl (16, [.long 0, .int 0, .ref v3], q1.2)))
  else (some (.inl (16, [.long 1, .int 0, .ref v3], q1.2)))) (fun E3 => if E3 = "java/lang/IndexOutOfBoundsException" then (some (.inr (1, q1.2))) else if E3 = "java/lang/IllegalArgumentException" then (some (.inr (2, q1.2))) else none)
noncomputable def U_L_holds_0 (vs : List Value) (σ : sS) : Option (sZ Int32) := (g_r vs).bind fun a0 => (g_i a0.2).bind fun a1 => (g_i a1.2).bind fun a2 => (g_r a2.2).bind fun a3 => (g_e a3.2).bind fun _ => T_L_holds_0 a0.1 a1.1 a2.1 a3.1 σ
noncomputable def T_L_holds_16 (w0 : Int64) (w1 : Int32) (w2 : Nat) (σ : sS) : Option (sZ Int32) :=
  (s_sl σ w2 w1 w0).bind fun σ1 =>
  some (.inr (0, σ1))
noncomputable def U_L_holds_16 (vs : List Value) (σ : sS) : Option (sZ Int32) := (g_l vs).bind fun a0 => (g_i a0.2).bind fun a1 => (g_r a1.2).bind fun a2 => (g_e a2.2).bind fun _ => T_L_holds_16 a0.1 a1.1 a2.1 σ
noncomputable def S_L_holds (x : sL) : Option (sZ Int32) := if x.1 = 0 then U_L_holds_0 x.2.1 x.2.2 else if x.1 = 16 then U_L_holds_16 x.2.1 x.2.2 else none
def Y_L_holds (pc : Nat) : List Nat := if pc = 0 then [0, 1, 2, 3] else if pc = 16 then [] else []
noncomputable def F_L_holds (v0 : Nat) (v1 : Int32) (v2 : Int32) (v3 : Nat) (σ : sS) : Option (Int32 × sS) := s_run S_L_holds (0, [.ref v0, .int v1, .int v2, .ref v3], σ)
theorem hp_L_holds_5_1 : s_pass RL "java/lang/IllegalArgumentException" 5 [(0, 17, 20, 27)] := fun z hz => by
  simp only [List.mem_cons, List.not_mem_nil, or_false] at hz
  rcases hz with rfl
  · exact ⟨rfl, by decide, "java/lang/IndexOutOfBoundsException", w_1011, by decide +kernel⟩
theorem l_L_holds_0 {v0 : Nat} {v1 : Int32} {v2 : Int32} {v3 : Nat} {σ : sS} {z : sZ Int32} (hf : T_L_holds_0 v0 v1 v2 v3 σ = some z) : s_lz σ z := by
  unfold T_L_holds_0 at hf
  obtain ⟨q1, hh, hf⟩ := s_bind hf
  refine s_lz.tr (l_X7_holds hh) ?_
  rcases s_sum_some hf with ⟨x2, -, hf⟩ | ⟨E3, -, hf⟩
  · rcases s_ite hf with ⟨-, hf⟩ | ⟨-, hf⟩
    · cases hf
      exact s_le.rf
    · cases hf
      exact s_le.rf
  · rcases s_ite hf with ⟨-, hf⟩ | ⟨-, hf⟩
    · cases hf
      exact s_le.rf
    rcases s_ite hf with ⟨-, hf⟩ | ⟨-, hf⟩
    · cases hf
      exact s_le.rf
    cases hf
theorem l_L_holds_16 {w0 : Int64} {w1 : Int32} {w2 : Nat} {σ : sS} {z : sZ Int32} (hf : T_L_holds_16 w0 w1 w2 σ = some z) : s_lz σ z := by
  unfold T_L_holds_16 at hf
  obtain ⟨σ1, hh, hf⟩ := s_bind hf
  refine s_lz.tr (s_le2 (s_sl_2 hh)) ?_
  cases hf
  exact s_le.rf
theorem l_L_holds_s {x : sL} {z : sZ Int32} (hs : S_L_holds x = some z) : s_lz x.2.2 z := by
  obtain ⟨pc, vs, σ⟩ := x
  unfold S_L_holds at hs
  dsimp only at hs ⊢
  rcases s_ite hs with ⟨c, hs⟩ | ⟨-, hs⟩
  · subst c
    unfold U_L_holds_0 at hs
    obtain ⟨a0, g0, hs⟩ := s_bind hs
    obtain ⟨a1, g1, hs⟩ := s_bind hs
    obtain ⟨a2, g2, hs⟩ := s_bind hs
    obtain ⟨a3, g3, hs⟩ := s_bind hs
    obtain ⟨u9, ge, hs⟩ := s_bind hs
    exact l_L_holds_0 hs
  rcases s_ite hs with ⟨c, hs⟩ | ⟨-, hs⟩
  · subst c
    unfold U_L_holds_16 at hs
    obtain ⟨a0, g0, hs⟩ := s_bind hs
    obtain ⟨a1, g1, hs⟩ := s_bind hs
    obtain ⟨a2, g2, hs⟩ := s_bind hs
    obtain ⟨u9, ge, hs⟩ := s_bind hs
    exact l_L_holds_16 hs
  cases hs
theorem l_L_holds {v0 : Nat} {v1 : Int32} {v2 : Int32} {v3 : Nat} {σ : sS} {q : Int32 × sS} (h : F_L_holds v0 v1 v2 v3 σ = some q) : s_le σ q.2 := by
  unfold F_L_holds at h
  exact s_run_ind (V := fun x r => s_le x.2.2 r.2) (fun x z r hs hk => by
    have h9 := l_L_holds_s hs
    cases z with
    | inl y => exact s_le.tr h9 hk
    | inr q => cases hk; exact h9) h
set_option maxRecDepth 100000 in
set_option maxHeartbeats 4000000 in
theorem v_L_holds_0 {G : sG} {d : Nat} {vs0 : List Value} {σ0 : sS} {v0 : Nat} {v1 : Int32} {v2 : Int32} {v3 : Nat} {σ : sS} {z : sZ Int32} {r : Int32 × sS} (hf : T_L_holds_0 v0 v1 v2 v3 σ = some z) (k : s_K G (d + 4) M_L_holds vs0 σ0 Y_L_holds e_I z r) : s_V G (d + 4) M_L_holds vs0 σ0 Y_L_holds (0, [.ref v0, .int v1, .int v2, .ref v3], σ) (e_I r) := by
  have le0 : s_le σ (e_I r).2 := s_lek hem_I (l_L_holds_0 hf) k
  refine ⟨le0, ?_⟩
  intro p e s m below meth c H locs cells slots ls X I hn1 hn2 hl
  have hn : cells + σ0.2.1 ≤ σ.2.1 ∧ slots + σ0.2.2.1 ≤ σ.2.2.1 := ⟨hn1, hn2⟩
  have hl : lv_has ls 5 [(0, .ref v0), (1, .int v1), (2, .int v2), (3, .ref v3)] := hl
  have hx := X.1
  have hb : c.code = cL_holds := X.2.1
  have hown : s.vm.findClass RL = some m.cls := X.2.2.2.2.2.1
  have hts := X.2.2.2.2.2.2.1
  refine W.eq (g2 := F0 m 0 ls []) rfl ?_
  unfold T_L_holds_0 at hf
  obtain ⟨q1, h1, hf⟩ := s_bind hf
  refine lv_aload_n hx hb dL_holds_0 rfl (lv_at hl 3 rfl) ?_
  refine lv_iconst (v := 0) hx hb dL_holds_1 (by decide) ?_
  refine lv_aload_n hx hb dL_holds_2 rfl (lv_at hl 0 rfl) ?_
  refine lv_iload_n hx hb dL_holds_3 rfl (lv_at hl 1 rfl) ?_
  refine lv_iload_n hx hb dL_holds_4 rfl (lv_at hl 2 rfl) ?_
  rcases s_sum_some hf with ⟨x2, hq2, hf⟩ | ⟨E3, hq2, hf⟩
  · have le3 : s_le q1.2 (e_I r).2 := by
      refine s_lek hem_I ?_ k
      rcases s_ite hf with ⟨-, hf⟩ | ⟨-, hf⟩
      · cases hf
        exact s_le.rf
      · cases hf
        exact s_le.rf
    refine r_callV (Y := M_X7_holds) (v := some (.int x2)) X I w_1048 my_X7_holds (by omega) (t_X7_holds (G := G) (d := d + 0) h1) (b_X7_holds h1) (e_IX_l hq2) rfl hl.1 rfl (Nat.le_of_ble_eq_true rfl) hn le3 dL_holds_5 (fun H locs cells slots I hn1 hn2 => ?_)
    have I : s_I G q1.2 s H locs := I
    have hn : cells + σ0.2.1 ≤ q1.2.2.1 ∧ slots + σ0.2.2.1 ≤ q1.2.2.2.1 := ⟨hn1, hn2⟩
    rcases s_ite hf with ⟨c4, hf⟩ | ⟨c4, hf⟩
    · refine lv_if_eq (tgt := 15) hx hb dL_holds_8 (by decide) (fun _ => ?_) (fun n => absurd c4 n)
      cases hf
      have k : s_V G (d + 4) M_L_holds vs0 σ0 Y_L_holds (16, [.long 0, .int 0, .ref v3], q1.2) (e_I r) := k
      refine lv_lconst (v := 0) hx hb dL_holds_15 (by decide) ?_
      exact k.2 p e s m below meth c _ _ _ _ _ X I hn.1 hn.2 (lv_sub hl [] rfl)
    · refine lv_if_eq (tgt := 15) hx hb dL_holds_8 (by decide) (fun n => absurd n c4) (fun _ => ?_)
      cases hf
      have k : s_V G (d + 4) M_L_holds vs0 σ0 Y_L_holds (16, [.long 1, .int 0, .ref v3], q1.2) (e_I r) := k
      refine lv_lconst (v := 1) hx hb dL_holds_11 (by decide) ?_
      refine lv_goto (tgt := 16) hx hb dL_holds_12 (by decide) ?_
      exact k.2 p e s m below meth c _ _ _ _ _ X I hn.1 hn.2 (lv_sub hl [] rfl)
  · rcases s_ite hf with ⟨c5, hf⟩ | ⟨c5, hf⟩
    · subst c5
      have le6 : s_le q1.2 (e_I r).2 := by
        refine s_lek hem_I ?_ k
        cases hf
        exact s_le.rf
      refine r_callVh (x := (0, 17, 20, 27)) (Y := M_X7_holds) (E := "java/lang/IndexOutOfBoundsException") (name := "java/lang/IndexOutOfBoundsException") X I [] [(0, 17, 24, 13)] rfl (fun z hz => by cases hz) rfl (by decide) w_1011 (by decide +kernel) w_1048 my_X7_holds (by omega) (t_X7_holds (G := G) (d := d + 0) h1) (b_X7_holds h1) (e_IX_r hq2) rfl hl.1 rfl (Nat.le_of_ble_eq_true rfl) hn le6 dL_holds_5 (fun a4 H locs cells slots I hn1 hn2 => ?_)
      have I : s_I G q1.2 s H locs := I
      have hn : cells + σ0.2.1 ≤ q1.2.2.1 ∧ slots + σ0.2.2.1 ≤ q1.2.2.2.1 := ⟨hn1, hn2⟩
      cases hf
      have k : _ = r := k
      subst k
      refine lv_astore (lv' := [(4, .ref a4), (0, .ref v0), (1, .int v1), (2, .int v2), (3, .ref v3)]) hx hb dL_holds_20 hl (by decide) rfl (fun ls hl => ?_)
      refine lv_iconst (v := 1) hx hb dL_holds_22 (by decide) ?_
      exact r_iret X I rfl rfl rfl hn dL_holds_23
    rcases s_ite hf with ⟨c7, hf⟩ | ⟨c7, hf⟩
    · subst c7
      have le8 : s_le q1.2 (e_I r).2 := by
        refine s_lek hem_I ?_ k
        cases hf
        exact s_le.rf
      refine r_callVh (x := (0, 17, 24, 13)) (Y := M_X7_holds) (E := "java/lang/IllegalArgumentException") (name := "java/lang/IllegalArgumentException") X I [(0, 17, 20, 27)] [] rfl hp_L_holds_5_1 rfl (by decide) w_691 (by decide +kernel) w_1048 my_X7_holds (by omega) (t_X7_holds (G := G) (d := d + 0) h1) (b_X7_holds h1) (e_IX_r hq2) rfl hl.1 rfl (Nat.le_of_ble_eq_true rfl) hn le8 dL_holds_5 (fun a5 H locs cells slots I hn1 hn2 => ?_)
      have I : s_I G q1.2 s H locs := I
      have hn : cells + σ0.2.1 ≤ q1.2.2.1 ∧ slots + σ0.2.2.1 ≤ q1.2.2.2.1 := ⟨hn1, hn2⟩
      cases hf
      have k : _ = r := k
      subst k
      refine lv_astore (lv' := [(4, .ref a5), (0, .ref v0), (1, .int v1), (2, .int v2), (3, .ref v3)]) hx hb dL_holds_24 hl (by decide) rfl (fun ls hl => ?_)
      refine lv_iconst (v := 2) hx hb dL_holds_26 (by decide) ?_
      exact r_iret X I rfl rfl rfl hn dL_holds_27
    cases hf
set_option maxRecDepth 100000 in
set_option maxHeartbeats 4000000 in
theorem v_L_holds_16 {G : sG} {d : Nat} {vs0 : List Value} {σ0 : sS} {w0 : Int64} {w1 : Int32} {w2 : Nat} {σ : sS} {z : sZ Int32} {r : Int32 × sS} (hf : T_L_holds_16 w0 w1 w2 σ = some z) (k : s_K G (d + 4) M_L_holds vs0 σ0 Y_L_holds e_I z r) : s_V G (d + 4) M_L_holds vs0 σ0 Y_L_holds (16, [.long w0, .int w1, .ref w2], σ) (e_I r) := by
  have le0 : s_le σ (e_I r).2 := s_lek hem_I (l_L_holds_16 hf) k
  refine ⟨le0, ?_⟩
  intro p e s m below meth c H locs cells slots ls X I hn1 hn2 hl
  have hn : cells + σ0.2.1 ≤ σ.2.1 ∧ slots + σ0.2.2.1 ≤ σ.2.2.1 := ⟨hn1, hn2⟩
  have hl : lv_has ls 5 [] := hl
  have hx := X.1
  have hb : c.code = cL_holds := X.2.1
  have hown : s.vm.findClass RL = some m.cls := X.2.2.2.2.2.1
  have hts := X.2.2.2.2.2.2.1
  refine W.eq (g2 := F0 m 16 ls [.long w0, .int w1, .ref w2]) rfl ?_
  unfold T_L_holds_16 at hf
  obtain ⟨σ1, h1, hf⟩ := s_bind hf
  cases hf
  have k : _ = r := k
  subst k
  have le2 : s_le σ1 σ1 := s_le.rf
  refine r_last X I h1 dL_holds_16 (fun H locs I => ?_)
  have hn := s_k2 (s_sl_2 h1) hn
  refine lv_goto (tgt := 28) hx hb dL_holds_17 (by decide) ?_
  refine lv_iconst (v := 0) hx hb dL_holds_28 (by decide) ?_
  exact r_iret X I rfl rfl rfl hn dL_holds_29
theorem v_L_holds {G : sG} {d : Nat} {vs0 : List Value} {σ0 : sS} {x : sL} {z : sZ Int32} {r : Int32 × sS} (hs : S_L_holds x = some z) (k : s_K G (d + 4) M_L_holds vs0 σ0 Y_L_holds e_I z r) : s_V G (d + 4) M_L_holds vs0 σ0 Y_L_holds x (e_I r) := by
  obtain ⟨pc, vs, σ⟩ := x
  unfold S_L_holds at hs
  dsimp only at hs
  rcases s_ite hs with ⟨c, hs⟩ | ⟨-, hs⟩
  · subst c
    unfold U_L_holds_0 at hs
    obtain ⟨a0, g0, hs⟩ := s_bind hs
    obtain ⟨a1, g1, hs⟩ := s_bind hs
    obtain ⟨a2, g2, hs⟩ := s_bind hs
    obtain ⟨a3, g3, hs⟩ := s_bind hs
    obtain ⟨u9, ge, hs⟩ := s_bind hs
    rw [g_r_to g0, g_i_to g1, g_i_to g2, g_r_to g3, g_e_to ge]
    exact v_L_holds_0 hs k
  rcases s_ite hs with ⟨c, hs⟩ | ⟨-, hs⟩
  · subst c
    unfold U_L_holds_16 at hs
    obtain ⟨a0, g0, hs⟩ := s_bind hs
    obtain ⟨a1, g1, hs⟩ := s_bind hs
    obtain ⟨a2, g2, hs⟩ := s_bind hs
    obtain ⟨u9, ge, hs⟩ := s_bind hs
    rw [g_l_to g0, g_i_to g1, g_r_to g2, g_e_to ge]
    exact v_L_holds_16 hs k
  cases hs
theorem t_L_holds {G : sG} {d : Nat} {v0 : Nat} {v1 : Int32} {v2 : Int32} {v3 : Nat} {σ : sS} {q : Int32 × sS} (h : F_L_holds v0 v1 v2 v3 σ = some q) : s_T G (d + 4) M_L_holds [.ref v0, .int v1, .int v2, .ref v3] σ (e_I q) := by
  unfold F_L_holds at h
  exact s_ofVH rfl (by decide) (Nat.le_of_ble_eq_true rfl) rfl rfl (s_run_ind (V := fun x r => s_V G (d + 4) M_L_holds [.ref v0, .int v1, .int v2, .ref v3] σ Y_L_holds x (e_I r)) (fun x z r hs hk => v_L_holds hs (by cases z <;> exact hk)) h)
