/-! X8_spentBy -/
noncomputable def T_X8_spentBy_0 (v0 : Nat) (v1 : Int32) (σ : sS) : Option (sZ Int32) :=
  some (.inl (4, [.ref v0, .int v1, .int 0, .int 0], σ))
noncomputable def U_X8_spentBy_0 (vs : List Value) (σ : sS) : Option (sZ Int32) := (g_r vs).bind fun a0 => (g_i a0.2).bind fun a1 => (g_e a1.2).bind fun _ => T_X8_spentBy_0 a0.1 a1.1 σ
noncomputable def T_X8_spentBy_4 (v0 : Nat) (v1 : Int32) (v2 : Int32) (v3 : Int32) (σ : sS) : Option (sZ Int32) :=
  (F_X8_lines v0 σ).bind fun q1 =>
  if q1.1 ≤ v3 then (some (.inr (v2, q1.2)))
  else ((s_fr q1.2 v0 8 19).bind fun x2 =>
  (s_al q1.2 x2 v1).bind fun x3 =>
  if (lg_cmp ((x3 >>> ((v3 : Int32).toInt64 &&& 63)) &&& 1) 1) = 0 then ((F_X8_priceOf v0 v3 q1.2).bind fun q4 =>
  some (.inl (37, [.ref v0, .int v1, .int v3, .int q4.1, .int v2], q4.2)))
  else (some (.inl (37, [.ref v0, .int v1, .int v3, .int 0, .int v2], q1.2))))
noncomputable def U_X8_spentBy_4 (vs : List Value) (σ : sS) : Option (sZ Int32) := (g_r vs).bind fun a0 => (g_i a0.2).bind fun a1 => (g_i a1.2).bind fun a2 => (g_i a2.2).bind fun a3 => (g_e a3.2).bind fun _ => T_X8_spentBy_4 a0.1 a1.1 a2.1 a3.1 σ
noncomputable def T_X8_spentBy_37 (v0 : Nat) (v1 : Int32) (v3 : Int32) (w0 : Int32) (w1 : Int32) (σ : sS) : Option (sZ Int32) :=
  some (.inl (4, [.ref v0, .int v1, .int (w1 + w0), .int (v3 + 1)], σ))
noncomputable def U_X8_spentBy_37 (vs : List Value) (σ : sS) : Option (sZ Int32) := (g_r vs).bind fun a0 => (g_i a0.2).bind fun a1 => (g_i a1.2).bind fun a2 => (g_i a2.2).bind fun a3 => (g_i a3.2).bind fun a4 => (g_e a4.2).bind fun _ => T_X8_spentBy_37 a0.1 a1.1 a2.1 a3.1 a4.1 σ
noncomputable def S_X8_spentBy (x : sL) : Option (sZ Int32) := if x.1 = 0 then U_X8_spentBy_0 x.2.1 x.2.2 else if x.1 = 4 then U_X8_spentBy_4 x.2.1 x.2.2 else if x.1 = 37 then U_X8_spentBy_37 x.2.1 x.2.2 else none
def Y_X8_spentBy (pc : Nat) : List Nat := if pc = 0 then [0, 1] else if pc = 4 then [0, 1, 2, 3] else if pc = 37 then [0, 1, 3] else []
noncomputable def F_X8_spentBy (v0 : Nat) (v1 : Int32) (σ : sS) : Option (Int32 × sS) := (s_is σ v0 8).bind fun _ => s_run S_X8_spentBy (0, [.ref v0, .int v1], σ)
theorem l_X8_spentBy_0 {v0 : Nat} {v1 : Int32} {σ : sS} {z : sZ Int32} (hf : T_X8_spentBy_0 v0 v1 σ = some z) : s_lz σ z := by
  unfold T_X8_spentBy_0 at hf
  cases hf
  exact s_le.rf
theorem l_X8_spentBy_4 {v0 : Nat} {v1 : Int32} {v2 : Int32} {v3 : Int32} {σ : sS} {z : sZ Int32} (hf : T_X8_spentBy_4 v0 v1 v2 v3 σ = some z) : s_lz σ z := by
  unfold T_X8_spentBy_4 at hf
  obtain ⟨q1, hh, hf⟩ := s_bind hf
  refine s_lz.tr (l_X8_lines hh) ?_
  rcases s_ite hf with ⟨-, hf⟩ | ⟨-, hf⟩
  · cases hf
    exact s_le.rf
  · obtain ⟨x2, -, hf⟩ := s_bind hf
    obtain ⟨x3, -, hf⟩ := s_bind hf
    rcases s_ite hf with ⟨-, hf⟩ | ⟨-, hf⟩
    · obtain ⟨q4, hh, hf⟩ := s_bind hf
      refine s_lz.tr (l_X8_priceOf hh) ?_
      cases hf
      exact s_le.rf
    · cases hf
      exact s_le.rf
theorem l_X8_spentBy_37 {v0 : Nat} {v1 : Int32} {v3 : Int32} {w0 : Int32} {w1 : Int32} {σ : sS} {z : sZ Int32} (hf : T_X8_spentBy_37 v0 v1 v3 w0 w1 σ = some z) : s_lz σ z := by
  unfold T_X8_spentBy_37 at hf
  cases hf
  exact s_le.rf
theorem l_X8_spentBy_s {x : sL} {z : sZ Int32} (hs : S_X8_spentBy x = some z) : s_lz x.2.2 z := by
  obtain ⟨pc, vs, σ⟩ := x
  unfold S_X8_spentBy at hs
  dsimp only at hs ⊢
  rcases s_ite hs with ⟨c, hs⟩ | ⟨-, hs⟩
  · subst c
    unfold U_X8_spentBy_0 at hs
    obtain ⟨a0, g0, hs⟩ := s_bind hs
    obtain ⟨a1, g1, hs⟩ := s_bind hs
    obtain ⟨u9, ge, hs⟩ := s_bind hs
    exact l_X8_spentBy_0 hs
  rcases s_ite hs with ⟨c, hs⟩ | ⟨-, hs⟩
  · subst c
    unfold U_X8_spentBy_4 at hs
    obtain ⟨a0, g0, hs⟩ := s_bind hs
    obtain ⟨a1, g1, hs⟩ := s_bind hs
    obtain ⟨a2, g2, hs⟩ := s_bind hs
    obtain ⟨a3, g3, hs⟩ := s_bind hs
    obtain ⟨u9, ge, hs⟩ := s_bind hs
    exact l_X8_spentBy_4 hs
  rcases s_ite hs with ⟨c, hs⟩ | ⟨-, hs⟩
  · subst c
    unfold U_X8_spentBy_37 at hs
    obtain ⟨a0, g0, hs⟩ := s_bind hs
    obtain ⟨a1, g1, hs⟩ := s_bind hs
    obtain ⟨a2, g2, hs⟩ := s_bind hs
    obtain ⟨a3, g3, hs⟩ := s_bind hs
    obtain ⟨a4, g4, hs⟩ := s_bind hs
    obtain ⟨u9, ge, hs⟩ := s_bind hs
    exact l_X8_spentBy_37 hs
  cases hs
theorem l_X8_spentBy {v0 : Nat} {v1 : Int32} {σ : sS} {q : Int32 × sS} (h : F_X8_spentBy v0 v1 σ = some q) : s_le σ q.2 := by
  unfold F_X8_spentBy at h
  obtain ⟨-, -, h⟩ := s_bind h
  exact s_run_ind (V := fun x r => s_le x.2.2 r.2) (fun x z r hs hk => by
    have h9 := l_X8_spentBy_s hs
    cases z with
    | inl y => exact s_le.tr h9 hk
    | inr q => cases hk; exact h9) h
theorem b_X8_spentBy {v0 : Nat} {v1 : Int32} {σ : sS} {q : Int32 × sS} (h : F_X8_spentBy v0 v1 σ = some q) : ∃ fs, σ.1 v0 = some (.inr (8, fs)) := by
  unfold F_X8_spentBy at h
  obtain ⟨u, hu, -⟩ := s_bind h
  exact s_is_to hu
set_option maxRecDepth 100000 in
set_option maxHeartbeats 4000000 in
theorem v_X8_spentBy_0 {G : sG} {d : Nat} {vs0 : List Value} {σ0 : sS} {v0 : Nat} {v1 : Int32} {σ : sS} {z : sZ Int32} {r : Int32 × sS} (hf : T_X8_spentBy_0 v0 v1 σ = some z) (k : s_K G (d + 3) M_X8_spentBy vs0 σ0 Y_X8_spentBy e_I z r) : s_V G (d + 3) M_X8_spentBy vs0 σ0 Y_X8_spentBy (0, [.ref v0, .int v1], σ) (e_I r) := by
  have le0 : s_le σ (e_I r).2 := s_lek hem_I (l_X8_spentBy_0 hf) k
  refine ⟨le0, ?_⟩
  intro p e s m below meth c H locs cells slots ls X I hn1 hn2 hl
  have hn : cells + σ0.2.1 ≤ σ.2.1 ∧ slots + σ0.2.2.1 ≤ σ.2.2.1 := ⟨hn1, hn2⟩
  have hl : lv_has ls 4 [(0, .ref v0), (1, .int v1)] := hl
  have hx := X.1
  have hb : c.code = cX8_spentBy := X.2.1
  have hown : s.vm.findClass RX8 = some m.cls := X.2.2.2.2.2.1
  have hts := X.2.2.2.2.2.2.1
  refine W.eq (g2 := F0 m 0 ls []) rfl ?_
  unfold T_X8_spentBy_0 at hf
  cases hf
  have k : s_V G (d + 3) M_X8_spentBy vs0 σ0 Y_X8_spentBy (4, [.ref v0, .int v1, .int 0, .int 0], σ) (e_I r) := k
  refine lv_iconst (v := 0) hx hb dX8_spentBy_0 (by decide) ?_
  refine lv_istore_n (lv' := [(2, .int 0), (0, .ref v0), (1, .int v1)]) hx hb dX8_spentBy_1 rfl hl (by decide) rfl (fun ls hl => ?_)
  refine lv_iconst (v := 0) hx hb dX8_spentBy_2 (by decide) ?_
  refine lv_istore_n (lv' := [(3, .int 0), (2, .int 0), (0, .ref v0), (1, .int v1)]) hx hb dX8_spentBy_3 rfl hl (by decide) rfl (fun ls hl => ?_)
  exact k.2 p e s m below meth c _ _ _ _ _ X I hn.1 hn.2 (lv_sub hl [2, 3, 1, 0] rfl)
set_option maxRecDepth 100000 in
set_option maxHeartbeats 4000000 in
theorem v_X8_spentBy_4 {G : sG} {d : Nat} {vs0 : List Value} {σ0 : sS} {v0 : Nat} {v1 : Int32} {v2 : Int32} {v3 : Int32} {σ : sS} {z : sZ Int32} {r : Int32 × sS} (hf : T_X8_spentBy_4 v0 v1 v2 v3 σ = some z) (k : s_K G (d + 3) M_X8_spentBy vs0 σ0 Y_X8_spentBy e_I z r) : s_V G (d + 3) M_X8_spentBy vs0 σ0 Y_X8_spentBy (4, [.ref v0, .int v1, .int v2, .int v3], σ) (e_I r) := by
  have le0 : s_le σ (e_I r).2 := s_lek hem_I (l_X8_spentBy_4 hf) k
  refine ⟨le0, ?_⟩
  intro p e s m below meth c H locs cells slots ls X I hn1 hn2 hl
  have hn : cells + σ0.2.1 ≤ σ.2.1 ∧ slots + σ0.2.2.1 ≤ σ.2.2.1 := ⟨hn1, hn2⟩
  have hl : lv_has ls 4 [(0, .ref v0), (1, .int v1), (2, .int v2), (3, .int v3)] := hl
  have hx := X.1
  have hb : c.code = cX8_spentBy := X.2.1
  have hown : s.vm.findClass RX8 = some m.cls := X.2.2.2.2.2.1
  have hts := X.2.2.2.2.2.2.1
  refine W.eq (g2 := F0 m 4 ls []) rfl ?_
  unfold T_X8_spentBy_4 at hf
  obtain ⟨q1, h1, hf⟩ := s_bind hf
  have le2 : s_le q1.2 (e_I r).2 := by
    refine s_lek hem_I ?_ k
    rcases s_ite hf with ⟨-, hf⟩ | ⟨-, hf⟩
    · cases hf
      exact s_le.rf
    · obtain ⟨x2, -, hf⟩ := s_bind hf
      obtain ⟨x3, -, hf⟩ := s_bind hf
      rcases s_ite hf with ⟨-, hf⟩ | ⟨-, hf⟩
      · obtain ⟨q4, hh, hf⟩ := s_bind hf
        refine s_lz.tr (l_X8_priceOf hh) ?_
        cases hf
        exact s_le.rf
      · cases hf
        exact s_le.rf
  refine lv_iload_n hx hb dX8_spentBy_4 rfl (lv_at hl 3 rfl) ?_
  refine lv_aload_n hx hb dX8_spentBy_5 rfl (lv_at hl 0 rfl) ?_
  refine r_callV (Y := M_X8_lines) (v := some (.int q1.1)) X I w_2003 my_X8_lines (by omega) (t_X8_lines (G := G) (d := d + 1) h1) (b_X8_lines h1) rfl rfl hl.1 rfl (Nat.le_of_ble_eq_true rfl) hn le2 dX8_spentBy_6 (fun H locs cells slots I hn1 hn2 => ?_)
  have I : s_I G q1.2 s H locs := I
  have hn : cells + σ0.2.1 ≤ q1.2.2.1 ∧ slots + σ0.2.2.1 ≤ q1.2.2.2.1 := ⟨hn1, hn2⟩
  rcases s_ite hf with ⟨c3, hf⟩ | ⟨c3, hf⟩
  · refine lv_icmp_ge (tgt := 45) hx hb dX8_spentBy_9 (by decide) (fun _ => ?_) (fun n => absurd c3 n)
    cases hf
    have k : _ = r := k
    subst k
    refine lv_iload_n hx hb dX8_spentBy_45 rfl (lv_at hl 2 rfl) ?_
    exact r_iret X I rfl rfl rfl hn dX8_spentBy_46
  · refine lv_icmp_ge (tgt := 45) hx hb dX8_spentBy_9 (by decide) (fun n => absurd n c3) (fun _ => ?_)
    obtain ⟨x2, h4, hf⟩ := s_bind hf
    obtain ⟨x3, h5, hf⟩ := s_bind hf
    refine lv_iload_n hx hb dX8_spentBy_12 rfl (lv_at hl 2 rfl) ?_
    refine lv_aload_n hx hb dX8_spentBy_13 rfl (lv_at hl 0 rfl) ?_
    refine r_gr X I fl_X8_47 h4 dX8_spentBy_14 ?_
    refine lv_iload_n hx hb dX8_spentBy_17 rfl (lv_at hl 1 rfl) ?_
    refine r_lald X I h5 dX8_spentBy_18 ?_
    refine lv_iload_n hx hb dX8_spentBy_19 rfl (lv_at hl 3 rfl) ?_
    refine lv_lshr hx hb dX8_spentBy_20 rfl ?_
    refine lv_lconst (v := 1) hx hb dX8_spentBy_21 (by decide) ?_
    refine lv_land hx hb dX8_spentBy_22 ?_
    refine lv_lconst (v := 1) hx hb dX8_spentBy_23 (by decide) ?_
    refine W.lcmp hx hb dX8_spentBy_24 ?_
    rcases s_ite hf with ⟨c6, hf⟩ | ⟨c6, hf⟩
    · refine lv_if_ne (tgt := 36) hx hb dX8_spentBy_25 (by decide) (fun n => absurd c6 n) (fun _ => ?_)
      obtain ⟨q4, h7, hf⟩ := s_bind hf
      cases hf
      have k : s_V G (d + 3) M_X8_spentBy vs0 σ0 Y_X8_spentBy (37, [.ref v0, .int v1, .int v3, .int q4.1, .int v2], q4.2) (e_I r) := k
      have le8 : s_le q4.2 (e_I r).2 := k.1
      refine lv_aload_n hx hb dX8_spentBy_28 rfl (lv_at hl 0 rfl) ?_
      refine lv_iload_n hx hb dX8_spentBy_29 rfl (lv_at hl 3 rfl) ?_
      refine r_callV (Y := M_X8_priceOf) (v := some (.int q4.1)) X I w_2011 my_X8_priceOf (by omega) (t_X8_priceOf (G := G) (d := d + 0) h7) (b_X8_priceOf h7) rfl rfl hl.1 rfl (Nat.le_of_ble_eq_true rfl) hn le8 dX8_spentBy_30 (fun H locs cells slots I hn1 hn2 => ?_)
      have I : s_I G q4.2 s H locs := I
      have hn : cells + σ0.2.1 ≤ q4.2.2.1 ∧ slots + σ0.2.2.1 ≤ q4.2.2.2.1 := ⟨hn1, hn2⟩
      refine lv_goto (tgt := 37) hx hb dX8_spentBy_33 (by decide) ?_
      exact k.2 p e s m below meth c _ _ _ _ _ X I hn.1 hn.2 (lv_sub hl [0, 1, 3] rfl)
    · refine lv_if_ne (tgt := 36) hx hb dX8_spentBy_25 (by decide) (fun _ => ?_) (fun n => absurd n c6)
      cases hf
      have k : s_V G (d + 3) M_X8_spentBy vs0 σ0 Y_X8_spentBy (37, [.ref v0, .int v1, .int v3, .int 0, .int v2], q1.2) (e_I r) := k
      refine lv_iconst (v := 0) hx hb dX8_spentBy_36 (by decide) ?_
      exact k.2 p e s m below meth c _ _ _ _ _ X I hn.1 hn.2 (lv_sub hl [0, 1, 3] rfl)
set_option maxRecDepth 100000 in
set_option maxHeartbeats 4000000 in
theorem v_X8_spentBy_37 {G : sG} {d : Nat} {vs0 : List Value} {σ0 : sS} {v0 : Nat} {v1 : Int32} {v3 : Int32} {w0 : Int32} {w1 : Int32} {σ : sS} {z : sZ Int32} {r : Int32 × sS} (hf : T_X8_spentBy_37 v0 v1 v3 w0 w1 σ = some z) (k : s_K G (d + 3) M_X8_spentBy vs0 σ0 Y_X8_spentBy e_I z r) : s_V G (d + 3) M_X8_spentBy vs0 σ0 Y_X8_spentBy (37, [.ref v0, .int v1, .int v3, .int w0, .int w1], σ) (e_I r) := by
  have le0 : s_le σ (e_I r).2 := s_lek hem_I (l_X8_spentBy_37 hf) k
  refine ⟨le0, ?_⟩
  intro p e s m below meth c H locs cells slots ls X I hn1 hn2 hl
  have hn : cells + σ0.2.1 ≤ σ.2.1 ∧ slots + σ0.2.2.1 ≤ σ.2.2.1 := ⟨hn1, hn2⟩
  have hl : lv_has ls 4 [(0, .ref v0), (1, .int v1), (3, .int v3)] := hl
  have hx := X.1
  have hb : c.code = cX8_spentBy := X.2.1
  have hown : s.vm.findClass RX8 = some m.cls := X.2.2.2.2.2.1
  have hts := X.2.2.2.2.2.2.1
  refine W.eq (g2 := F0 m 37 ls [.int w0, .int w1]) rfl ?_
  unfold T_X8_spentBy_37 at hf
  cases hf
  have k : s_V G (d + 3) M_X8_spentBy vs0 σ0 Y_X8_spentBy (4, [.ref v0, .int v1, .int (w1 + w0), .int (v3 + 1)], σ) (e_I r) := k
  refine lv_iadd hx hb dX8_spentBy_37 ?_
  refine lv_istore_n (lv' := [(2, .int (w1 + w0)), (0, .ref v0), (1, .int v1), (3, .int v3)]) hx hb dX8_spentBy_38 rfl hl (by decide) rfl (fun ls hl => ?_)
  refine lv_iinc (v := (v3 + 1)) (lv' := [(3, .int (v3 + 1)), (2, .int (w1 + w0)), (0, .ref v0), (1, .int v1)]) hx hb dX8_spentBy_39 hl (k := 3) rfl rfl (by decide) rfl (fun ls hl => ?_)
  refine lv_goto (tgt := 4) hx hb dX8_spentBy_42 (by decide) ?_
  exact k.2 p e s m below meth c _ _ _ _ _ X I hn.1 hn.2 (lv_sub hl [2, 3, 1, 0] rfl)
theorem v_X8_spentBy {G : sG} {d : Nat} {vs0 : List Value} {σ0 : sS} {x : sL} {z : sZ Int32} {r : Int32 × sS} (hs : S_X8_spentBy x = some z) (k : s_K G (d + 3) M_X8_spentBy vs0 σ0 Y_X8_spentBy e_I z r) : s_V G (d + 3) M_X8_spentBy vs0 σ0 Y_X8_spentBy x (e_I r) := by
  obtain ⟨pc, vs, σ⟩ := x
  unfold S_X8_spentBy at hs
  dsimp only at hs
  rcases s_ite hs with ⟨c, hs⟩ | ⟨-, hs⟩
  · subst c
    unfold U_X8_spentBy_0 at hs
    obtain ⟨a0, g0, hs⟩ := s_bind hs
    obtain ⟨a1, g1, hs⟩ := s_bind hs
    obtain ⟨u9, ge, hs⟩ := s_bind hs
    rw [g_r_to g0, g_i_to g1, g_e_to ge]
    exact v_X8_spentBy_0 hs k
  rcases s_ite hs with ⟨c, hs⟩ | ⟨-, hs⟩
  · subst c
    unfold U_X8_spentBy_4 at hs
    obtain ⟨a0, g0, hs⟩ := s_bind hs
    obtain ⟨a1, g1, hs⟩ := s_bind hs
    obtain ⟨a2, g2, hs⟩ := s_bind hs
    obtain ⟨a3, g3, hs⟩ := s_bind hs
    obtain ⟨u9, ge, hs⟩ := s_bind hs
    rw [g_r_to g0, g_i_to g1, g_i_to g2, g_i_to g3, g_e_to ge]
    exact v_X8_spentBy_4 hs k
  rcases s_ite hs with ⟨c, hs⟩ | ⟨-, hs⟩
  · subst c
    unfold U_X8_spentBy_37 at hs
    obtain ⟨a0, g0, hs⟩ := s_bind hs
    obtain ⟨a1, g1, hs⟩ := s_bind hs
    obtain ⟨a2, g2, hs⟩ := s_bind hs
    obtain ⟨a3, g3, hs⟩ := s_bind hs
    obtain ⟨a4, g4, hs⟩ := s_bind hs
    obtain ⟨u9, ge, hs⟩ := s_bind hs
    rw [g_r_to g0, g_i_to g1, g_i_to g2, g_i_to g3, g_i_to g4, g_e_to ge]
    exact v_X8_spentBy_37 hs k
  cases hs
theorem t_X8_spentBy {G : sG} {d : Nat} {v0 : Nat} {v1 : Int32} {σ : sS} {q : Int32 × sS} (h : F_X8_spentBy v0 v1 σ = some q) : s_T G (d + 3) M_X8_spentBy [.ref v0, .int v1] σ (e_I q) := by
  unfold F_X8_spentBy at h
  obtain ⟨-, -, h⟩ := s_bind h
  exact s_ofV rfl (by decide) (Nat.le_of_ble_eq_true rfl) rfl rfl (s_run_ind (V := fun x r => s_V G (d + 3) M_X8_spentBy [.ref v0, .int v1] σ Y_X8_spentBy x (e_I r)) (fun x z r hs hk => v_X8_spentBy hs (by cases z <;> exact hk)) h)
/-! X8_spent -/
noncomputable def T_X8_spent_0 (v0 : Nat) (v1 : Int32) (σ : sS) : Option (sZ Int32) :=
  (s_pf σ v0 8 0 (.int 0)).bind fun σ1 =>
  (F_X8_noLine v0 v1 σ1).bind fun q2 =>
  (F_X8_throwsIf v0 q2.1 1 q2.2).bind fun q3 =>
  if q3.1 = 0 then ((F_X8_goesThrough v0 q3.2).bind fun q4 =>
  (F_X8_spentBy v0 v1 q4.2).bind fun q5 =>
  some (.inr (q5.1, q5.2)))
  else (some (.inr (0, q3.2)))
noncomputable def U_X8_spent_0 (vs : List Value) (σ : sS) : Option (sZ Int32) := (g_r vs).bind fun a0 => (g_i a0.2).bind fun a1 => (g_e a1.2).bind fun _ => T_X8_spent_0 a0.1 a1.1 σ
noncomputable def S_X8_spent (x : sL) : Option (sZ Int32) := if x.1 = 0 then U_X8_spent_0 x.2.1 x.2.2 else none
def Y_X8_spent (pc : Nat) : List Nat := if pc = 0 then [0, 1] else []
noncomputable def F_X8_spent (v0 : Nat) (v1 : Int32) (σ : sS) : Option (Int32 × sS) := (s_is σ v0 8).bind fun _ => s_run S_X8_spent (0, [.ref v0, .int v1], σ)
theorem l_X8_spent_0 {v0 : Nat} {v1 : Int32} {σ : sS} {z : sZ Int32} (hf : T_X8_spent_0 v0 v1 σ = some z) : s_lz σ z := by
  unfold T_X8_spent_0 at hf
  obtain ⟨σ1, hh, hf⟩ := s_bind hf
  refine s_lz.tr (s_le2 (s_pf_2 hh)) ?_
  obtain ⟨q2, hh, hf⟩ := s_bind hf
  refine s_lz.tr (l_X8_noLine hh) ?_
  obtain ⟨q3, hh, hf⟩ := s_bind hf
  refine s_lz.tr (l_X8_throwsIf hh) ?_
  rcases s_ite hf with ⟨-, hf⟩ | ⟨-, hf⟩
  · obtain ⟨q4, hh, hf⟩ := s_bind hf
    refine s_lz.tr (l_X8_goesThrough hh) ?_
    obtain ⟨q5, hh, hf⟩ := s_bind hf
    refine s_lz.tr (l_X8_spentBy hh) ?_
    cases hf
    exact s_le.rf
  · cases hf
    exact s_le.rf
theorem l_X8_spent_s {x : sL} {z : sZ Int32} (hs : S_X8_spent x = some z) : s_lz x.2.2 z := by
  obtain ⟨pc, vs, σ⟩ := x
  unfold S_X8_spent at hs
  dsimp only at hs ⊢
  rcases s_ite hs with ⟨c, hs⟩ | ⟨-, hs⟩
  · subst c
    unfold U_X8_spent_0 at hs
    obtain ⟨a0, g0, hs⟩ := s_bind hs
    obtain ⟨a1, g1, hs⟩ := s_bind hs
    obtain ⟨u9, ge, hs⟩ := s_bind hs
    exact l_X8_spent_0 hs
  cases hs
theorem l_X8_spent {v0 : Nat} {v1 : Int32} {σ : sS} {q : Int32 × sS} (h : F_X8_spent v0 v1 σ = some q) : s_le σ q.2 := by
  unfold F_X8_spent at h
  obtain ⟨-, -, h⟩ := s_bind h
  exact s_run_ind (V := fun x r => s_le x.2.2 r.2) (fun x z r hs hk => by
    have h9 := l_X8_spent_s hs
    cases z with
    | inl y => exact s_le.tr h9 hk
    | inr q => cases hk; exact h9) h
theorem b_X8_spent {v0 : Nat} {v1 : Int32} {σ : sS} {q : Int32 × sS} (h : F_X8_spent v0 v1 σ = some q) : ∃ fs, σ.1 v0 = some (.inr (8, fs)) := by
  unfold F_X8_spent at h
  obtain ⟨u, hu, -⟩ := s_bind h
  exact s_is_to hu
set_option maxRecDepth 100000 in
set_option maxHeartbeats 4000000 in
theorem v_X8_spent_0 {G : sG} {d : Nat} {vs0 : List Value} {σ0 : sS} {v0 : Nat} {v1 : Int32} {σ : sS} {z : sZ Int32} {r : Int32 × sS} (hf : T_X8_spent_0 v0 v1 σ = some z) (k : s_K G (d + 8) M_X8_spent vs0 σ0 Y_X8_spent e_I z r) : s_V G (d + 8) M_X8_spent vs0 σ0 Y_X8_spent (0, [.ref v0, .int v1], σ) (e_I r) := by
  have le0 : s_le σ (e_I r).2 := s_lek hem_I (l_X8_spent_0 hf) k
  refine ⟨le0, ?_⟩
  intro p e s m below meth c H locs cells slots ls X I hn1 hn2 hl
  have hn : cells + σ0.2.1 ≤ σ.2.1 ∧ slots + σ0.2.2.1 ≤ σ.2.2.1 := ⟨hn1, hn2⟩
  have hl : lv_has ls 2 [(0, .ref v0), (1, .int v1)] := hl
  have hx := X.1
  have hb : c.code = cX8_spent := X.2.1
  have hown : s.vm.findClass RX8 = some m.cls := X.2.2.2.2.2.1
  have hts := X.2.2.2.2.2.2.1
  refine W.eq (g2 := F0 m 0 ls []) rfl ?_
  unfold T_X8_spent_0 at hf
  obtain ⟨σ1, h1, hf⟩ := s_bind hf
  obtain ⟨q2, h2, hf⟩ := s_bind hf
  obtain ⟨q3, h3, hf⟩ := s_bind hf
  have le4 : s_le q3.2 (e_I r).2 := by
    refine s_lek hem_I ?_ k
    rcases s_ite hf with ⟨-, hf⟩ | ⟨-, hf⟩
    · obtain ⟨q4, hh, hf⟩ := s_bind hf
      refine s_lz.tr (l_X8_goesThrough hh) ?_
      obtain ⟨q5, hh, hf⟩ := s_bind hf
      refine s_lz.tr (l_X8_spentBy hh) ?_
      cases hf
      exact s_le.rf
    · cases hf
      exact s_le.rf
  have le5 := s_le.tr (l_X8_throwsIf h3) le4
  have le6 := s_le.tr (l_X8_noLine h2) le5
  refine lv_aload_n hx hb dX8_spent_0 rfl (lv_at hl 0 rfl) ?_
  refine lv_iconst (v := 0) hx hb dX8_spent_1 (by decide) ?_
  refine r_put X I fp_X8_3 (fun h => by cases h) h1 rfl rfl dX8_spent_2 (fun H locs I => ?_)
  have hn := s_k2 (s_pf_2 h1) hn
  refine lv_aload_n hx hb dX8_spent_5 rfl (lv_at hl 0 rfl) ?_
  refine lv_aload_n hx hb dX8_spent_6 rfl (lv_at hl 0 rfl) ?_
  refine lv_iload_n hx hb dX8_spent_7 rfl (lv_at hl 1 rfl) ?_
  refine r_callV (Y := M_X8_noLine) (v := some (.int q2.1)) X I w_1999 my_X8_noLine (by omega) (t_X8_noLine (G := G) (d := d + 5) h2) (b_X8_noLine h2) rfl rfl hl.1 rfl (Nat.le_of_ble_eq_true rfl) hn le5 dX8_spent_8 (fun H locs cells slots I hn1 hn2 => ?_)
  have I : s_I G q2.2 s H locs := I
  have hn : cells + σ0.2.1 ≤ q2.2.2.1 ∧ slots + σ0.2.2.1 ≤ q2.2.2.2.1 := ⟨hn1, hn2⟩
  refine lv_iconst (v := 1) hx hb dX8_spent_11 (by decide) ?_
  refine r_callV (Y := M_X8_throwsIf) (v := some (.int q3.1)) X I w_1897 my_X8_throwsIf (by omega) (t_X8_throwsIf (G := G) (d := d + 6) h3) (b_X8_throwsIf h3) rfl rfl hl.1 rfl (Nat.le_of_ble_eq_true rfl) hn le4 dX8_spent_12 (fun H locs cells slots I hn1 hn2 => ?_)
  have I : s_I G q3.2 s H locs := I
  have hn : cells + σ0.2.1 ≤ q3.2.2.1 ∧ slots + σ0.2.2.1 ≤ q3.2.2.2.1 := ⟨hn1, hn2⟩
  rcases s_ite hf with ⟨c7, hf⟩ | ⟨c7, hf⟩
  · refine lv_if_eq (tgt := 20) hx hb dX8_spent_15 (by decide) (fun _ => ?_) (fun n => absurd c7 n)
    obtain ⟨q4, h8, hf⟩ := s_bind hf
    obtain ⟨q5, h9, hf⟩ := s_bind hf
    cases hf
    have k : _ = r := k
    subst k
    have le10 : s_le q5.2 q5.2 := s_le.rf
    have le11 := s_le.tr (l_X8_spentBy h9) le10
    refine lv_aload_n hx hb dX8_spent_20 rfl (lv_at hl 0 rfl) ?_
    refine r_callV (Y := M_X8_goesThrough) (v := none) X I w_2027 my_X8_goesThrough (by omega) (t_X8_goesThrough (G := G) (d := d + 0) h8) (b_X8_goesThrough h8) rfl rfl hl.1 rfl (Nat.le_of_ble_eq_true rfl) hn le11 dX8_spent_21 (fun H locs cells slots I hn1 hn2 => ?_)
    have I : s_I G q4.2 s H locs := I
    have hn : cells + σ0.2.1 ≤ q4.2.2.1 ∧ slots + σ0.2.2.1 ≤ q4.2.2.2.1 := ⟨hn1, hn2⟩
    refine lv_aload_n hx hb dX8_spent_24 rfl (lv_at hl 0 rfl) ?_
    refine lv_iload_n hx hb dX8_spent_25 rfl (lv_at hl 1 rfl) ?_
    refine r_callV (Y := M_X8_spentBy) (v := some (.int q5.1)) X I w_2120 my_X8_spentBy (by omega) (t_X8_spentBy (G := G) (d := d + 4) h9) (b_X8_spentBy h9) rfl rfl hl.1 rfl (Nat.le_of_ble_eq_true rfl) hn le10 dX8_spent_26 (fun H locs cells slots I hn1 hn2 => ?_)
    have I : s_I G q5.2 s H locs := I
    have hn : cells + σ0.2.1 ≤ q5.2.2.1 ∧ slots + σ0.2.2.1 ≤ q5.2.2.2.1 := ⟨hn1, hn2⟩
    exact r_iret X I rfl rfl rfl hn dX8_spent_29
  · refine lv_if_eq (tgt := 20) hx hb dX8_spent_15 (by decide) (fun n => absurd n c7) (fun _ => ?_)
    cases hf
    have k : _ = r := k
    subst k
    refine lv_iconst (v := 0) hx hb dX8_spent_18 (by decide) ?_
    exact r_iret X I rfl rfl rfl hn dX8_spent_19
theorem v_X8_spent {G : sG} {d : Nat} {vs0 : List Value} {σ0 : sS} {x : sL} {z : sZ Int32} {r : Int32 × sS} (hs : S_X8_spent x = some z) (k : s_K G (d + 8) M_X8_spent vs0 σ0 Y_X8_spent e_I z r) : s_V G (d + 8) M_X8_spent vs0 σ0 Y_X8_spent x (e_I r) := by
  obtain ⟨pc, vs, σ⟩ := x
  unfold S_X8_spent at hs
  dsimp only at hs
  rcases s_ite hs with ⟨c, hs⟩ | ⟨-, hs⟩
  · subst c
    unfold U_X8_spent_0 at hs
    obtain ⟨a0, g0, hs⟩ := s_bind hs
    obtain ⟨a1, g1, hs⟩ := s_bind hs
    obtain ⟨u9, ge, hs⟩ := s_bind hs
    rw [g_r_to g0, g_i_to g1, g_e_to ge]
    exact v_X8_spent_0 hs k
  cases hs
theorem t_X8_spent {G : sG} {d : Nat} {v0 : Nat} {v1 : Int32} {σ : sS} {q : Int32 × sS} (h : F_X8_spent v0 v1 σ = some q) : s_T G (d + 8) M_X8_spent [.ref v0, .int v1] σ (e_I q) := by
  unfold F_X8_spent at h
  obtain ⟨-, -, h⟩ := s_bind h
  exact s_ofV rfl (by decide) (Nat.le_of_ble_eq_true rfl) rfl rfl (s_run_ind (V := fun x r => s_V G (d + 8) M_X8_spent [.ref v0, .int v1] σ Y_X8_spent x (e_I r)) (fun x z r hs hk => v_X8_spent hs (by cases z <;> exact hk)) h)
/-! X8_falls -/
noncomputable def T_X8_falls_0 (v0 : Nat) (v1 : Int32) (v2 : Int32) (σ : sS) : Option (sZ Int64) :=
  (s_pf σ v0 8 0 (.int 0)).bind fun σ1 =>
  (F_X8_noCustomer v1 σ1).bind fun q2 =>
  if q2.1 = 0 then ((F_X8_noFormula v0 v2 q2.2).bind fun q3 =>
  if q3.1 = 0 then (some (.inl (26, [.ref v0, .int v1, .int v2, .int 0, .ref v0], q3.2)))
  else (some (.inl (21, [.ref v0, .int v1, .int v2, .ref v0], q3.2))))
  else (some (.inl (21, [.ref v0, .int v1, .int v2, .ref v0], q2.2)))
noncomputable def U_X8_falls_0 (vs : List Value) (σ : sS) : Option (sZ Int64) := (g_r vs).bind fun a0 => (g_i a0.2).bind fun a1 => (g_i a1.2).bind fun a2 => (g_e a2.2).bind fun _ => T_X8_falls_0 a0.1 a1.1 a2.1 σ
noncomputable def T_X8_falls_21 (v0 : Nat) (v1 : Int32) (v2 : Int32) (w0 : Nat) (σ : sS) : Option (sZ Int64) :=
  some (.inl (26, [.ref v0, .int v1, .int v2, .int 1, .ref w0], σ))
noncomputable def U_X8_falls_21 (vs : List Value) (σ : sS) : Option (sZ Int64) := (g_r vs).bind fun a0 => (g_i a0.2).bind fun a1 => (g_i a1.2).bind fun a2 => (g_r a2.2).bind fun a3 => (g_e a3.2).bind fun _ => T_X8_falls_21 a0.1 a1.1 a2.1 a3.1 σ
noncomputable def T_X8_falls_26 (v0 : Nat) (v1 : Int32) (v2 : Int32) (w0 : Int32) (w1 : Nat) (σ : sS) : Option (sZ Int64) :=
  (F_X8_throwsIf w1 w0 1 σ).bind fun q1 =>
  if q1.1 = 0 then ((F_X8_goesThrough v0 q1.2).bind fun q2 =>
  some (.inl (44, [.ref v0, .int v1, .int v2, .long 0, .int 0], q2.2)))
  else (some (.inr (0, q1.2)))
noncomputable def U_X8_falls_26 (vs : List Value) (σ : sS) : Option (sZ Int64) := (g_r vs).bind fun a0 => (g_i a0.2).bind fun a1 => (g_i a1.2).bind fun a2 => (g_i a2.2).bind fun a3 => (g_r a3.2).bind fun a4 => (g_e a4.2).bind fun _ => T_X8_falls_26 a0.1 a1.1 a2.1 a3.1 a4.1 σ
noncomputable def T_X8_falls_44 (v0 : Nat) (v1 : Int32) (v2 : Int32) (v3 : Int64) (v5 : Int32) (σ : sS) : Option (sZ Int64) :=
  (F_X8_lines v0 σ).bind fun q1 =>
  if q1.1 ≤ v5 then ((F_X8_beliefsOf v0 v1 q1.2).bind fun q2 =>
  (s_fr q2.2 v0 8 1).bind fun x3 =>
  (s_si q2.2 x3 (58 + v1) (q2.1 &&& ((1 <<< (v2 &&& 31)) ^^^ (-1)))).bind fun σ4 =>
  some (.inl (109, [.ref v0, .int v1, .long v3, .int q2.1, .long 0, .int 0], σ4)))
  else ((F_X8_isStale v0 v5 q1.2).bind fun q5 =>
  if q5.1 = 0 then (some (.inl (71, [.ref v0, .int v1, .int v2, .int v5, .long 0, .long v3], q5.2)))
  else (some (.inl (71, [.ref v0, .int v1, .int v2, .int v5, .long (1 <<< ((v5 : Int32).toInt64 &&& 63)), .long v3], q5.2))))
noncomputable def U_X8_falls_44 (vs : List Value) (σ : sS) : Option (sZ Int64) := (g_r vs).bind fun a0 => (g_i a0.2).bind fun a1 => (g_i a1.2).bind fun a2 => (g_l a2.2).bind fun a3 => (g_i a3.2).bind fun a4 => (g_e a4.2).bind fun _ => T_X8_falls_44 a0.1 a1.1 a2.1 a3.1 a4.1 σ
noncomputable def T_X8_falls_71 (v0 : Nat) (v1 : Int32) (v2 : Int32) (v5 : Int32) (w0 : Int64) (w1 : Int64) (σ : sS) : Option (sZ Int64) :=
  some (.inl (44, [.ref v0, .int v1, .int v2, .long (w1 ||| w0), .int (v5 + 1)], σ))
noncomputable def U_X8_falls_71 (vs : List Value) (σ : sS) : Option (sZ Int64) := (g_r vs).bind fun a0 => (g_i a0.2).bind fun a1 => (g_i a1.2).bind fun a2 => (g_i a2.2).bind fun a3 => (g_l a3.2).bind fun a4 => (g_l a4.2).bind fun a5 => (g_e a5.2).bind fun _ => T_X8_falls_71 a0.1 a1.1 a2.1 a3.1 a4.1 a5.1 σ
noncomputable def T_X8_falls_109 (v0 : Nat) (v1 : Int32) (v3 : Int64) (v5 : Int32) (v6 : Int64) (v8 : Int32) (σ : sS) : Option (sZ Int64) :=
  (F_X8_lines v0 σ).bind fun q1 =>
  if q1.1 ≤ v8 then ((s_fr q1.2 v0 8 1).bind fun x2 =>
  (s_si q1.2 x2 (58 + v1) v5).bind fun σ3 =>
  some (.inr ((v6 &&& (v3 ^^^ (-1))), σ3)))
  else ((F_X8_isStale v0 v8 q1.2).bind fun q4 =>
  if q4.1 = 0 then (some (.inl (137, [.ref v0, .int v1, .long v3, .int v5, .int v8, .long 0, .long v6], q4.2)))
  else (some (.inl (137, [.ref v0, .int v1, .long v3, .int v5, .int v8, .long (1 <<< ((v8 : Int32).toInt64 &&& 63)), .long v6], q4.2))))
noncomputable def U_X8_falls_109 (vs : List Value) (σ : sS) : Option (sZ Int64) := (g_r vs).bind fun a0 => (g_i a0.2).bind fun a1 => (g_l a1.2).bind fun a2 => (g_i a2.2).bind fun a3 => (g_l a3.2).bind fun a4 => (g_i a4.2).bind fun a5 => (g_e a5.2).bind fun _ => T_X8_falls_109 a0.1 a1.1 a2.1 a3.1 a4.1 a5.1 σ
noncomputable def T_X8_falls_137 (v0 : Nat) (v1 : Int32) (v3 : Int64) (v5 : Int32) (v8 : Int32) (w0 : Int64) (w1 : Int64) (σ : sS) : Option (sZ Int64) :=
  some (.inl (109, [.ref v0, .int v1, .long v3, .int v5, .long (w1 ||| w0), .int (v8 + 1)], σ))
noncomputable def U_X8_falls_137 (vs : List Value) (σ : sS) : Option (sZ Int64) := (g_r vs).bind fun a0 => (g_i a0.2).bind fun a1 => (g_l a1.2).bind fun a2 => (g_i a2.2).bind fun a3 => (g_i a3.2).bind fun a4 => (g_l a4.2).bind fun a5 => (g_l a5.2).bind fun a6 => (g_e a6.2).bind fun _ => T_X8_falls_137 a0.1 a1.1 a2.1 a3.1 a4.1 a5.1 a6.1 σ
noncomputable def S_X8_falls (x : sL) : Option (sZ Int64) := if x.1 = 0 then U_X8_falls_0 x.2.1 x.2.2 else if x.1 = 21 then U_X8_falls_21 x.2.1 x.2.2 else if x.1 = 26 then U_X8_falls_26 x.2.1 x.2.2 else if x.1 = 44 then U_X8_falls_44 x.2.1 x.2.2 else if x.1 = 71 then U_X8_falls_71 x.2.1 x.2.2 else if x.1 = 109 then U_X8_falls_109 x.2.1 x.2.2 else if x.1 = 137 then U_X8_falls_137 x.2.1 x.2.2 else none
def Y_X8_falls (pc : Nat) : List Nat := if pc = 0 then [0, 1, 2] else if pc = 21 then [0, 1, 2] else if pc = 26 then [0, 1, 2] else if pc = 44 then [0, 1, 2, 3, 5] else if pc = 71 then [0, 1, 2, 5] else if pc = 109 then [0, 1, 3, 5, 6, 8] else if pc = 137 then [0, 1, 3, 5, 8] else []
noncomputable def F_X8_falls (v0 : Nat) (v1 : Int32) (v2 : Int32) (σ : sS) : Option (Int64 × sS) := (s_is σ v0 8).bind fun _ => s_run S_X8_falls (0, [.ref v0, .int v1, .int v2], σ)
theorem l_X8_falls_0 {v0 : Nat} {v1 : Int32} {v2 : Int32} {σ : sS} {z : sZ Int64} (hf : T_X8_falls_0 v0 v1 v2 σ = some z) : s_lz σ z := by
  unfold T_X8_falls_0 at hf
  obtain ⟨σ1, hh, hf⟩ := s_bind hf
  refine s_lz.tr (s_le2 (s_pf_2 hh)) ?_
  obtain ⟨q2, hh, hf⟩ := s_bind hf
  refine s_lz.tr (l_X8_noCustomer hh) ?_
  rcases s_ite hf with ⟨-, hf⟩ | ⟨-, hf⟩
  · obtain ⟨q3, hh, hf⟩ := s_bind hf
    refine s_lz.tr (l_X8_noFormula hh) ?_
    rcases s_ite hf with ⟨-, hf⟩ | ⟨-, hf⟩
    · cases hf
      exact s_le.rf
    · cases hf
      exact s_le.rf
  · cases hf
    exact s_le.rf
theorem l_X8_falls_21 {v0 : Nat} {v1 : Int32} {v2 : Int32} {w0 : Nat} {σ : sS} {z : sZ Int64} (hf : T_X8_falls_21 v0 v1 v2 w0 σ = some z) : s_lz σ z := by
  unfold T_X8_falls_21 at hf
  cases hf
  exact s_le.rf
theorem l_X8_falls_26 {v0 : Nat} {v1 : Int32} {v2 : Int32} {w0 : Int32} {w1 : Nat} {σ : sS} {z : sZ Int64} (hf : T_X8_falls_26 v0 v1 v2 w0 w1 σ = some z) : s_lz σ z := by
  unfold T_X8_falls_26 at hf
  obtain ⟨q1, hh, hf⟩ := s_bind hf
  refine s_lz.tr (l_X8_throwsIf hh) ?_
  rcases s_ite hf with ⟨-, hf⟩ | ⟨-, hf⟩
  · obtain ⟨q2, hh, hf⟩ := s_bind hf
    refine s_lz.tr (l_X8_goesThrough hh) ?_
    cases hf
    exact s_le.rf
  · cases hf
    exact s_le.rf
theorem l_X8_falls_44 {v0 : Nat} {v1 : Int32} {v2 : Int32} {v3 : Int64} {v5 : Int32} {σ : sS} {z : sZ Int64} (hf : T_X8_falls_44 v0 v1 v2 v3 v5 σ = some z) : s_lz σ z := by
  unfold T_X8_falls_44 at hf
  obtain ⟨q1, hh, hf⟩ := s_bind hf
  refine s_lz.tr (l_X8_lines hh) ?_
  rcases s_ite hf with ⟨-, hf⟩ | ⟨-, hf⟩
  · obtain ⟨q2, hh, hf⟩ := s_bind hf
    refine s_lz.tr (l_X8_beliefsOf hh) ?_
    obtain ⟨x3, -, hf⟩ := s_bind hf
    obtain ⟨σ4, hh, hf⟩ := s_bind hf
    refine s_lz.tr (s_le2 (s_si_2 hh)) ?_
    cases hf
    exact s_le.rf
  · obtain ⟨q5, hh, hf⟩ := s_bind hf
    refine s_lz.tr (l_X8_isStale hh) ?_
    rcases s_ite hf with ⟨-, hf⟩ | ⟨-, hf⟩
    · cases hf
      exact s_le.rf
    · cases hf
      exact s_le.rf
theorem l_X8_falls_71 {v0 : Nat} {v1 : Int32} {v2 : Int32} {v5 : Int32} {w0 : Int64} {w1 : Int64} {σ : sS} {z : sZ Int64} (hf : T_X8_falls_71 v0 v1 v2 v5 w0 w1 σ = some z) : s_lz σ z := by
  unfold T_X8_falls_71 at hf
  cases hf
  exact s_le.rf
theorem l_X8_falls_109 {v0 : Nat} {v1 : Int32} {v3 : Int64} {v5 : Int32} {v6 : Int64} {v8 : Int32} {σ : sS} {z : sZ Int64} (hf : T_X8_falls_109 v0 v1 v3 v5 v6 v8 σ = some z) : s_lz σ z := by
  unfold T_X8_falls_109 at hf
  obtain ⟨q1, hh, hf⟩ := s_bind hf
  refine s_lz.tr (l_X8_lines hh) ?_
  rcases s_ite hf with ⟨-, hf⟩ | ⟨-, hf⟩
  · obtain ⟨x2, -, hf⟩ := s_bind hf
    obtain ⟨σ3, hh, hf⟩ := s_bind hf
    refine s_lz.tr (s_le2 (s_si_2 hh)) ?_
    cases hf
    exact s_le.rf
  · obtain ⟨q4, hh, hf⟩ := s_bind hf
    refine s_lz.tr (l_X8_isStale hh) ?_
    rcases s_ite hf with ⟨-, hf⟩ | ⟨-, hf⟩
    · cases hf
      exact s_le.rf
    · cases hf
      exact s_le.rf
theorem l_X8_falls_137 {v0 : Nat} {v1 : Int32} {v3 : Int64} {v5 : Int32} {v8 : Int32} {w0 : Int64} {w1 : Int64} {σ : sS} {z : sZ Int64} (hf : T_X8_falls_137 v0 v1 v3 v5 v8 w0 w1 σ = some z) : s_lz σ z := by
  unfold T_X8_falls_137 at hf
  cases hf
  exact s_le.rf
theorem l_X8_falls_s {x : sL} {z : sZ Int64} (hs : S_X8_falls x = some z) : s_lz x.2.2 z := by
  obtain ⟨pc, vs, σ⟩ := x
  unfold S_X8_falls at hs
  dsimp only at hs ⊢
  rcases s_ite hs with ⟨c, hs⟩ | ⟨-, hs⟩
  · subst c
    unfold U_X8_falls_0 at hs
    obtain ⟨a0, g0, hs⟩ := s_bind hs
    obtain ⟨a1, g1, hs⟩ := s_bind hs
    obtain ⟨a2, g2, hs⟩ := s_bind hs
    obtain ⟨u9, ge, hs⟩ := s_bind hs
    exact l_X8_falls_0 hs
  rcases s_ite hs with ⟨c, hs⟩ | ⟨-, hs⟩
  · subst c
    unfold U_X8_falls_21 at hs
    obtain ⟨a0, g0, hs⟩ := s_bind hs
    obtain ⟨a1, g1, hs⟩ := s_bind hs
    obtain ⟨a2, g2, hs⟩ := s_bind hs
    obtain ⟨a3, g3, hs⟩ := s_bind hs
    obtain ⟨u9, ge, hs⟩ := s_bind hs
    exact l_X8_falls_21 hs
  rcases s_ite hs with ⟨c, hs⟩ | ⟨-, hs⟩
  · subst c
    unfold U_X8_falls_26 at hs
    obtain ⟨a0, g0, hs⟩ := s_bind hs
    obtain ⟨a1, g1, hs⟩ := s_bind hs
    obtain ⟨a2, g2, hs⟩ := s_bind hs
    obtain ⟨a3, g3, hs⟩ := s_bind hs
    obtain ⟨a4, g4, hs⟩ := s_bind hs
    obtain ⟨u9, ge, hs⟩ := s_bind hs
    exact l_X8_falls_26 hs
  rcases s_ite hs with ⟨c, hs⟩ | ⟨-, hs⟩
  · subst c
    unfold U_X8_falls_44 at hs
    obtain ⟨a0, g0, hs⟩ := s_bind hs
    obtain ⟨a1, g1, hs⟩ := s_bind hs
    obtain ⟨a2, g2, hs⟩ := s_bind hs
    obtain ⟨a3, g3, hs⟩ := s_bind hs
    obtain ⟨a4, g4, hs⟩ := s_bind hs
    obtain ⟨u9, ge, hs⟩ := s_bind hs
    exact l_X8_falls_44 hs
  rcases s_ite hs with ⟨c, hs⟩ | ⟨-, hs⟩
  · subst c
    unfold U_X8_falls_71 at hs
    obtain ⟨a0, g0, hs⟩ := s_bind hs
    obtain ⟨a1, g1, hs⟩ := s_bind hs
    obtain ⟨a2, g2, hs⟩ := s_bind hs
    obtain ⟨a3, g3, hs⟩ := s_bind hs
    obtain ⟨a4, g4, hs⟩ := s_bind hs
    obtain ⟨a5, g5, hs⟩ := s_bind hs
    obtain ⟨u9, ge, hs⟩ := s_bind hs
    exact l_X8_falls_71 hs
  rcases s_ite hs with ⟨c, hs⟩ | ⟨-, hs⟩
  · subst c
    unfold U_X8_falls_109 at hs
    obtain ⟨a0, g0, hs⟩ := s_bind hs
    obtain ⟨a1, g1, hs⟩ := s_bind hs
    obtain ⟨a2, g2, hs⟩ := s_bind hs
    obtain ⟨a3, g3, hs⟩ := s_bind hs
    obtain ⟨a4, g4, hs⟩ := s_bind hs
    obtain ⟨a5, g5, hs⟩ := s_bind hs
    obtain ⟨u9, ge, hs⟩ := s_bind hs
    exact l_X8_falls_109 hs
  rcases s_ite hs with ⟨c, hs⟩ | ⟨-, hs⟩
  · subst c
    unfold U_X8_falls_137 at hs
    obtain ⟨a0, g0, hs⟩ := s_bind hs
    obtain ⟨a1, g1, hs⟩ := s_bind hs
    obtain ⟨a2, g2, hs⟩ := s_bind hs
    obtain ⟨a3, g3, hs⟩ := s_bind hs
    obtain ⟨a4, g4, hs⟩ := s_bind hs
    obtain ⟨a5, g5, hs⟩ := s_bind hs
    obtain ⟨a6, g6, hs⟩ := s_bind hs
    obtain ⟨u9, ge, hs⟩ := s_bind hs
    exact l_X8_falls_137 hs
  cases hs
theorem l_X8_falls {v0 : Nat} {v1 : Int32} {v2 : Int32} {σ : sS} {q : Int64 × sS} (h : F_X8_falls v0 v1 v2 σ = some q) : s_le σ q.2 := by
  unfold F_X8_falls at h
  obtain ⟨-, -, h⟩ := s_bind h
  exact s_run_ind (V := fun x r => s_le x.2.2 r.2) (fun x z r hs hk => by
    have h9 := l_X8_falls_s hs
    cases z with
    | inl y => exact s_le.tr h9 hk
    | inr q => cases hk; exact h9) h
theorem b_X8_falls {v0 : Nat} {v1 : Int32} {v2 : Int32} {σ : sS} {q : Int64 × sS} (h : F_X8_falls v0 v1 v2 σ = some q) : ∃ fs, σ.1 v0 = some (.inr (8, fs)) := by
  unfold F_X8_falls at h
  obtain ⟨u, hu, -⟩ := s_bind h
  exact s_is_to hu
set_option maxRecDepth 100000 in
set_option maxHeartbeats 4000000 in
theorem v_X8_falls_0 {G : sG} {d : Nat} {vs0 : List Value} {σ0 : sS} {v0 : Nat} {v1 : Int32} {v2 : Int32} {σ : sS} {z : sZ Int64} {r : Int64 × sS} (hf : T_X8_falls_0 v0 v1 v2 σ = some z) (k : s_K G (d + 8) M_X8_falls vs0 σ0 Y_X8_falls e_J z r) : s_V G (d + 8) M_X8_falls vs0 σ0 Y_X8_falls (0, [.ref v0, .int v1, .int v2], σ) (e_J r) := by
  have le0 : s_le σ (e_J r).2 := s_lek hem_J (l_X8_falls_0 hf) k
  refine ⟨le0, ?_⟩
  intro p e s m below meth c H locs cells slots ls X I hn1 hn2 hl
  have hn : cells + σ0.2.1 ≤ σ.2.1 ∧ slots + σ0.2.2.1 ≤ σ.2.2.1 := ⟨hn1, hn2⟩
  have hl : lv_has ls 9 [(0, .ref v0), (1, .int v1), (2, .int v2)] := hl
  have hx := X.1
  have hb : c.code = cX8_falls := X.2.1
  have hown : s.vm.findClass RX8 = some m.cls := X.2.2.2.2.2.1
  have hts := X.2.2.2.2.2.2.1
  refine W.eq (g2 := F0 m 0 ls []) rfl ?_
  unfold T_X8_falls_0 at hf
  obtain ⟨σ1, h1, hf⟩ := s_bind hf
  obtain ⟨q2, h2, hf⟩ := s_bind hf
  have le3 : s_le q2.2 (e_J r).2 := by
    refine s_lek hem_J ?_ k
    rcases s_ite hf with ⟨-, hf⟩ | ⟨-, hf⟩
    · obtain ⟨q3, hh, hf⟩ := s_bind hf
      refine s_lz.tr (l_X8_noFormula hh) ?_
      rcases s_ite hf with ⟨-, hf⟩ | ⟨-, hf⟩
      · cases hf
        exact s_le.rf
      · cases hf
        exact s_le.rf
    · cases hf
      exact s_le.rf
  have le4 := s_le.tr (l_X8_noCustomer h2) le3
  refine lv_aload_n hx hb dX8_falls_0 rfl (lv_at hl 0 rfl) ?_
  refine lv_iconst (v := 0) hx hb dX8_falls_1 (by decide) ?_
  refine r_put X I fp_X8_3 (fun h => by cases h) h1 rfl rfl dX8_falls_2 (fun H locs I => ?_)
  have hn := s_k2 (s_pf_2 h1) hn
  refine lv_aload_n hx hb dX8_falls_5 rfl (lv_at hl 0 rfl) ?_
  refine lv_iload_n hx hb dX8_falls_6 rfl (lv_at hl 1 rfl) ?_
  refine r_callS (Y := M_X8_noCustomer) (v := some (.int q2.1)) X I w_1984 my_X8_noCustomer (by omega) (t_X8_noCustomer (G := G) (d := d + 5) h2) rfl rfl hl.1 rfl (Nat.le_of_ble_eq_true rfl) hn le3 dX8_falls_7 (fun H locs cells slots I hn1 hn2 => ?_)
  have I : s_I G q2.2 s H locs := I
  have hn : cells + σ0.2.1 ≤ q2.2.2.1 ∧ slots + σ0.2.2.1 ≤ q2.2.2.2.1 := ⟨hn1, hn2⟩
  rcases s_ite hf with ⟨c5, hf⟩ | ⟨c5, hf⟩
  · refine lv_if_ne (tgt := 21) hx hb dX8_falls_10 (by decide) (fun n => absurd c5 n) (fun _ => ?_)
    obtain ⟨q3, h6, hf⟩ := s_bind hf
    have le7 : s_le q3.2 (e_J r).2 := by
      refine s_lek hem_J ?_ k
      rcases s_ite hf with ⟨-, hf⟩ | ⟨-, hf⟩
      · cases hf
        exact s_le.rf
      · cases hf
        exact s_le.rf
    refine lv_aload_n hx hb dX8_falls_13 rfl (lv_at hl 0 rfl) ?_
    refine lv_iload_n hx hb dX8_falls_14 rfl (lv_at hl 2 rfl) ?_
    refine r_callV (Y := M_X8_noFormula) (v := some (.int q3.1)) X I w_1916 my_X8_noFormula (by omega) (t_X8_noFormula (G := G) (d := d + 5) h6) (b_X8_noFormula h6) rfl rfl hl.1 rfl (Nat.le_of_ble_eq_true rfl) hn le7 dX8_falls_15 (fun H locs cells slots I hn1 hn2 => ?_)
    have I : s_I G q3.2 s H locs := I
    have hn : cells + σ0.2.1 ≤ q3.2.2.1 ∧ slots + σ0.2.2.1 ≤ q3.2.2.2.1 := ⟨hn1, hn2⟩
    rcases s_ite hf with ⟨c8, hf⟩ | ⟨c8, hf⟩
    · refine lv_if_eq (tgt := 25) hx hb dX8_falls_18 (by decide) (fun _ => ?_) (fun n => absurd c8 n)
      cases hf
      have k : s_V G (d + 8) M_X8_falls vs0 σ0 Y_X8_falls (26, [.ref v0, .int v1, .int v2, .int 0, .ref v0], q3.2) (e_J r) := k
      refine lv_iconst (v := 0) hx hb dX8_falls_25 (by decide) ?_
      exact k.2 p e s m below meth c _ _ _ _ _ X I hn.1 hn.2 (lv_sub hl [0, 1, 2] rfl)
    · refine lv_if_eq (tgt := 25) hx hb dX8_falls_18 (by decide) (fun n => absurd n c8) (fun _ => ?_)
      cases hf
      have k : s_V G (d + 8) M_X8_falls vs0 σ0 Y_X8_falls (21, [.ref v0, .int v1, .int v2, .ref v0], q3.2) (e_J r) := k
      exact k.2 p e s m below meth c _ _ _ _ _ X I hn.1 hn.2 (lv_sub hl [0, 1, 2] rfl)
  · refine lv_if_ne (tgt := 21) hx hb dX8_falls_10 (by decide) (fun _ => ?_) (fun n => absurd n c5)
    cases hf
    have k : s_V G (d + 8) M_X8_falls vs0 σ0 Y_X8_falls (21, [.ref v0, .int v1, .int v2, .ref v0], q2.2) (e_J r) := k
    exact k.2 p e s m below meth c _ _ _ _ _ X I hn.1 hn.2 (lv_sub hl [0, 1, 2] rfl)
set_option maxRecDepth 100000 in
set_option maxHeartbeats 4000000 in
theorem v_X8_falls_21 {G : sG} {d : Nat} {vs0 : List Value} {σ0 : sS} {v0 : Nat} {v1 : Int32} {v2 : Int32} {w0 : Nat} {σ : sS} {z : sZ Int64} {r : Int64 × sS} (hf : T_X8_falls_21 v0 v1 v2 w0 σ = some z) (k : s_K G (d + 8) M_X8_falls vs0 σ0 Y_X8_falls e_J z r) : s_V G (d + 8) M_X8_falls vs0 σ0 Y_X8_falls (21, [.ref v0, .int v1, .int v2, .ref w0], σ) (e_J r) := by
  have le0 : s_le σ (e_J r).2 := s_lek hem_J (l_X8_falls_21 hf) k
  refine ⟨le0, ?_⟩
  intro p e s m below meth c H locs cells slots ls X I hn1 hn2 hl
  have hn : cells + σ0.2.1 ≤ σ.2.1 ∧ slots + σ0.2.2.1 ≤ σ.2.2.1 := ⟨hn1, hn2⟩
  have hl : lv_has ls 9 [(0, .ref v0), (1, .int v1), (2, .int v2)] := hl
  have hx := X.1
  have hb : c.code = cX8_falls := X.2.1
  have hown : s.vm.findClass RX8 = some m.cls := X.2.2.2.2.2.1
  have hts := X.2.2.2.2.2.2.1
  refine W.eq (g2 := F0 m 21 ls [.ref w0]) rfl ?_
  unfold T_X8_falls_21 at hf
  cases hf
  have k : s_V G (d + 8) M_X8_falls vs0 σ0 Y_X8_falls (26, [.ref v0, .int v1, .int v2, .int 1, .ref w0], σ) (e_J r) := k
  refine lv_iconst (v := 1) hx hb dX8_falls_21 (by decide) ?_
  refine lv_goto (tgt := 26) hx hb dX8_falls_22 (by decide) ?_
  exact k.2 p e s m below meth c _ _ _ _ _ X I hn.1 hn.2 (lv_sub hl [0, 1, 2] rfl)
set_option maxRecDepth 100000 in
set_option maxHeartbeats 4000000 in
theorem v_X8_falls_26 {G : sG} {d : Nat} {vs0 : List Value} {σ0 : sS} {v0 : Nat} {v1 : Int32} {v2 : Int32} {w0 : Int32} {w1 : Nat} {σ : sS} {z : sZ Int64} {r : Int64 × sS} (hf : T_X8_falls_26 v0 v1 v2 w0 w1 σ = some z) (k : s_K G (d + 8) M_X8_falls vs0 σ0 Y_X8_falls e_J z r) : s_V G (d + 8) M_X8_falls vs0 σ0 Y_X8_falls (26, [.ref v0, .int v1, .int v2, .int w0, .ref w1], σ) (e_J r) := by
  have le0 : s_le σ (e_J r).2 := s_lek hem_J (l_X8_falls_26 hf) k
  refine ⟨le0, ?_⟩
  intro p e s m below meth c H locs cells slots ls X I hn1 hn2 hl
  have hn : cells + σ0.2.1 ≤ σ.2.1 ∧ slots + σ0.2.2.1 ≤ σ.2.2.1 := ⟨hn1, hn2⟩
  have hl : lv_has ls 9 [(0, .ref v0), (1, .int v1), (2, .int v2)] := hl
  have hx := X.1
  have hb : c.code = cX8_falls := X.2.1
  have hown : s.vm.findClass RX8 = some m.cls := X.2.2.2.2.2.1
  have hts := X.2.2.2.2.2.2.1
  refine W.eq (g2 := F0 m 26 ls [.int w0, .ref w1]) rfl ?_
  unfold T_X8_falls_26 at hf
  obtain ⟨q1, h1, hf⟩ := s_bind hf
  have le2 : s_le q1.2 (e_J r).2 := by
    refine s_lek hem_J ?_ k
    rcases s_ite hf with ⟨-, hf⟩ | ⟨-, hf⟩
    · obtain ⟨q2, hh, hf⟩ := s_bind hf
      refine s_lz.tr (l_X8_goesThrough hh) ?_
      cases hf
      exact s_le.rf
    · cases hf
      exact s_le.rf
  refine lv_iconst (v := 1) hx hb dX8_falls_26 (by decide) ?_
  refine r_callV (Y := M_X8_throwsIf) (v := some (.int q1.1)) X I w_1897 my_X8_throwsIf (by omega) (t_X8_throwsIf (G := G) (d := d + 6) h1) (b_X8_throwsIf h1) rfl rfl hl.1 rfl (Nat.le_of_ble_eq_true rfl) hn le2 dX8_falls_27 (fun H locs cells slots I hn1 hn2 => ?_)
  have I : s_I G q1.2 s H locs := I
  have hn : cells + σ0.2.1 ≤ q1.2.2.1 ∧ slots + σ0.2.2.1 ≤ q1.2.2.2.1 := ⟨hn1, hn2⟩
  rcases s_ite hf with ⟨c3, hf⟩ | ⟨c3, hf⟩
  · refine lv_if_eq (tgt := 35) hx hb dX8_falls_30 (by decide) (fun _ => ?_) (fun n => absurd c3 n)
    obtain ⟨q2, h4, hf⟩ := s_bind hf
    cases hf
    have k : s_V G (d + 8) M_X8_falls vs0 σ0 Y_X8_falls (44, [.ref v0, .int v1, .int v2, .long 0, .int 0], q2.2) (e_J r) := k
    have le5 : s_le q2.2 (e_J r).2 := k.1
    refine lv_aload_n hx hb dX8_falls_35 rfl (lv_at hl 0 rfl) ?_
    refine r_callV (Y := M_X8_goesThrough) (v := none) X I w_2027 my_X8_goesThrough (by omega) (t_X8_goesThrough (G := G) (d := d + 0) h4) (b_X8_goesThrough h4) rfl rfl hl.1 rfl (Nat.le_of_ble_eq_true rfl) hn le5 dX8_falls_36 (fun H locs cells slots I hn1 hn2 => ?_)
    have I : s_I G q2.2 s H locs := I
    have hn : cells + σ0.2.1 ≤ q2.2.2.1 ∧ slots + σ0.2.2.1 ≤ q2.2.2.2.1 := ⟨hn1, hn2⟩
    refine lv_lconst (v := 0) hx hb dX8_falls_39 (by decide) ?_
    refine lv_lstore_n (lv' := [(3, .long 0), (0, .ref v0), (1, .int v1), (2, .int v2)]) hx hb dX8_falls_40 rfl hl (by decide) rfl (fun ls hl => ?_)
    refine lv_iconst (v := 0) hx hb dX8_falls_41 (by decide) ?_
    refine lv_istore (lv' := [(5, .int 0), (3, .long 0), (0, .ref v0), (1, .int v1), (2, .int v2)]) hx hb dX8_falls_42 hl (by decide) rfl (fun ls hl => ?_)
    exact k.2 p e s m below meth c _ _ _ _ _ X I hn.1 hn.2 (lv_sub hl [2, 3, 4, 1, 0] rfl)
  · refine lv_if_eq (tgt := 35) hx hb dX8_falls_30 (by decide) (fun n => absurd n c3) (fun _ => ?_)
    cases hf
    have k : _ = r := k
    subst k
    refine lv_lconst (v := 0) hx hb dX8_falls_33 (by decide) ?_
    exact r_lret X I rfl rfl hn dX8_falls_34
set_option maxRecDepth 100000 in
set_option maxHeartbeats 4000000 in
theorem v_X8_falls_44 {G : sG} {d : Nat} {vs0 : List Value} {σ0 : sS} {v0 : Nat} {v1 : Int32} {v2 : Int32} {v3 : Int64} {v5 : Int32} {σ : sS} {z : sZ Int64} {r : Int64 × sS} (hf : T_X8_falls_44 v0 v1 v2 v3 v5 σ = some z) (k : s_K G (d + 8) M_X8_falls vs0 σ0 Y_X8_falls e_J z r) : s_V G (d + 8) M_X8_falls vs0 σ0 Y_X8_falls (44, [.ref v0, .int v1, .int v2, .long v3, .int v5], σ) (e_J r) := by
  have le0 : s_le σ (e_J r).2 := s_lek hem_J (l_X8_falls_44 hf) k
  refine ⟨le0, ?_⟩
  intro p e s m below meth c H locs cells slots ls X I hn1 hn2 hl
  have hn : cells + σ0.2.1 ≤ σ.2.1 ∧ slots + σ0.2.2.1 ≤ σ.2.2.1 := ⟨hn1, hn2⟩
  have hl : lv_has ls 9 [(0, .ref v0), (1, .int v1), (2, .int v2), (3, .long v3), (5, .int v5)] := hl
  have hx := X.1
  have hb : c.code = cX8_falls := X.2.1
  have hown : s.vm.findClass RX8 = some m.cls := X.2.2.2.2.2.1
  have hts := X.2.2.2.2.2.2.1
  refine W.eq (g2 := F0 m 44 ls []) rfl ?_
  unfold T_X8_falls_44 at hf
  obtain ⟨q1, h1, hf⟩ := s_bind hf
  have le2 : s_le q1.2 (e_J r).2 := by
    refine s_lek hem_J ?_ k
    rcases s_ite hf with ⟨-, hf⟩ | ⟨-, hf⟩
    · obtain ⟨q2, hh, hf⟩ := s_bind hf
      refine s_lz.tr (l_X8_beliefsOf hh) ?_
      obtain ⟨x3, -, hf⟩ := s_bind hf
      obtain ⟨σ4, hh, hf⟩ := s_bind hf
      refine s_lz.tr (s_le2 (s_si_2 hh)) ?_
      cases hf
      exact s_le.rf
    · obtain ⟨q5, hh, hf⟩ := s_bind hf
      refine s_lz.tr (l_X8_isStale hh) ?_
      rcases s_ite hf with ⟨-, hf⟩ | ⟨-, hf⟩
      · cases hf
        exact s_le.rf
      · cases hf
        exact s_le.rf
  refine lv_iload hx hb dX8_falls_44 (lv_at hl 4 rfl) ?_
  refine lv_aload_n hx hb dX8_falls_46 rfl (lv_at hl 0 rfl) ?_
  refine r_callV (Y := M_X8_lines) (v := some (.int q1.1)) X I w_2003 my_X8_lines (by omega) (t_X8_lines (G := G) (d := d + 6) h1) (b_X8_lines h1) rfl rfl hl.1 rfl (Nat.le_of_ble_eq_true rfl) hn le2 dX8_falls_47 (fun H locs cells slots I hn1 hn2 => ?_)
  have I : s_I G q1.2 s H locs := I
  have hn : cells + σ0.2.1 ≤ q1.2.2.1 ∧ slots + σ0.2.2.1 ≤ q1.2.2.2.1 := ⟨hn1, hn2⟩
  rcases s_ite hf with ⟨c3, hf⟩ | ⟨c3, hf⟩
  · refine lv_icmp_ge (tgt := 79) hx hb dX8_falls_50 (by decide) (fun _ => ?_) (fun n => absurd c3 n)
    obtain ⟨q2, h4, hf⟩ := s_bind hf
    obtain ⟨x3, h5, hf⟩ := s_bind hf
    obtain ⟨σ4, h6, hf⟩ := s_bind hf
    cases hf
    have k : s_V G (d + 8) M_X8_falls vs0 σ0 Y_X8_falls (109, [.ref v0, .int v1, .long v3, .int q2.1, .long 0, .int 0], σ4) (e_J r) := k
    have le7 : s_le σ4 (e_J r).2 := k.1
    have le8 := s_le.tr (s_le2 (s_si_2 h6)) le7
    refine lv_aload_n hx hb dX8_falls_79 rfl (lv_at hl 0 rfl) ?_
    refine lv_iload_n hx hb dX8_falls_80 rfl (lv_at hl 1 rfl) ?_
    refine r_callV (Y := M_X8_beliefsOf) (v := some (.int q2.1)) X I w_1987 my_X8_beliefsOf (by omega) (t_X8_beliefsOf (G := G) (d := d + 6) h4) (b_X8_beliefsOf h4) rfl rfl hl.1 rfl (Nat.le_of_ble_eq_true rfl) hn le8 dX8_falls_81 (fun H locs cells slots I hn1 hn2 => ?_)
    have I : s_I G q2.2 s H locs := I
    have hn : cells + σ0.2.1 ≤ q2.2.2.1 ∧ slots + σ0.2.2.1 ≤ q2.2.2.2.1 := ⟨hn1, hn2⟩
    refine lv_istore (lv' := [(5, .int q2.1), (0, .ref v0), (1, .int v1), (2, .int v2), (3, .long v3)]) hx hb dX8_falls_84 hl (by decide) rfl (fun ls hl => ?_)
    refine lv_aload_n hx hb dX8_falls_86 rfl (lv_at hl 1 rfl) ?_
    refine r_gr X I fl_X8_13 h5 dX8_falls_87 ?_
    refine lv_bipush (v := 58) hx hb dX8_falls_90 (by decide) ?_
    refine lv_iload_n hx hb dX8_falls_92 rfl (lv_at hl 2 rfl) ?_
    refine lv_iadd hx hb dX8_falls_93 ?_
    refine lv_iload hx hb dX8_falls_94 (lv_at hl 0 rfl) ?_
    refine lv_iconst (v := 1) hx hb dX8_falls_96 (by decide) ?_
    refine lv_iload_n hx hb dX8_falls_97 rfl (lv_at hl 3 rfl) ?_
    refine lv_ishl hx hb dX8_falls_98 ?_
    refine lv_iconst (v := (-1)) hx hb dX8_falls_99 (by decide) ?_
    refine lv_ixor hx hb dX8_falls_100 ?_
    refine lv_iand hx hb dX8_falls_101 ?_
    refine r_iast X I h6 dX8_falls_102 (fun H locs I => ?_)
    have hn := s_k2 (s_si_2 h6) hn
    refine lv_lconst (v := 0) hx hb dX8_falls_103 (by decide) ?_
    refine lv_lstore (lv' := [(6, .long 0), (5, .int q2.1), (0, .ref v0), (1, .int v1), (2, .int v2), (3, .long v3)]) hx hb dX8_falls_104 hl (by decide) rfl (fun ls hl => ?_)
    refine lv_iconst (v := 0) hx hb dX8_falls_106 (by decide) ?_
    refine lv_istore (lv' := [(8, .int 0), (6, .long 0), (5, .int q2.1), (0, .ref v0), (1, .int v1), (2, .int v2), (3, .long v3)]) hx hb dX8_falls_107 hl (by decide) rfl (fun ls hl => ?_)
    exact k.2 p e s m below meth c _ _ _ _ _ X I hn.1 hn.2 (lv_sub hl [3, 4, 6, 2, 1, 0] rfl)
  · refine lv_icmp_ge (tgt := 79) hx hb dX8_falls_50 (by decide) (fun n => absurd n c3) (fun _ => ?_)
    obtain ⟨q5, h9, hf⟩ := s_bind hf
    have le10 : s_le q5.2 (e_J r).2 := by
      refine s_lek hem_J ?_ k
      rcases s_ite hf with ⟨-, hf⟩ | ⟨-, hf⟩
      · cases hf
        exact s_le.rf
      · cases hf
        exact s_le.rf
    refine lv_lload_n hx hb dX8_falls_53 rfl (lv_at hl 3 rfl) ?_
    refine lv_aload_n hx hb dX8_falls_54 rfl (lv_at hl 0 rfl) ?_
    refine lv_iload hx hb dX8_falls_55 (lv_at hl 4 rfl) ?_
    refine r_callV (Y := M_X8_isStale) (v := some (.int q5.1)) X I w_2096 my_X8_isStale (by omega) (t_X8_isStale (G := G) (d := d + 2) h9) (b_X8_isStale h9) rfl rfl hl.1 rfl (Nat.le_of_ble_eq_true rfl) hn le10 dX8_falls_57 (fun H locs cells slots I hn1 hn2 => ?_)
    have I : s_I G q5.2 s H locs := I
    have hn : cells + σ0.2.1 ≤ q5.2.2.1 ∧ slots + σ0.2.2.1 ≤ q5.2.2.2.1 := ⟨hn1, hn2⟩
    rcases s_ite hf with ⟨c11, hf⟩ | ⟨c11, hf⟩
    · refine lv_if_eq (tgt := 70) hx hb dX8_falls_60 (by decide) (fun _ => ?_) (fun n => absurd c11 n)
      cases hf
      have k : s_V G (d + 8) M_X8_falls vs0 σ0 Y_X8_falls (71, [.ref v0, .int v1, .int v2, .int v5, .long 0, .long v3], q5.2) (e_J r) := k
      refine lv_lconst (v := 0) hx hb dX8_falls_70 (by decide) ?_
      exact k.2 p e s m below meth c _ _ _ _ _ X I hn.1 hn.2 (lv_sub hl [0, 1, 2, 4] rfl)
    · refine lv_if_eq (tgt := 70) hx hb dX8_falls_60 (by decide) (fun n => absurd n c11) (fun _ => ?_)
      cases hf
      have k : s_V G (d + 8) M_X8_falls vs0 σ0 Y_X8_falls (71, [.ref v0, .int v1, .int v2, .int v5, .long (1 <<< ((v5 : Int32).toInt64 &&& 63)), .long v3], q5.2) (e_J r) := k
      refine lv_lconst (v := 1) hx hb dX8_falls_63 (by decide) ?_
      refine lv_iload hx hb dX8_falls_64 (lv_at hl 4 rfl) ?_
      refine lv_lshl hx hb dX8_falls_66 rfl ?_
      refine lv_goto (tgt := 71) hx hb dX8_falls_67 (by decide) ?_
      exact k.2 p e s m below meth c _ _ _ _ _ X I hn.1 hn.2 (lv_sub hl [0, 1, 2, 4] rfl)
set_option maxRecDepth 100000 in
set_option maxHeartbeats 4000000 in
theorem v_X8_falls_71 {G : sG} {d : Nat} {vs0 : List Value} {σ0 : sS} {v0 : Nat} {v1 : Int32} {v2 : Int32} {v5 : Int32} {w0 : Int64} {w1 : Int64} {σ : sS} {z : sZ Int64} {r : Int64 × sS} (hf : T_X8_falls_71 v0 v1 v2 v5 w0 w1 σ = some z) (k : s_K G (d + 8) M_X8_falls vs0 σ0 Y_X8_falls e_J z r) : s_V G (d + 8) M_X8_falls vs0 σ0 Y_X8_falls (71, [.ref v0, .int v1, .int v2, .int v5, .long w0, .long w1], σ) (e_J r) := by
  have le0 : s_le σ (e_J r).2 := s_lek hem_J (l_X8_falls_71 hf) k
  refine ⟨le0, ?_⟩
  intro p e s m below meth c H locs cells slots ls X I hn1 hn2 hl
  have hn : cells + σ0.2.1 ≤ σ.2.1 ∧ slots + σ0.2.2.1 ≤ σ.2.2.1 := ⟨hn1, hn2⟩
  have hl : lv_has ls 9 [(0, .ref v0), (1, .int v1), (2, .int v2), (5, .int v5)] := hl
  have hx := X.1
  have hb : c.code = cX8_falls := X.2.1
  have hown : s.vm.findClass RX8 = some m.cls := X.2.2.2.2.2.1
  have hts := X.2.2.2.2.2.2.1
  refine W.eq (g2 := F0 m 71 ls [.long w0, .long w1]) rfl ?_
  unfold T_X8_falls_71 at hf
  cases hf
  have k : s_V G (d + 8) M_X8_falls vs0 σ0 Y_X8_falls (44, [.ref v0, .int v1, .int v2, .long (w1 ||| w0), .int (v5 + 1)], σ) (e_J r) := k
  refine lv_lor hx hb dX8_falls_71 ?_
  refine lv_lstore_n (lv' := [(3, .long (w1 ||| w0)), (0, .ref v0), (1, .int v1), (2, .int v2), (5, .int v5)]) hx hb dX8_falls_72 rfl hl (by decide) rfl (fun ls hl => ?_)
  refine lv_iinc (v := (v5 + 1)) (lv' := [(5, .int (v5 + 1)), (3, .long (w1 ||| w0)), (0, .ref v0), (1, .int v1), (2, .int v2)]) hx hb dX8_falls_73 hl (k := 4) rfl rfl (by decide) rfl (fun ls hl => ?_)
  refine lv_goto (tgt := 44) hx hb dX8_falls_76 (by decide) ?_
  exact k.2 p e s m below meth c _ _ _ _ _ X I hn.1 hn.2 (lv_sub hl [2, 3, 4, 1, 0] rfl)
set_option maxRecDepth 100000 in
set_option maxHeartbeats 4000000 in
theorem v_X8_falls_109 {G : sG} {d : Nat} {vs0 : List Value} {σ0 : sS} {v0 : Nat} {v1 : Int32} {v3 : Int64} {v5 : Int32} {v6 : Int64} {v8 : Int32} {σ : sS} {z : sZ Int64} {r : Int64 × sS} (hf : T_X8_falls_109 v0 v1 v3 v5 v6 v8 σ = some z) (k : s_K G (d + 8) M_X8_falls vs0 σ0 Y_X8_falls e_J z r) : s_V G (d + 8) M_X8_falls vs0 σ0 Y_X8_falls (109, [.ref v0, .int v1, .long v3, .int v5, .long v6, .int v8], σ) (e_J r) := by
  have le0 : s_le σ (e_J r).2 := s_lek hem_J (l_X8_falls_109 hf) k
  refine ⟨le0, ?_⟩
  intro p e s m below meth c H locs cells slots ls X I hn1 hn2 hl
  have hn : cells + σ0.2.1 ≤ σ.2.1 ∧ slots + σ0.2.2.1 ≤ σ.2.2.1 := ⟨hn1, hn2⟩
  have hl : lv_has ls 9 [(0, .ref v0), (1, .int v1), (3, .long v3), (5, .int v5), (6, .long v6), (8, .int v8)] := hl
  have hx := X.1
  have hb : c.code = cX8_falls := X.2.1
  have hown : s.vm.findClass RX8 = some m.cls := X.2.2.2.2.2.1
  have hts := X.2.2.2.2.2.2.1
  refine W.eq (g2 := F0 m 109 ls []) rfl ?_
  unfold T_X8_falls_109 at hf
  obtain ⟨q1, h1, hf⟩ := s_bind hf
  have le2 : s_le q1.2 (e_J r).2 := by
    refine s_lek hem_J ?_ k
    rcases s_ite hf with ⟨-, hf⟩ | ⟨-, hf⟩
    · obtain ⟨x2, -, hf⟩ := s_bind hf
      obtain ⟨σ3, hh, hf⟩ := s_bind hf
      refine s_lz.tr (s_le2 (s_si_2 hh)) ?_
      cases hf
      exact s_le.rf
    · obtain ⟨q4, hh, hf⟩ := s_bind hf
      refine s_lz.tr (l_X8_isStale hh) ?_
      rcases s_ite hf with ⟨-, hf⟩ | ⟨-, hf⟩
      · cases hf
        exact s_le.rf
      · cases hf
        exact s_le.rf
  refine lv_iload hx hb dX8_falls_109 (lv_at hl 5 rfl) ?_
  refine lv_aload_n hx hb dX8_falls_111 rfl (lv_at hl 0 rfl) ?_
  refine r_callV (Y := M_X8_lines) (v := some (.int q1.1)) X I w_2003 my_X8_lines (by omega) (t_X8_lines (G := G) (d := d + 6) h1) (b_X8_lines h1) rfl rfl hl.1 rfl (Nat.le_of_ble_eq_true rfl) hn le2 dX8_falls_112 (fun H locs cells slots I hn1 hn2 => ?_)
  have I : s_I G q1.2 s H locs := I
  have hn : cells + σ0.2.1 ≤ q1.2.2.1 ∧ slots + σ0.2.2.1 ≤ q1.2.2.2.1 := ⟨hn1, hn2⟩
  rcases s_ite hf with ⟨c3, hf⟩ | ⟨c3, hf⟩
  · refine lv_icmp_ge (tgt := 146) hx hb dX8_falls_115 (by decide) (fun _ => ?_) (fun n => absurd c3 n)
    obtain ⟨x2, h4, hf⟩ := s_bind hf
    obtain ⟨σ3, h5, hf⟩ := s_bind hf
    cases hf
    have k : _ = r := k
    subst k
    have le6 : s_le σ3 σ3 := s_le.rf
    refine lv_aload_n hx hb dX8_falls_146 rfl (lv_at hl 0 rfl) ?_
    refine r_gr X I fl_X8_13 h4 dX8_falls_147 ?_
    refine lv_bipush (v := 58) hx hb dX8_falls_150 (by decide) ?_
    refine lv_iload_n hx hb dX8_falls_152 rfl (lv_at hl 1 rfl) ?_
    refine lv_iadd hx hb dX8_falls_153 ?_
    refine lv_iload hx hb dX8_falls_154 (lv_at hl 3 rfl) ?_
    refine r_iast X I h5 dX8_falls_156 (fun H locs I => ?_)
    have hn := s_k2 (s_si_2 h5) hn
    refine lv_lload hx hb dX8_falls_157 (lv_at hl 4 rfl) ?_
    refine lv_lload_n hx hb dX8_falls_159 rfl (lv_at hl 2 rfl) ?_
    refine lv_ldc2 (own := RX8) hx hb hown (hts _ w_2091) dX8_falls_160 ?_
    refine lv_lxor hx hb dX8_falls_163 ?_
    refine lv_land hx hb dX8_falls_164 ?_
    exact r_lret X I rfl rfl hn dX8_falls_165
  · refine lv_icmp_ge (tgt := 146) hx hb dX8_falls_115 (by decide) (fun n => absurd n c3) (fun _ => ?_)
    obtain ⟨q4, h7, hf⟩ := s_bind hf
    have le8 : s_le q4.2 (e_J r).2 := by
      refine s_lek hem_J ?_ k
      rcases s_ite hf with ⟨-, hf⟩ | ⟨-, hf⟩
      · cases hf
        exact s_le.rf
      · cases hf
        exact s_le.rf
    refine lv_lload hx hb dX8_falls_118 (lv_at hl 4 rfl) ?_
    refine lv_aload_n hx hb dX8_falls_120 rfl (lv_at hl 0 rfl) ?_
    refine lv_iload hx hb dX8_falls_121 (lv_at hl 5 rfl) ?_
    refine r_callV (Y := M_X8_isStale) (v := some (.int q4.1)) X I w_2096 my_X8_isStale (by omega) (t_X8_isStale (G := G) (d := d + 2) h7) (b_X8_isStale h7) rfl rfl hl.1 rfl (Nat.le_of_ble_eq_true rfl) hn le8 dX8_falls_123 (fun H locs cells slots I hn1 hn2 => ?_)
    have I : s_I G q4.2 s H locs := I
    have hn : cells + σ0.2.1 ≤ q4.2.2.1 ∧ slots + σ0.2.2.1 ≤ q4.2.2.2.1 := ⟨hn1, hn2⟩
    rcases s_ite hf with ⟨c9, hf⟩ | ⟨c9, hf⟩
    · refine lv_if_eq (tgt := 136) hx hb dX8_falls_126 (by decide) (fun _ => ?_) (fun n => absurd c9 n)
      cases hf
      have k : s_V G (d + 8) M_X8_falls vs0 σ0 Y_X8_falls (137, [.ref v0, .int v1, .long v3, .int v5, .int v8, .long 0, .long v6], q4.2) (e_J r) := k
      refine lv_lconst (v := 0) hx hb dX8_falls_136 (by decide) ?_
      exact k.2 p e s m below meth c _ _ _ _ _ X I hn.1 hn.2 (lv_sub hl [0, 1, 2, 3, 5] rfl)
    · refine lv_if_eq (tgt := 136) hx hb dX8_falls_126 (by decide) (fun n => absurd n c9) (fun _ => ?_)
      cases hf
      have k : s_V G (d + 8) M_X8_falls vs0 σ0 Y_X8_falls (137, [.ref v0, .int v1, .long v3, .int v5, .int v8, .long (1 <<< ((v8 : Int32).toInt64 &&& 63)), .long v6], q4.2) (e_J r) := k
      refine lv_lconst (v := 1) hx hb dX8_falls_129 (by decide) ?_
      refine lv_iload hx hb dX8_falls_130 (lv_at hl 5 rfl) ?_
      refine lv_lshl hx hb dX8_falls_132 rfl ?_
      refine lv_goto (tgt := 137) hx hb dX8_falls_133 (by decide) ?_
      exact k.2 p e s m below meth c _ _ _ _ _ X I hn.1 hn.2 (lv_sub hl [0, 1, 2, 3, 5] rfl)
set_option maxRecDepth 100000 in
set_option maxHeartbeats 4000000 in
theorem v_X8_falls_137 {G : sG} {d : Nat} {vs0 : List Value} {σ0 : sS} {v0 : Nat} {v1 : Int32} {v3 : Int64} {v5 : Int32} {v8 : Int32} {w0 : Int64} {w1 : Int64} {σ : sS} {z : sZ Int64} {r : Int64 × sS} (hf : T_X8_falls_137 v0 v1 v3 v5 v8 w0 w1 σ = some z) (k : s_K G (d + 8) M_X8_falls vs0 σ0 Y_X8_falls e_J z r) : s_V G (d + 8) M_X8_falls vs0 σ0 Y_X8_falls (137, [.ref v0, .int v1, .long v3, .int v5, .int v8, .long w0, .long w1], σ) (e_J r) := by
  have le0 : s_le σ (e_J r).2 := s_lek hem_J (l_X8_falls_137 hf) k
  refine ⟨le0, ?_⟩
  intro p e s m below meth c H locs cells slots ls X I hn1 hn2 hl
  have hn : cells + σ0.2.1 ≤ σ.2.1 ∧ slots + σ0.2.2.1 ≤ σ.2.2.1 := ⟨hn1, hn2⟩
  have hl : lv_has ls 9 [(0, .ref v0), (1, .int v1), (3, .long v3), (5, .int v5), (8, .int v8)] := hl
  have hx := X.1
  have hb : c.code = cX8_falls := X.2.1
  have hown : s.vm.findClass RX8 = some m.cls := X.2.2.2.2.2.1
  have hts := X.2.2.2.2.2.2.1
  refine W.eq (g2 := F0 m 137 ls [.long w0, .long w1]) rfl ?_
  unfold T_X8_falls_137 at hf
  cases hf
  have k : s_V G (d + 8) M_X8_falls vs0 σ0 Y_X8_falls (109, [.ref v0, .int v1, .long v3, .int v5, .long (w1 ||| w0), .int (v8 + 1)], σ) (e_J r) := k
  refine lv_lor hx hb dX8_falls_137 ?_
  refine lv_lstore (lv' := [(6, .long (w1 ||| w0)), (0, .ref v0), (1, .int v1), (3, .long v3), (5, .int v5), (8, .int v8)]) hx hb dX8_falls_138 hl (by decide) rfl (fun ls hl => ?_)
  refine lv_iinc (v := (v8 + 1)) (lv' := [(8, .int (v8 + 1)), (6, .long (w1 ||| w0)), (0, .ref v0), (1, .int v1), (3, .long v3), (5, .int v5)]) hx hb dX8_falls_140 hl (k := 5) rfl rfl (by decide) rfl (fun ls hl => ?_)
  refine lv_goto (tgt := 109) hx hb dX8_falls_143 (by decide) ?_
  exact k.2 p e s m below meth c _ _ _ _ _ X I hn.1 hn.2 (lv_sub hl [2, 3, 4, 5, 1, 0] rfl)
theorem v_X8_falls {G : sG} {d : Nat} {vs0 : List Value} {σ0 : sS} {x : sL} {z : sZ Int64} {r : Int64 × sS} (hs : S_X8_falls x = some z) (k : s_K G (d + 8) M_X8_falls vs0 σ0 Y_X8_falls e_J z r) : s_V G (d + 8) M_X8_falls vs0 σ0 Y_X8_falls x (e_J r) := by
  obtain ⟨pc, vs, σ⟩ := x
  unfold S_X8_falls at hs
  dsimp only at hs
  rcases s_ite hs with ⟨c, hs⟩ | ⟨-, hs⟩
  · subst c
    unfold U_X8_falls_0 at hs
    obtain ⟨a0, g0, hs⟩ := s_bind hs
    obtain ⟨a1, g1, hs⟩ := s_bind hs
    obtain ⟨a2, g2, hs⟩ := s_bind hs
    obtain ⟨u9, ge, hs⟩ := s_bind hs
    rw [g_r_to g0, g_i_to g1, g_i_to g2, g_e_to ge]
    exact v_X8_falls_0 hs k
  rcases s_ite hs with ⟨c, hs⟩ | ⟨-, hs⟩
  · subst c
    unfold U_X8_falls_21 at hs
    obtain ⟨a0, g0, hs⟩ := s_bind hs
    obtain ⟨a1, g1, hs⟩ := s_bind hs
    obtain ⟨a2, g2, hs⟩ := s_bind hs
    obtain ⟨a3, g3, hs⟩ := s_bind hs
    obtain ⟨u9, ge, hs⟩ := s_bind hs
    rw [g_r_to g0, g_i_to g1, g_i_to g2, g_r_to g3, g_e_to ge]
    exact v_X8_falls_21 hs k
  rcases s_ite hs with ⟨c, hs⟩ | ⟨-, hs⟩
  · subst c
    unfold U_X8_falls_26 at hs
    obtain ⟨a0, g0, hs⟩ := s_bind hs
    obtain ⟨a1, g1, hs⟩ := s_bind hs
    obtain ⟨a2, g2, hs⟩ := s_bind hs
    obtain ⟨a3, g3, hs⟩ := s_bind hs
    obtain ⟨a4, g4, hs⟩ := s_bind hs
    obtain ⟨u9, ge, hs⟩ := s_bind hs
    rw [g_r_to g0, g_i_to g1, g_i_to g2, g_i_to g3, g_r_to g4, g_e_to ge]
    exact v_X8_falls_26 hs k
  rcases s_ite hs with ⟨c, hs⟩ | ⟨-, hs⟩
  · subst c
    unfold U_X8_falls_44 at hs
    obtain ⟨a0, g0, hs⟩ := s_bind hs
    obtain ⟨a1, g1, hs⟩ := s_bind hs
    obtain ⟨a2, g2, hs⟩ := s_bind hs
    obtain ⟨a3, g3, hs⟩ := s_bind hs
    obtain ⟨a4, g4, hs⟩ := s_bind hs
    obtain ⟨u9, ge, hs⟩ := s_bind hs
    rw [g_r_to g0, g_i_to g1, g_i_to g2, g_l_to g3, g_i_to g4, g_e_to ge]
    exact v_X8_falls_44 hs k
  rcases s_ite hs with ⟨c, hs⟩ | ⟨-, hs⟩
  · subst c
    unfold U_X8_falls_71 at hs
    obtain ⟨a0, g0, hs⟩ := s_bind hs
    obtain ⟨a1, g1, hs⟩ := s_bind hs
    obtain ⟨a2, g2, hs⟩ := s_bind hs
    obtain ⟨a3, g3, hs⟩ := s_bind hs
    obtain ⟨a4, g4, hs⟩ := s_bind hs
    obtain ⟨a5, g5, hs⟩ := s_bind hs
    obtain ⟨u9, ge, hs⟩ := s_bind hs
    rw [g_r_to g0, g_i_to g1, g_i_to g2, g_i_to g3, g_l_to g4, g_l_to g5, g_e_to ge]
    exact v_X8_falls_71 hs k
  rcases s_ite hs with ⟨c, hs⟩ | ⟨-, hs⟩
  · subst c
    unfold U_X8_falls_109 at hs
    obtain ⟨a0, g0, hs⟩ := s_bind hs
    obtain ⟨a1, g1, hs⟩ := s_bind hs
    obtain ⟨a2, g2, hs⟩ := s_bind hs
    obtain ⟨a3, g3, hs⟩ := s_bind hs
    obtain ⟨a4, g4, hs⟩ := s_bind hs
    obtain ⟨a5, g5, hs⟩ := s_bind hs
    obtain ⟨u9, ge, hs⟩ := s_bind hs
    rw [g_r_to g0, g_i_to g1, g_l_to g2, g_i_to g3, g_l_to g4, g_i_to g5, g_e_to ge]
    exact v_X8_falls_109 hs k
  rcases s_ite hs with ⟨c, hs⟩ | ⟨-, hs⟩
  · subst c
    unfold U_X8_falls_137 at hs
    obtain ⟨a0, g0, hs⟩ := s_bind hs
    obtain ⟨a1, g1, hs⟩ := s_bind hs
    obtain ⟨a2, g2, hs⟩ := s_bind hs
    obtain ⟨a3, g3, hs⟩ := s_bind hs
    obtain ⟨a4, g4, hs⟩ := s_bind hs
    obtain ⟨a5, g5, hs⟩ := s_bind hs
    obtain ⟨a6, g6, hs⟩ := s_bind hs
    obtain ⟨u9, ge, hs⟩ := s_bind hs
    rw [g_r_to g0, g_i_to g1, g_l_to g2, g_i_to g3, g_i_to g4, g_l_to g5, g_l_to g6, g_e_to ge]
    exact v_X8_falls_137 hs k
  cases hs
theorem t_X8_falls {G : sG} {d : Nat} {v0 : Nat} {v1 : Int32} {v2 : Int32} {σ : sS} {q : Int64 × sS} (h : F_X8_falls v0 v1 v2 σ = some q) : s_T G (d + 8) M_X8_falls [.ref v0, .int v1, .int v2] σ (e_J q) := by
  unfold F_X8_falls at h
  obtain ⟨-, -, h⟩ := s_bind h
  exact s_ofV rfl (by decide) (Nat.le_of_ble_eq_true rfl) rfl rfl (s_run_ind (V := fun x r => s_V G (d + 8) M_X8_falls [.ref v0, .int v1, .int v2] σ Y_X8_falls x (e_J r)) (fun x z r hs hk => v_X8_falls hs (by cases z <;> exact hk)) h)
/-! X8_holdAll -/
noncomputable def T_X8_holdAll_0 (v0 : Nat) (v1 : Int32) (v2 : Int32) (σ : sS) : Option (sZ Int32) :=
  some (.inl (5, [.ref v0, .int v1, .int v2, .int 1, .int 0], σ))
noncomputable def U_X8_holdAll_0 (vs : List Value) (σ : sS) : Option (sZ Int32) := (g_r vs).bind fun a0 => (g_i a0.2).bind fun a1 => (g_i a1.2).bind fun a2 => (g_e a2.2).bind fun _ => T_X8_holdAll_0 a0.1 a1.1 a2.1 σ
noncomputable def T_X8_holdAll_5 (v0 : Nat) (v1 : Int32) (v2 : Int32) (v3 : Int32) (v4 : Int32) (σ : sS) : Option (sZ Int32) :=
  (F_X8_formulas v0 σ).bind fun q1 =>
  if q1.1 ≤ v4 then (if (v3 = 0 ∨ v3 = 1) then (some (.inr (v3, q1.2))) else none)
  else (if v3 = 0 then (if (v3 = 0 ∨ v3 = 1) then (some (.inr (v3, q1.2))) else none)
  else (if ((v1 >>> (v4 &&& 31)) &&& 1) = 0 then (some (.inl (37, [.ref v0, .int v1, .int v2, .int v4], q1.2)))
  else ((F_X8_isTrue v0 v4 v2 q1.2).bind fun q2 =>
  if q2.1 = 0 then (some (.inl (42, [.ref v0, .int v1, .int v2, .int v4, .int 0], q2.2)))
  else (some (.inl (37, [.ref v0, .int v1, .int v2, .int v4], q2.2))))))
noncomputable def U_X8_holdAll_5 (vs : List Value) (σ : sS) : Option (sZ Int32) := (g_r vs).bind fun a0 => (g_i a0.2).bind fun a1 => (g_i a1.2).bind fun a2 => (g_i a2.2).bind fun a3 => (g_i a3.2).bind fun a4 => (g_e a4.2).bind fun _ => T_X8_holdAll_5 a0.1 a1.1 a2.1 a3.1 a4.1 σ
noncomputable def T_X8_holdAll_37 (v0 : Nat) (v1 : Int32) (v2 : Int32) (v4 : Int32) (σ : sS) : Option (sZ Int32) :=
  some (.inl (42, [.ref v0, .int v1, .int v2, .int v4, .int 1], σ))
noncomputable def U_X8_holdAll_37 (vs : List Value) (σ : sS) : Option (sZ Int32) := (g_r vs).bind fun a0 => (g_i a0.2).bind fun a1 => (g_i a1.2).bind fun a2 => (g_i a2.2).bind fun a3 => (g_e a3.2).bind fun _ => T_X8_holdAll_37 a0.1 a1.1 a2.1 a3.1 σ
noncomputable def T_X8_holdAll_42 (v0 : Nat) (v1 : Int32) (v2 : Int32) (v4 : Int32) (w0 : Int32) (σ : sS) : Option (sZ Int32) :=
  some (.inl (5, [.ref v0, .int v1, .int v2, .int w0, .int (v4 + 1)], σ))
noncomputable def U_X8_holdAll_42 (vs : List Value) (σ : sS) : Option (sZ Int32) := (g_r vs).bind fun a0 => (g_i a0.2).bind fun a1 => (g_i a1.2).bind fun a2 => (g_i a2.2).bind fun a3 => (g_i a3.2).bind fun a4 => (g_e a4.2).bind fun _ => T_X8_holdAll_42 a0.1 a1.1 a2.1 a3.1 a4.1 σ
noncomputable def S_X8_holdAll (x : sL) : Option (sZ Int32) := if x.1 = 0 then U_X8_holdAll_0 x.2.1 x.2.2 else if x.1 = 5 then U_X8_holdAll_5 x.2.1 x.2.2 else if x.1 = 37 then U_X8_holdAll_37 x.2.1 x.2.2 else if x.1 = 42 then U_X8_holdAll_42 x.2.1 x.2.2 else none
def Y_X8_holdAll (pc : Nat) : List Nat := if pc = 0 then [0, 1, 2] else if pc = 5 then [0, 1, 2, 3, 4] else if pc = 37 then [0, 1, 2, 4] else if pc = 42 then [0, 1, 2, 4] else []
noncomputable def F_X8_holdAll (v0 : Nat) (v1 : Int32) (v2 : Int32) (σ : sS) : Option (Int32 × sS) := (s_is σ v0 8).bind fun _ => s_run S_X8_holdAll (0, [.ref v0, .int v1, .int v2], σ)
theorem l_X8_holdAll_0 {v0 : Nat} {v1 : Int32} {v2 : Int32} {σ : sS} {z : sZ Int32} (hf : T_X8_holdAll_0 v0 v1 v2 σ = some z) : s_lz σ z := by
  unfold T_X8_holdAll_0 at hf
  cases hf
  exact s_le.rf
theorem l_X8_holdAll_5 {v0 : Nat} {v1 : Int32} {v2 : Int32} {v3 : Int32} {v4 : Int32} {σ : sS} {z : sZ Int32} (hf : T_X8_holdAll_5 v0 v1 v2 v3 v4 σ = some z) : s_lz σ z := by
  unfold T_X8_holdAll_5 at hf
  obtain ⟨q1, hh, hf⟩ := s_bind hf
  refine s_lz.tr (l_X8_formulas hh) ?_
  rcases s_ite hf with ⟨-, hf⟩ | ⟨-, hf⟩
  · rcases s_ite hf with ⟨-, hf⟩ | ⟨-, hf⟩
    · cases hf
      exact s_le.rf
    · cases hf
  · rcases s_ite hf with ⟨-, hf⟩ | ⟨-, hf⟩
    · rcases s_ite hf with ⟨-, hf⟩ | ⟨-, hf⟩
      · cases hf
        exact s_le.rf
      · cases hf
    · rcases s_ite hf with ⟨-, hf⟩ | ⟨-, hf⟩
      · cases hf
        exact s_le.rf
      · obtain ⟨q2, hh, hf⟩ := s_bind hf
        refine s_lz.tr (l_X8_isTrue hh) ?_
        rcases s_ite hf with ⟨-, hf⟩ | ⟨-, hf⟩
        · cases hf
          exact s_le.rf
        · cases hf
          exact s_le.rf
theorem l_X8_holdAll_37 {v0 : Nat} {v1 : Int32} {v2 : Int32} {v4 : Int32} {σ : sS} {z : sZ Int32} (hf : T_X8_holdAll_37 v0 v1 v2 v4 σ = some z) : s_lz σ z := by
  unfold T_X8_holdAll_37 at hf
  cases hf
  exact s_le.rf
theorem l_X8_holdAll_42 {v0 : Nat} {v1 : Int32} {v2 : Int32} {v4 : Int32} {w0 : Int32} {σ : sS} {z : sZ Int32} (hf : T_X8_holdAll_42 v0 v1 v2 v4 w0 σ = some z) : s_lz σ z := by
  unfold T_X8_holdAll_42 at hf
  cases hf
  exact s_le.rf
theorem l_X8_holdAll_s {x : sL} {z : sZ Int32} (hs : S_X8_holdAll x = some z) : s_lz x.2.2 z := by
  obtain ⟨pc, vs, σ⟩ := x
  unfold S_X8_holdAll at hs
  dsimp only at hs ⊢
  rcases s_ite hs with ⟨c, hs⟩ | ⟨-, hs⟩
  · subst c
    unfold U_X8_holdAll_0 at hs
    obtain ⟨a0, g0, hs⟩ := s_bind hs
    obtain ⟨a1, g1, hs⟩ := s_bind hs
    obtain ⟨a2, g2, hs⟩ := s_bind hs
    obtain ⟨u9, ge, hs⟩ := s_bind hs
    exact l_X8_holdAll_0 hs
  rcases s_ite hs with ⟨c, hs⟩ | ⟨-, hs⟩
  · subst c
    unfold U_X8_holdAll_5 at hs
    obtain ⟨a0, g0, hs⟩ := s_bind hs
    obtain ⟨a1, g1, hs⟩ := s_bind hs
    obtain ⟨a2, g2, hs⟩ := s_bind hs
    obtain ⟨a3, g3, hs⟩ := s_bind hs
    obtain ⟨a4, g4, hs⟩ := s_bind hs
    obtain ⟨u9, ge, hs⟩ := s_bind hs
    exact l_X8_holdAll_5 hs
  rcases s_ite hs with ⟨c, hs⟩ | ⟨-, hs⟩
  · subst c
    unfold U_X8_holdAll_37 at hs
    obtain ⟨a0, g0, hs⟩ := s_bind hs
    obtain ⟨a1, g1, hs⟩ := s_bind hs
    obtain ⟨a2, g2, hs⟩ := s_bind hs
    obtain ⟨a3, g3, hs⟩ := s_bind hs
    obtain ⟨u9, ge, hs⟩ := s_bind hs
    exact l_X8_holdAll_37 hs
  rcases s_ite hs with ⟨c, hs⟩ | ⟨-, hs⟩
  · subst c
    unfold U_X8_holdAll_42 at hs
    obtain ⟨a0, g0, hs⟩ := s_bind hs
    obtain ⟨a1, g1, hs⟩ := s_bind hs
    obtain ⟨a2, g2, hs⟩ := s_bind hs
    obtain ⟨a3, g3, hs⟩ := s_bind hs
    obtain ⟨a4, g4, hs⟩ := s_bind hs
    obtain ⟨u9, ge, hs⟩ := s_bind hs
    exact l_X8_holdAll_42 hs
  cases hs
theorem l_X8_holdAll {v0 : Nat} {v1 : Int32} {v2 : Int32} {σ : sS} {q : Int32 × sS} (h : F_X8_holdAll v0 v1 v2 σ = some q) : s_le σ q.2 := by
  unfold F_X8_holdAll at h
  obtain ⟨-, -, h⟩ := s_bind h
  exact s_run_ind (V := fun x r => s_le x.2.2 r.2) (fun x z r hs hk => by
    have h9 := l_X8_holdAll_s hs
    cases z with
    | inl y => exact s_le.tr h9 hk
    | inr q => cases hk; exact h9) h
theorem b_X8_holdAll {v0 : Nat} {v1 : Int32} {v2 : Int32} {σ : sS} {q : Int32 × sS} (h : F_X8_holdAll v0 v1 v2 σ = some q) : ∃ fs, σ.1 v0 = some (.inr (8, fs)) := by
  unfold F_X8_holdAll at h
  obtain ⟨u, hu, -⟩ := s_bind h
  exact s_is_to hu
set_option maxRecDepth 100000 in
set_option maxHeartbeats 4000000 in
theorem v_X8_holdAll_0 {G : sG} {d : Nat} {vs0 : List Value} {σ0 : sS} {v0 : Nat} {v1 : Int32} {v2 : Int32} {σ : sS} {z : sZ Int32} {r : Int32 × sS} (hf : T_X8_holdAll_0 v0 v1 v2 σ = some z) (k : s_K G (d + 4) M_X8_holdAll vs0 σ0 Y_X8_holdAll e_I z r) : s_V G (d + 4) M_X8_holdAll vs0 σ0 Y_X8_holdAll (0, [.ref v0, .int v1, .int v2], σ) (e_I r) := by
  have le0 : s_le σ (e_I r).2 := s_lek hem_I (l_X8_holdAll_0 hf) k
  refine ⟨le0, ?_⟩
  intro p e s m below meth c H locs cells slots ls X I hn1 hn2 hl
  have hn : cells + σ0.2.1 ≤ σ.2.1 ∧ slots + σ0.2.2.1 ≤ σ.2.2.1 := ⟨hn1, hn2⟩
  have hl : lv_has ls 5 [(0, .ref v0), (1, .int v1), (2, .int v2)] := hl
  have hx := X.1
  have hb : c.code = cX8_holdAll := X.2.1
  have hown : s.vm.findClass RX8 = some m.cls := X.2.2.2.2.2.1
  have hts := X.2.2.2.2.2.2.1
  refine W.eq (g2 := F0 m 0 ls []) rfl ?_
  unfold T_X8_holdAll_0 at hf
  cases hf
  have k : s_V G (d + 4) M_X8_holdAll vs0 σ0 Y_X8_holdAll (5, [.ref v0, .int v1, .int v2, .int 1, .int 0], σ) (e_I r) := k
  refine lv_iconst (v := 1) hx hb dX8_holdAll_0 (by decide) ?_
  refine lv_istore_n (lv' := [(3, .int 1), (0, .ref v0), (1, .int v1), (2, .int v2)]) hx hb dX8_holdAll_1 rfl hl (by decide) rfl (fun ls hl => ?_)
  refine lv_iconst (v := 0) hx hb dX8_holdAll_2 (by decide) ?_
  refine lv_istore (lv' := [(4, .int 0), (3, .int 1), (0, .ref v0), (1, .int v1), (2, .int v2)]) hx hb dX8_holdAll_3 hl (by decide) rfl (fun ls hl => ?_)
  exact k.2 p e s m below meth c _ _ _ _ _ X I hn.1 hn.2 (lv_sub hl [2, 3, 4, 1, 0] rfl)
set_option maxRecDepth 100000 in
set_option maxHeartbeats 4000000 in
theorem v_X8_holdAll_5 {G : sG} {d : Nat} {vs0 : List Value} {σ0 : sS} {v0 : Nat} {v1 : Int32} {v2 : Int32} {v3 : Int32} {v4 : Int32} {σ : sS} {z : sZ Int32} {r : Int32 × sS} (hf : T_X8_holdAll_5 v0 v1 v2 v3 v4 σ = some z) (k : s_K G (d + 4) M_X8_holdAll vs0 σ0 Y_X8_holdAll e_I z r) : s_V G (d + 4) M_X8_holdAll vs0 σ0 Y_X8_holdAll (5, [.ref v0, .int v1, .int v2, .int v3, .int v4], σ) (e_I r) := by
  have le0 : s_le σ (e_I r).2 := s_lek hem_I (l_X8_holdAll_5 hf) k
  refine ⟨le0, ?_⟩
  intro p e s m below meth c H locs cells slots ls X I hn1 hn2 hl
  have hn : cells + σ0.2.1 ≤ σ.2.1 ∧ slots + σ0.2.2.1 ≤ σ.2.2.1 := ⟨hn1, hn2⟩
  have hl : lv_has ls 5 [(0, .ref v0), (1, .int v1), (2, .int v2), (3, .int v3), (4, .int v4)] := hl
  have hx := X.1
  have hb : c.code = cX8_holdAll := X.2.1
  have hown : s.vm.findClass RX8 = some m.cls := X.2.2.2.2.2.1
  have hts := X.2.2.2.2.2.2.1
  refine W.eq (g2 := F0 m 5 ls []) rfl ?_
  unfold T_X8_holdAll_5 at hf
  obtain ⟨q1, h1, hf⟩ := s_bind hf
  have le2 : s_le q1.2 (e_I r).2 := by
    refine s_lek hem_I ?_ k
    rcases s_ite hf with ⟨-, hf⟩ | ⟨-, hf⟩
    · rcases s_ite hf with ⟨-, hf⟩ | ⟨-, hf⟩
      · cases hf
        exact s_le.rf
      · cases hf
    · rcases s_ite hf with ⟨-, hf⟩ | ⟨-, hf⟩
      · rcases s_ite hf with ⟨-, hf⟩ | ⟨-, hf⟩
        · cases hf
          exact s_le.rf
        · cases hf
      · rcases s_ite hf with ⟨-, hf⟩ | ⟨-, hf⟩
        · cases hf
          exact s_le.rf
        · obtain ⟨q2, hh, hf⟩ := s_bind hf
          refine s_lz.tr (l_X8_isTrue hh) ?_
          rcases s_ite hf with ⟨-, hf⟩ | ⟨-, hf⟩
          · cases hf
            exact s_le.rf
          · cases hf
            exact s_le.rf
  refine lv_iload hx hb dX8_holdAll_5 (lv_at hl 4 rfl) ?_
  refine lv_aload_n hx hb dX8_holdAll_7 rfl (lv_at hl 0 rfl) ?_
  refine r_callV (Y := M_X8_formulas) (v := some (.int q1.1)) X I w_1813 my_X8_formulas (by omega) (t_X8_formulas (G := G) (d := d + 2) h1) (b_X8_formulas h1) rfl rfl hl.1 rfl (Nat.le_of_ble_eq_true rfl) hn le2 dX8_holdAll_8 (fun H locs cells slots I hn1 hn2 => ?_)
  have I : s_I G q1.2 s H locs := I
  have hn : cells + σ0.2.1 ≤ q1.2.2.1 ∧ slots + σ0.2.2.1 ≤ q1.2.2.2.1 := ⟨hn1, hn2⟩
  rcases s_ite hf with ⟨c3, hf⟩ | ⟨c3, hf⟩
  · refine lv_icmp_ge (tgt := 49) hx hb dX8_holdAll_11 (by decide) (fun _ => ?_) (fun n => absurd c3 n)
    refine lv_iload_n hx hb dX8_holdAll_49 rfl (lv_at hl 3 rfl) ?_
    rcases s_ite hf with ⟨hchk, hf⟩ | ⟨-, hf⟩
    · cases hf
      have k : _ = r := k
      subst k
      exact r_iret X I rfl (s_nb hchk) rfl hn dX8_holdAll_50
    · cases hf
  · refine lv_icmp_ge (tgt := 49) hx hb dX8_holdAll_11 (by decide) (fun n => absurd n c3) (fun _ => ?_)
    refine lv_iload_n hx hb dX8_holdAll_14 rfl (lv_at hl 3 rfl) ?_
    rcases s_ite hf with ⟨c4, hf⟩ | ⟨c4, hf⟩
    · refine lv_if_eq (tgt := 49) hx hb dX8_holdAll_15 (by decide) (fun _ => ?_) (fun n => absurd c4 n)
      refine lv_iload_n hx hb dX8_holdAll_49 rfl (lv_at hl 3 rfl) ?_
      rcases s_ite hf with ⟨hchk, hf⟩ | ⟨-, hf⟩
      · cases hf
        have k : _ = r := k
        subst k
        exact r_iret X I rfl (s_nb hchk) rfl hn dX8_holdAll_50
      · cases hf
    · refine lv_if_eq (tgt := 49) hx hb dX8_holdAll_15 (by decide) (fun n => absurd n c4) (fun _ => ?_)
      refine lv_iload_n hx hb dX8_holdAll_18 rfl (lv_at hl 1 rfl) ?_
      refine lv_iload hx hb dX8_holdAll_19 (lv_at hl 4 rfl) ?_
      refine lv_ishr hx hb dX8_holdAll_21 ?_
      refine lv_iconst (v := 1) hx hb dX8_holdAll_22 (by decide) ?_
      refine lv_iand hx hb dX8_holdAll_23 ?_
      rcases s_ite hf with ⟨c5, hf⟩ | ⟨c5, hf⟩
      · refine lv_if_eq (tgt := 37) hx hb dX8_holdAll_24 (by decide) (fun _ => ?_) (fun n => absurd c5 n)
        cases hf
        have k : s_V G (d + 4) M_X8_holdAll vs0 σ0 Y_X8_holdAll (37, [.ref v0, .int v1, .int v2, .int v4], q1.2) (e_I r) := k
        exact k.2 p e s m below meth c _ _ _ _ _ X I hn.1 hn.2 (lv_sub hl [0, 1, 2, 4] rfl)
      · refine lv_if_eq (tgt := 37) hx hb dX8_holdAll_24 (by decide) (fun n => absurd n c5) (fun _ => ?_)
        obtain ⟨q2, h6, hf⟩ := s_bind hf
        have le7 : s_le q2.2 (e_I r).2 := by
          refine s_lek hem_I ?_ k
          rcases s_ite hf with ⟨-, hf⟩ | ⟨-, hf⟩
          · cases hf
            exact s_le.rf
          · cases hf
            exact s_le.rf
        refine lv_aload_n hx hb dX8_holdAll_27 rfl (lv_at hl 0 rfl) ?_
        refine lv_iload hx hb dX8_holdAll_28 (lv_at hl 4 rfl) ?_
        refine lv_iload_n hx hb dX8_holdAll_30 rfl (lv_at hl 2 rfl) ?_
        refine r_callV (Y := M_X8_isTrue) (v := some (.int q2.1)) X I w_1947 my_X8_isTrue (by omega) (t_X8_isTrue (G := G) (d := d + 0) h6) (b_X8_isTrue h6) rfl rfl hl.1 rfl (Nat.le_of_ble_eq_true rfl) hn le7 dX8_holdAll_31 (fun H locs cells slots I hn1 hn2 => ?_)
        have I : s_I G q2.2 s H locs := I
        have hn : cells + σ0.2.1 ≤ q2.2.2.1 ∧ slots + σ0.2.2.1 ≤ q2.2.2.2.1 := ⟨hn1, hn2⟩
        rcases s_ite hf with ⟨c8, hf⟩ | ⟨c8, hf⟩
        · refine lv_if_eq (tgt := 41) hx hb dX8_holdAll_34 (by decide) (fun _ => ?_) (fun n => absurd c8 n)
          cases hf
          have k : s_V G (d + 4) M_X8_holdAll vs0 σ0 Y_X8_holdAll (42, [.ref v0, .int v1, .int v2, .int v4, .int 0], q2.2) (e_I r) := k
          refine lv_iconst (v := 0) hx hb dX8_holdAll_41 (by decide) ?_
          exact k.2 p e s m below meth c _ _ _ _ _ X I hn.1 hn.2 (lv_sub hl [0, 1, 2, 4] rfl)
        · refine lv_if_eq (tgt := 41) hx hb dX8_holdAll_34 (by decide) (fun n => absurd n c8) (fun _ => ?_)
          cases hf
          have k : s_V G (d + 4) M_X8_holdAll vs0 σ0 Y_X8_holdAll (37, [.ref v0, .int v1, .int v2, .int v4], q2.2) (e_I r) := k
          exact k.2 p e s m below meth c _ _ _ _ _ X I hn.1 hn.2 (lv_sub hl [0, 1, 2, 4] rfl)
set_option maxRecDepth 100000 in
set_option maxHeartbeats 4000000 in
theorem v_X8_holdAll_37 {G : sG} {d : Nat} {vs0 : List Value} {σ0 : sS} {v0 : Nat} {v1 : Int32} {v2 : Int32} {v4 : Int32} {σ : sS} {z : sZ Int32} {r : Int32 × sS} (hf : T_X8_holdAll_37 v0 v1 v2 v4 σ = some z) (k : s_K G (d + 4) M_X8_holdAll vs0 σ0 Y_X8_holdAll e_I z r) : s_V G (d + 4) M_X8_holdAll vs0 σ0 Y_X8_holdAll (37, [.ref v0, .int v1, .int v2, .int v4], σ) (e_I r) := by
  have le0 : s_le σ (e_I r).2 := s_lek hem_I (l_X8_holdAll_37 hf) k
  refine ⟨le0, ?_⟩
  intro p e s m below meth c H locs cells slots ls X I hn1 hn2 hl
  have hn : cells + σ0.2.1 ≤ σ.2.1 ∧ slots + σ0.2.2.1 ≤ σ.2.2.1 := ⟨hn1, hn2⟩
  have hl : lv_has ls 5 [(0, .ref v0), (1, .int v1), (2, .int v2), (4, .int v4)] := hl
  have hx := X.1
  have hb : c.code = cX8_holdAll := X.2.1
  have hown : s.vm.findClass RX8 = some m.cls := X.2.2.2.2.2.1
  have hts := X.2.2.2.2.2.2.1
  refine W.eq (g2 := F0 m 37 ls []) rfl ?_
  unfold T_X8_holdAll_37 at hf
  cases hf
  have k : s_V G (d + 4) M_X8_holdAll vs0 σ0 Y_X8_holdAll (42, [.ref v0, .int v1, .int v2, .int v4, .int 1], σ) (e_I r) := k
  refine lv_iconst (v := 1) hx hb dX8_holdAll_37 (by decide) ?_
  refine lv_goto (tgt := 42) hx hb dX8_holdAll_38 (by decide) ?_
  exact k.2 p e s m below meth c _ _ _ _ _ X I hn.1 hn.2 (lv_sub hl [0, 1, 2, 3] rfl)
set_option maxRecDepth 100000 in
set_option maxHeartbeats 4000000 in
theorem v_X8_holdAll_42 {G : sG} {d : Nat} {vs0 : List Value} {σ0 : sS} {v0 : Nat} {v1 : Int32} {v2 : Int32} {v4 : Int32} {w0 : Int32} {σ : sS} {z : sZ Int32} {r : Int32 × sS} (hf : T_X8_holdAll_42 v0 v1 v2 v4 w0 σ = some z) (k : s_K G (d + 4) M_X8_holdAll vs0 σ0 Y_X8_holdAll e_I z r) : s_V G (d + 4) M_X8_holdAll vs0 σ0 Y_X8_holdAll (42, [.ref v0, .int v1, .int v2, .int v4, .int w0], σ) (e_I r) := by
  have le0 : s_le σ (e_I r).2 := s_lek hem_I (l_X8_holdAll_42 hf) k
  refine ⟨le0, ?_⟩
  intro p e s m below meth c H locs cells slots ls X I hn1 hn2 hl
  have hn : cells + σ0.2.1 ≤ σ.2.1 ∧ slots + σ0.2.2.1 ≤ σ.2.2.1 := ⟨hn1, hn2⟩
  have hl : lv_has ls 5 [(0, .ref v0), (1, .int v1), (2, .int v2), (4, .int v4)] := hl
  have hx := X.1
  have hb : c.code = cX8_holdAll := X.2.1
  have hown : s.vm.findClass RX8 = some m.cls := X.2.2.2.2.2.1
  have hts := X.2.2.2.2.2.2.1
  refine W.eq (g2 := F0 m 42 ls [.int w0]) rfl ?_
  unfold T_X8_holdAll_42 at hf
  cases hf
  have k : s_V G (d + 4) M_X8_holdAll vs0 σ0 Y_X8_holdAll (5, [.ref v0, .int v1, .int v2, .int w0, .int (v4 + 1)], σ) (e_I r) := k
  refine lv_istore_n (lv' := [(3, .int w0), (0, .ref v0), (1, .int v1), (2, .int v2), (4, .int v4)]) hx hb dX8_holdAll_42 rfl hl (by decide) rfl (fun ls hl => ?_)
  refine lv_iinc (v := (v4 + 1)) (lv' := [(4, .int (v4 + 1)), (3, .int w0), (0, .ref v0), (1, .int v1), (2, .int v2)]) hx hb dX8_holdAll_43 hl (k := 4) rfl rfl (by decide) rfl (fun ls hl => ?_)
  refine lv_goto (tgt := 5) hx hb dX8_holdAll_46 (by decide) ?_
  exact k.2 p e s m below meth c _ _ _ _ _ X I hn.1 hn.2 (lv_sub hl [2, 3, 4, 1, 0] rfl)
theorem v_X8_holdAll {G : sG} {d : Nat} {vs0 : List Value} {σ0 : sS} {x : sL} {z : sZ Int32} {r : Int32 × sS} (hs : S_X8_holdAll x = some z) (k : s_K G (d + 4) M_X8_holdAll vs0 σ0 Y_X8_holdAll e_I z r) : s_V G (d + 4) M_X8_holdAll vs0 σ0 Y_X8_holdAll x (e_I r) := by
  obtain ⟨pc, vs, σ⟩ := x
  unfold S_X8_holdAll at hs
  dsimp only at hs
  rcases s_ite hs with ⟨c, hs⟩ | ⟨-, hs⟩
  · subst c
    unfold U_X8_holdAll_0 at hs
    obtain ⟨a0, g0, hs⟩ := s_bind hs
    obtain ⟨a1, g1, hs⟩ := s_bind hs
    obtain ⟨a2, g2, hs⟩ := s_bind hs
    obtain ⟨u9, ge, hs⟩ := s_bind hs
    rw [g_r_to g0, g_i_to g1, g_i_to g2, g_e_to ge]
    exact v_X8_holdAll_0 hs k
  rcases s_ite hs with ⟨c, hs⟩ | ⟨-, hs⟩
  · subst c
    unfold U_X8_holdAll_5 at hs
    obtain ⟨a0, g0, hs⟩ := s_bind hs
    obtain ⟨a1, g1, hs⟩ := s_bind hs
    obtain ⟨a2, g2, hs⟩ := s_bind hs
    obtain ⟨a3, g3, hs⟩ := s_bind hs
    obtain ⟨a4, g4, hs⟩ := s_bind hs
    obtain ⟨u9, ge, hs⟩ := s_bind hs
    rw [g_r_to g0, g_i_to g1, g_i_to g2, g_i_to g3, g_i_to g4, g_e_to ge]
    exact v_X8_holdAll_5 hs k
  rcases s_ite hs with ⟨c, hs⟩ | ⟨-, hs⟩
  · subst c
    unfold U_X8_holdAll_37 at hs
    obtain ⟨a0, g0, hs⟩ := s_bind hs
    obtain ⟨a1, g1, hs⟩ := s_bind hs
    obtain ⟨a2, g2, hs⟩ := s_bind hs
    obtain ⟨a3, g3, hs⟩ := s_bind hs
    obtain ⟨u9, ge, hs⟩ := s_bind hs
    rw [g_r_to g0, g_i_to g1, g_i_to g2, g_i_to g3, g_e_to ge]
    exact v_X8_holdAll_37 hs k
  rcases s_ite hs with ⟨c, hs⟩ | ⟨-, hs⟩
  · subst c
    unfold U_X8_holdAll_42 at hs
    obtain ⟨a0, g0, hs⟩ := s_bind hs
    obtain ⟨a1, g1, hs⟩ := s_bind hs
    obtain ⟨a2, g2, hs⟩ := s_bind hs
    obtain ⟨a3, g3, hs⟩ := s_bind hs
    obtain ⟨a4, g4, hs⟩ := s_bind hs
    obtain ⟨u9, ge, hs⟩ := s_bind hs
    rw [g_r_to g0, g_i_to g1, g_i_to g2, g_i_to g3, g_i_to g4, g_e_to ge]
    exact v_X8_holdAll_42 hs k
  cases hs
theorem t_X8_holdAll {G : sG} {d : Nat} {v0 : Nat} {v1 : Int32} {v2 : Int32} {σ : sS} {q : Int32 × sS} (h : F_X8_holdAll v0 v1 v2 σ = some q) : s_T G (d + 4) M_X8_holdAll [.ref v0, .int v1, .int v2] σ (e_I q) := by
  unfold F_X8_holdAll at h
  obtain ⟨-, -, h⟩ := s_bind h
  exact s_ofV rfl (by decide) (Nat.le_of_ble_eq_true rfl) rfl rfl (s_run_ind (V := fun x r => s_V G (d + 4) M_X8_holdAll [.ref v0, .int v1, .int v2] σ Y_X8_holdAll x (e_I r)) (fun x z r hs hk => v_X8_holdAll hs (by cases z <;> exact hk)) h)
/-! X8_leastWorld -/
noncomputable def T_X8_leastWorld_0 (v0 : Nat) (v1 : Int32) (v2 : Int32) (σ : sS) : Option (sZ Int32) :=
  some (.inl (2, [.ref v0, .int v1, .int v2, .int 0], σ))
noncomputable def U_X8_leastWorld_0 (vs : List Value) (σ : sS) : Option (sZ Int32) := (g_r vs).bind fun a0 => (g_i a0.2).bind fun a1 => (g_i a1.2).bind fun a2 => (g_e a2.2).bind fun _ => T_X8_leastWorld_0 a0.1 a1.1 a2.1 σ
noncomputable def T_X8_leastWorld_2 (v0 : Nat) (v1 : Int32) (v2 : Int32) (v3 : Int32) (σ : sS) : Option (sZ Int32) :=
  (F_X8_worldsMany v0 σ).bind fun q1 =>
  if q1.1 ≤ v3 then (some (.inr ((-1), q1.2)))
  else ((F_X8_holdAll v0 v1 v3 q1.2).bind fun q2 =>
  if q2.1 = 0 then (some (.inl (34, [.ref v0, .int v1, .int v2, .int v3], q2.2)))
  else (if v2 < 0 then (some (.inr (v3, q2.2)))
  else ((F_X8_isTrue v0 v2 v3 q2.2).bind fun q3 =>
  if q3.1 = 0 then (some (.inr (v3, q3.2)))
  else (some (.inl (34, [.ref v0, .int v1, .int v2, .int v3], q3.2))))))
noncomputable def U_X8_leastWorld_2 (vs : List Value) (σ : sS) : Option (sZ Int32) := (g_r vs).bind fun a0 => (g_i a0.2).bind fun a1 => (g_i a1.2).bind fun a2 => (g_i a2.2).bind fun a3 => (g_e a3.2).bind fun _ => T_X8_leastWorld_2 a0.1 a1.1 a2.1 a3.1 σ
noncomputable def T_X8_leastWorld_34 (v0 : Nat) (v1 : Int32) (v2 : Int32) (v3 : Int32) (σ : sS) : Option (sZ Int32) :=
  some (.inl (2, [.ref v0, .int v1, .int v2, .int (v3 + 1)], σ))
noncomputable def U_X8_leastWorld_34 (vs : List Value) (σ : sS) : Option (sZ Int32) := (g_r vs).bind fun a0 => (g_i a0.2).bind fun a1 => (g_i a1.2).bind fun a2 => (g_i a2.2).bind fun a3 => (g_e a3.2).bind fun _ => T_X8_leastWorld_34 a0.1 a1.1 a2.1 a3.1 σ
noncomputable def S_X8_leastWorld (x : sL) : Option (sZ Int32) := if x.1 = 0 then U_X8_leastWorld_0 x.2.1 x.2.2 else if x.1 = 2 then U_X8_leastWorld_2 x.2.1 x.2.2 else if x.1 = 34 then U_X8_leastWorld_34 x.2.1 x.2.2 else none
def Y_X8_leastWorld (pc : Nat) : List Nat := if pc = 0 then [0, 1, 2] else if pc = 2 then [0, 1, 2, 3] else if pc = 34 then [0, 1, 2, 3] else []
noncomputable def F_X8_leastWorld (v0 : Nat) (v1 : Int32) (v2 : Int32) (σ : sS) : Option (Int32 × sS) := (s_is σ v0 8).bind fun _ => s_run S_X8_leastWorld (0, [.ref v0, .int v1, .int v2], σ)
theorem l_X8_leastWorld_0 {v0 : Nat} {v1 : Int32} {v2 : Int32} {σ : sS} {z : sZ Int32} (hf : T_X8_leastWorld_0 v0 v1 v2 σ = some z) : s_lz σ z := by
  unfold T_X8_leastWorld_0 at hf
  cases hf
  exact s_le.rf
theorem l_X8_leastWorld_2 {v0 : Nat} {v1 : Int32} {v2 : Int32} {v3 : Int32} {σ : sS} {z : sZ Int32} (hf : T_X8_leastWorld_2 v0 v1 v2 v3 σ = some z) : s_lz σ z := by
  unfold T_X8_leastWorld_2 at hf
  obtain ⟨q1, hh, hf⟩ := s_bind hf
  refine s_lz.tr (l_X8_worldsMany hh) ?_
  rcases s_ite hf with ⟨-, hf⟩ | ⟨-, hf⟩
  · cases hf
    exact s_le.rf
  · obtain ⟨q2, hh, hf⟩ := s_bind hf
    refine s_lz.tr (l_X8_holdAll hh) ?_
    rcases s_ite hf with ⟨-, hf⟩ | ⟨-, hf⟩
    · cases hf
      exact s_le.rf
    · rcases s_ite hf with ⟨-, hf⟩ | ⟨-, hf⟩
      · cases hf
        exact s_le.rf
      · obtain ⟨q3, hh, hf⟩ := s_bind hf
        refine s_lz.tr (l_X8_isTrue hh) ?_
        rcases s_ite hf with ⟨-, hf⟩ | ⟨-, hf⟩
        · cases hf
          exact s_le.rf
        · cases hf
          exact s_le.rf
theorem l_X8_leastWorld_34 {v0 : Nat} {v1 : Int32} {v2 : Int32} {v3 : Int32} {σ : sS} {z : sZ Int32} (hf : T_X8_leastWorld_34 v0 v1 v2 v3 σ = some z) : s_lz σ z := by
  unfold T_X8_leastWorld_34 at hf
  cases hf
  exact s_le.rf
theorem l_X8_leastWorld_s {x : sL} {z : sZ Int32} (hs : S_X8_leastWorld x = some z) : s_lz x.2.2 z := by
  obtain ⟨pc, vs, σ⟩ := x
  unfold S_X8_leastWorld at hs
  dsimp only at hs ⊢
  rcases s_ite hs with ⟨c, hs⟩ | ⟨-, hs⟩
  · subst c
    unfold U_X8_leastWorld_0 at hs
    obtain ⟨a0, g0, hs⟩ := s_bind hs
    obtain ⟨a1, g1, hs⟩ := s_bind hs
    obtain ⟨a2, g2, hs⟩ := s_bind hs
    obtain ⟨u9, ge, hs⟩ := s_bind hs
    exact l_X8_leastWorld_0 hs
  rcases s_ite hs with ⟨c, hs⟩ | ⟨-, hs⟩
  · subst c
    unfold U_X8_leastWorld_2 at hs
    obtain ⟨a0, g0, hs⟩ := s_bind hs
    obtain ⟨a1, g1, hs⟩ := s_bind hs
    obtain ⟨a2, g2, hs⟩ := s_bind hs
    obtain ⟨a3, g3, hs⟩ := s_bind hs
    obtain ⟨u9, ge, hs⟩ := s_bind hs
    exact l_X8_leastWorld_2 hs
  rcases s_ite hs with ⟨c, hs⟩ | ⟨-, hs⟩
  · subst c
    unfold U_X8_leastWorld_34 at hs
    obtain ⟨a0, g0, hs⟩ := s_bind hs
    obtain ⟨a1, g1, hs⟩ := s_bind hs
    obtain ⟨a2, g2, hs⟩ := s_bind hs
    obtain ⟨a3, g3, hs⟩ := s_bind hs
    obtain ⟨u9, ge, hs⟩ := s_bind hs
    exact l_X8_leastWorld_34 hs
  cases hs
theorem l_X8_leastWorld {v0 : Nat} {v1 : Int32} {v2 : Int32} {σ : sS} {q : Int32 × sS} (h : F_X8_leastWorld v0 v1 v2 σ = some q) : s_le σ q.2 := by
  unfold F_X8_leastWorld at h
  obtain ⟨-, -, h⟩ := s_bind h
  exact s_run_ind (V := fun x r => s_le x.2.2 r.2) (fun x z r hs hk => by
    have h9 := l_X8_leastWorld_s hs
    cases z with
    | inl y => exact s_le.tr h9 hk
    | inr q => cases hk; exact h9) h
theorem b_X8_leastWorld {v0 : Nat} {v1 : Int32} {v2 : Int32} {σ : sS} {q : Int32 × sS} (h : F_X8_leastWorld v0 v1 v2 σ = some q) : ∃ fs, σ.1 v0 = some (.inr (8, fs)) := by
  unfold F_X8_leastWorld at h
  obtain ⟨u, hu, -⟩ := s_bind h
  exact s_is_to hu
set_option maxRecDepth 100000 in
set_option maxHeartbeats 4000000 in
theorem v_X8_leastWorld_0 {G : sG} {d : Nat} {vs0 : List Value} {σ0 : sS} {v0 : Nat} {v1 : Int32} {v2 : Int32} {σ : sS} {z : sZ Int32} {r : Int32 × sS} (hf : T_X8_leastWorld_0 v0 v1 v2 σ = some z) (k : s_K G (d + 5) M_X8_leastWorld vs0 σ0 Y_X8_leastWorld e_I z r) : s_V G (d + 5) M_X8_leastWorld vs0 σ0 Y_X8_leastWorld (0, [.ref v0, .int v1, .int v2], σ) (e_I r) := by
  have le0 : s_le σ (e_I r).2 := s_lek hem_I (l_X8_leastWorld_0 hf) k
  refine ⟨le0, ?_⟩
  intro p e s m below meth c H locs cells slots ls X I hn1 hn2 hl
  have hn : cells + σ0.2.1 ≤ σ.2.1 ∧ slots + σ0.2.2.1 ≤ σ.2.2.1 := ⟨hn1, hn2⟩
  have hl : lv_has ls 4 [(0, .ref v0), (1, .int v1), (2, .int v2)] := hl
  have hx := X.1
  have hb : c.code = cX8_leastWorld := X.2.1
  have hown : s.vm.findClass RX8 = some m.cls := X.2.2.2.2.2.1
  have hts := X.2.2.2.2.2.2.1
  refine W.eq (g2 := F0 m 0 ls []) rfl ?_
  unfold T_X8_leastWorld_0 at hf
  cases hf
  have k : s_V G (d + 5) M_X8_leastWorld vs0 σ0 Y_X8_leastWorld (2, [.ref v0, .int v1, .int v2, .int 0], σ) (e_I r) := k
  refine lv_iconst (v := 0) hx hb dX8_leastWorld_0 (by decide) ?_
  refine lv_istore_n (lv' := [(3, .int 0), (0, .ref v0), (1, .int v1), (2, .int v2)]) hx hb dX8_leastWorld_1 rfl hl (by decide) rfl (fun ls hl => ?_)
  exact k.2 p e s m below meth c _ _ _ _ _ X I hn.1 hn.2 (lv_sub hl [1, 2, 3, 0] rfl)
set_option maxRecDepth 100000 in
set_option maxHeartbeats 4000000 in
theorem v_X8_leastWorld_2 {G : sG} {d : Nat} {vs0 : List Value} {σ0 : sS} {v0 : Nat} {v1 : Int32} {v2 : Int32} {v3 : Int32} {σ : sS} {z : sZ Int32} {r : Int32 × sS} (hf : T_X8_leastWorld_2 v0 v1 v2 v3 σ = some z) (k : s_K G (d + 5) M_X8_leastWorld vs0 σ0 Y_X8_leastWorld e_I z r) : s_V G (d + 5) M_X8_leastWorld vs0 σ0 Y_X8_leastWorld (2, [.ref v0, .int v1, .int v2, .int v3], σ) (e_I r) := by
  have le0 : s_le σ (e_I r).2 := s_lek hem_I (l_X8_leastWorld_2 hf) k
  refine ⟨le0, ?_⟩
  intro p e s m below meth c H locs cells slots ls X I hn1 hn2 hl
  have hn : cells + σ0.2.1 ≤ σ.2.1 ∧ slots + σ0.2.2.1 ≤ σ.2.2.1 := ⟨hn1, hn2⟩
  have hl : lv_has ls 4 [(0, .ref v0), (1, .int v1), (2, .int v2), (3, .int v3)] := hl
  have hx := X.1
  have hb : c.code = cX8_leastWorld := X.2.1
  have hown : s.vm.findClass RX8 = some m.cls := X.2.2.2.2.2.1
  have hts := X.2.2.2.2.2.2.1
  refine W.eq (g2 := F0 m 2 ls []) rfl ?_
  unfold T_X8_leastWorld_2 at hf
  obtain ⟨q1, h1, hf⟩ := s_bind hf
  have le2 : s_le q1.2 (e_I r).2 := by
    refine s_lek hem_I ?_ k
    rcases s_ite hf with ⟨-, hf⟩ | ⟨-, hf⟩
    · cases hf
      exact s_le.rf
    · obtain ⟨q2, hh, hf⟩ := s_bind hf
      refine s_lz.tr (l_X8_holdAll hh) ?_
      rcases s_ite hf with ⟨-, hf⟩ | ⟨-, hf⟩
      · cases hf
        exact s_le.rf
      · rcases s_ite hf with ⟨-, hf⟩ | ⟨-, hf⟩
        · cases hf
          exact s_le.rf
        · obtain ⟨q3, hh, hf⟩ := s_bind hf
          refine s_lz.tr (l_X8_isTrue hh) ?_
          rcases s_ite hf with ⟨-, hf⟩ | ⟨-, hf⟩
          · cases hf
            exact s_le.rf
          · cases hf
            exact s_le.rf
  refine lv_iload_n hx hb dX8_leastWorld_2 rfl (lv_at hl 3 rfl) ?_
  refine lv_aload_n hx hb dX8_leastWorld_3 rfl (lv_at hl 0 rfl) ?_
  refine r_callV (Y := M_X8_worldsMany) (v := some (.int q1.1)) X I w_1943 my_X8_worldsMany (by omega) (t_X8_worldsMany (G := G) (d := d + 2) h1) (b_X8_worldsMany h1) rfl rfl hl.1 rfl (Nat.le_of_ble_eq_true rfl) hn le2 dX8_leastWorld_4 (fun H locs cells slots I hn1 hn2 => ?_)
  have I : s_I G q1.2 s H locs := I
  have hn : cells + σ0.2.1 ≤ q1.2.2.1 ∧ slots + σ0.2.2.1 ≤ q1.2.2.2.1 := ⟨hn1, hn2⟩
  rcases s_ite hf with ⟨c3, hf⟩ | ⟨c3, hf⟩
  · refine lv_icmp_ge (tgt := 40) hx hb dX8_leastWorld_7 (by decide) (fun _ => ?_) (fun n => absurd c3 n)
    cases hf
    have k : _ = r := k
    subst k
    refine lv_iconst (v := (-1)) hx hb dX8_leastWorld_40 (by decide) ?_
    exact r_iret X I rfl rfl rfl hn dX8_leastWorld_41
  · refine lv_icmp_ge (tgt := 40) hx hb dX8_leastWorld_7 (by decide) (fun n => absurd n c3) (fun _ => ?_)
    obtain ⟨q2, h4, hf⟩ := s_bind hf
    have le5 : s_le q2.2 (e_I r).2 := by
      refine s_lek hem_I ?_ k
      rcases s_ite hf with ⟨-, hf⟩ | ⟨-, hf⟩
      · cases hf
        exact s_le.rf
      · rcases s_ite hf with ⟨-, hf⟩ | ⟨-, hf⟩
        · cases hf
          exact s_le.rf
        · obtain ⟨q3, hh, hf⟩ := s_bind hf
          refine s_lz.tr (l_X8_isTrue hh) ?_
          rcases s_ite hf with ⟨-, hf⟩ | ⟨-, hf⟩
          · cases hf
            exact s_le.rf
          · cases hf
            exact s_le.rf
    refine lv_aload_n hx hb dX8_leastWorld_10 rfl (lv_at hl 0 rfl) ?_
    refine lv_iload_n hx hb dX8_leastWorld_11 rfl (lv_at hl 1 rfl) ?_
    refine lv_iload_n hx hb dX8_leastWorld_12 rfl (lv_at hl 3 rfl) ?_
    refine r_callV (Y := M_X8_holdAll) (v := some (.int q2.1)) X I w_2140 my_X8_holdAll (by omega) (t_X8_holdAll (G := G) (d := d + 0) h4) (b_X8_holdAll h4) rfl rfl hl.1 rfl (Nat.le_of_ble_eq_true rfl) hn le5 dX8_leastWorld_13 (fun H locs cells slots I hn1 hn2 => ?_)
    have I : s_I G q2.2 s H locs := I
    have hn : cells + σ0.2.1 ≤ q2.2.2.1 ∧ slots + σ0.2.2.1 ≤ q2.2.2.2.1 := ⟨hn1, hn2⟩
    rcases s_ite hf with ⟨c6, hf⟩ | ⟨c6, hf⟩
    · refine lv_if_eq (tgt := 34) hx hb dX8_leastWorld_16 (by decide) (fun _ => ?_) (fun n => absurd c6 n)
      cases hf
      have k : s_V G (d + 5) M_X8_leastWorld vs0 σ0 Y_X8_leastWorld (34, [.ref v0, .int v1, .int v2, .int v3], q2.2) (e_I r) := k
      exact k.2 p e s m below meth c _ _ _ _ _ X I hn.1 hn.2 (lv_sub hl [0, 1, 2, 3] rfl)
    · refine lv_if_eq (tgt := 34) hx hb dX8_leastWorld_16 (by decide) (fun n => absurd n c6) (fun _ => ?_)
      refine lv_iload_n hx hb dX8_leastWorld_19 rfl (lv_at hl 2 rfl) ?_
      rcases s_ite hf with ⟨c7, hf⟩ | ⟨c7, hf⟩
      · refine lv_if_lt (tgt := 32) hx hb dX8_leastWorld_20 (by decide) (fun _ => ?_) (fun n => absurd c7 n)
        cases hf
        have k : _ = r := k
        subst k
        refine lv_iload_n hx hb dX8_leastWorld_32 rfl (lv_at hl 3 rfl) ?_
        exact r_iret X I rfl rfl rfl hn dX8_leastWorld_33
      · refine lv_if_lt (tgt := 32) hx hb dX8_leastWorld_20 (by decide) (fun n => absurd n c7) (fun _ => ?_)
        obtain ⟨q3, h8, hf⟩ := s_bind hf
        have le9 : s_le q3.2 (e_I r).2 := by
          refine s_lek hem_I ?_ k
          rcases s_ite hf with ⟨-, hf⟩ | ⟨-, hf⟩
          · cases hf
            exact s_le.rf
          · cases hf
            exact s_le.rf
        refine lv_aload_n hx hb dX8_leastWorld_23 rfl (lv_at hl 0 rfl) ?_
        refine lv_iload_n hx hb dX8_leastWorld_24 rfl (lv_at hl 2 rfl) ?_
        refine lv_iload_n hx hb dX8_leastWorld_25 rfl (lv_at hl 3 rfl) ?_
        refine r_callV (Y := M_X8_isTrue) (v := some (.int q3.1)) X I w_1947 my_X8_isTrue (by omega) (t_X8_isTrue (G := G) (d := d + 1) h8) (b_X8_isTrue h8) rfl rfl hl.1 rfl (Nat.le_of_ble_eq_true rfl) hn le9 dX8_leastWorld_26 (fun H locs cells slots I hn1 hn2 => ?_)
        have I : s_I G q3.2 s H locs := I
        have hn : cells + σ0.2.1 ≤ q3.2.2.1 ∧ slots + σ0.2.2.1 ≤ q3.2.2.2.1 := ⟨hn1, hn2⟩
        rcases s_ite hf with ⟨c10, hf⟩ | ⟨c10, hf⟩
        · refine lv_if_ne (tgt := 34) hx hb dX8_leastWorld_29 (by decide) (fun n => absurd c10 n) (fun _ => ?_)
          cases hf
          have k : _ = r := k
          subst k
          refine lv_iload_n hx hb dX8_leastWorld_32 rfl (lv_at hl 3 rfl) ?_
          exact r_iret X I rfl rfl rfl hn dX8_leastWorld_33
        · refine lv_if_ne (tgt := 34) hx hb dX8_leastWorld_29 (by decide) (fun _ => ?_) (fun n => absurd n c10)
          cases hf
          have k : s_V G (d + 5) M_X8_leastWorld vs0 σ0 Y_X8_leastWorld (34, [.ref v0, .int v1, .int v2, .int v3], q3.2) (e_I r) := k
          exact k.2 p e s m below meth c _ _ _ _ _ X I hn.1 hn.2 (lv_sub hl [0, 1, 2, 3] rfl)
set_option maxRecDepth 100000 in
set_option maxHeartbeats 4000000 in
theorem v_X8_leastWorld_34 {G : sG} {d : Nat} {vs0 : List Value} {σ0 : sS} {v0 : Nat} {v1 : Int32} {v2 : Int32} {v3 : Int32} {σ : sS} {z : sZ Int32} {r : Int32 × sS} (hf : T_X8_leastWorld_34 v0 v1 v2 v3 σ = some z) (k : s_K G (d + 5) M_X8_leastWorld vs0 σ0 Y_X8_leastWorld e_I z r) : s_V G (d + 5) M_X8_leastWorld vs0 σ0 Y_X8_leastWorld (34, [.ref v0, .int v1, .int v2, .int v3], σ) (e_I r) := by
  have le0 : s_le σ (e_I r).2 := s_lek hem_I (l_X8_leastWorld_34 hf) k
  refine ⟨le0, ?_⟩
  intro p e s m below meth c H locs cells slots ls X I hn1 hn2 hl
  have hn : cells + σ0.2.1 ≤ σ.2.1 ∧ slots + σ0.2.2.1 ≤ σ.2.2.1 := ⟨hn1, hn2⟩
  have hl : lv_has ls 4 [(0, .ref v0), (1, .int v1), (2, .int v2), (3, .int v3)] := hl
  have hx := X.1
  have hb : c.code = cX8_leastWorld := X.2.1
  have hown : s.vm.findClass RX8 = some m.cls := X.2.2.2.2.2.1
  have hts := X.2.2.2.2.2.2.1
  refine W.eq (g2 := F0 m 34 ls []) rfl ?_
  unfold T_X8_leastWorld_34 at hf
  cases hf
  have k : s_V G (d + 5) M_X8_leastWorld vs0 σ0 Y_X8_leastWorld (2, [.ref v0, .int v1, .int v2, .int (v3 + 1)], σ) (e_I r) := k
  refine lv_iinc (v := (v3 + 1)) (lv' := [(3, .int (v3 + 1)), (0, .ref v0), (1, .int v1), (2, .int v2)]) hx hb dX8_leastWorld_34 hl (k := 3) rfl rfl (by decide) rfl (fun ls hl => ?_)
  refine lv_goto (tgt := 2) hx hb dX8_leastWorld_37 (by decide) ?_
  exact k.2 p e s m below meth c _ _ _ _ _ X I hn.1 hn.2 (lv_sub hl [1, 2, 3, 0] rfl)
theorem v_X8_leastWorld {G : sG} {d : Nat} {vs0 : List Value} {σ0 : sS} {x : sL} {z : sZ Int32} {r : Int32 × sS} (hs : S_X8_leastWorld x = some z) (k : s_K G (d + 5) M_X8_leastWorld vs0 σ0 Y_X8_leastWorld e_I z r) : s_V G (d + 5) M_X8_leastWorld vs0 σ0 Y_X8_leastWorld x (e_I r) := by
  obtain ⟨pc, vs, σ⟩ := x
  unfold S_X8_leastWorld at hs
  dsimp only at hs
  rcases s_ite hs with ⟨c, hs⟩ | ⟨-, hs⟩
  · subst c
    unfold U_X8_leastWorld_0 at hs
    obtain ⟨a0, g0, hs⟩ := s_bind hs
    obtain ⟨a1, g1, hs⟩ := s_bind hs
    obtain ⟨a2, g2, hs⟩ := s_bind hs
    obtain ⟨u9, ge, hs⟩ := s_bind hs
    rw [g_r_to g0, g_i_to g1, g_i_to g2, g_e_to ge]
    exact v_X8_leastWorld_0 hs k
  rcases s_ite hs with ⟨c, hs⟩ | ⟨-, hs⟩
  · subst c
    unfold U_X8_leastWorld_2 at hs
    obtain ⟨a0, g0, hs⟩ := s_bind hs
    obtain ⟨a1, g1, hs⟩ := s_bind hs
    obtain ⟨a2, g2, hs⟩ := s_bind hs
    obtain ⟨a3, g3, hs⟩ := s_bind hs
    obtain ⟨u9, ge, hs⟩ := s_bind hs
    rw [g_r_to g0, g_i_to g1, g_i_to g2, g_i_to g3, g_e_to ge]
    exact v_X8_leastWorld_2 hs k
  rcases s_ite hs with ⟨c, hs⟩ | ⟨-, hs⟩
  · subst c
    unfold U_X8_leastWorld_34 at hs
    obtain ⟨a0, g0, hs⟩ := s_bind hs
    obtain ⟨a1, g1, hs⟩ := s_bind hs
    obtain ⟨a2, g2, hs⟩ := s_bind hs
    obtain ⟨a3, g3, hs⟩ := s_bind hs
    obtain ⟨u9, ge, hs⟩ := s_bind hs
    rw [g_r_to g0, g_i_to g1, g_i_to g2, g_i_to g3, g_e_to ge]
    exact v_X8_leastWorld_34 hs k
  cases hs
theorem t_X8_leastWorld {G : sG} {d : Nat} {v0 : Nat} {v1 : Int32} {v2 : Int32} {σ : sS} {q : Int32 × sS} (h : F_X8_leastWorld v0 v1 v2 σ = some q) : s_T G (d + 5) M_X8_leastWorld [.ref v0, .int v1, .int v2] σ (e_I q) := by
  unfold F_X8_leastWorld at h
  obtain ⟨-, -, h⟩ := s_bind h
  exact s_ofV rfl (by decide) (Nat.le_of_ble_eq_true rfl) rfl rfl (s_run_ind (V := fun x r => s_V G (d + 5) M_X8_leastWorld [.ref v0, .int v1, .int v2] σ Y_X8_leastWorld x (e_I r)) (fun x z r hs hk => v_X8_leastWorld hs (by cases z <;> exact hk)) h)
/-! X8_follows -/
noncomputable def T_X8_follows_0 (v0 : Nat) (v1 : Int32) (v2 : Int32) (σ : sS) : Option (sZ Int32) :=
  (s_pf σ v0 8 0 (.int 0)).bind fun σ1 =>
  (F_X8_noCustomer v1 σ1).bind fun q2 =>
  if q2.1 = 0 then ((F_X8_noFormula v0 v2 q2.2).bind fun q3 =>
  if q3.1 = 0 then (some (.inl (26, [.ref v0, .int v1, .int v2, .int 0, .ref v0], q3.2)))
  else (some (.inl (21, [.ref v0, .int v1, .int v2, .ref v0], q3.2))))
  else (some (.inl (21, [.ref v0, .int v1, .int v2, .ref v0], q2.2)))
noncomputable def U_X8_follows_0 (vs : List Value) (σ : sS) : Option (sZ Int32) := (g_r vs).bind fun a0 => (g_i a0.2).bind fun a1 => (g_i a1.2).bind fun a2 => (g_e a2.2).bind fun _ => T_X8_follows_0 a0.1 a1.1 a2.1 σ
noncomputable def T_X8_follows_21 (v0 : Nat) (v1 : Int32) (v2 : Int32) (w0 : Nat) (σ : sS) : Option (sZ Int32) :=
  some (.inl (26, [.ref v0, .int v1, .int v2, .int 1, .ref w0], σ))
noncomputable def U_X8_follows_21 (vs : List Value) (σ : sS) : Option (sZ Int32) := (g_r vs).bind fun a0 => (g_i a0.2).bind fun a1 => (g_i a1.2).bind fun a2 => (g_r a2.2).bind fun a3 => (g_e a3.2).bind fun _ => T_X8_follows_21 a0.1 a1.1 a2.1 a3.1 σ
noncomputable def T_X8_follows_26 (v0 : Nat) (v1 : Int32) (v2 : Int32) (w0 : Int32) (w1 : Nat) (σ : sS) : Option (sZ Int32) :=
  (F_X8_throwsIf w1 w0 1 σ).bind fun q1 =>
  if q1.1 = 0 then ((F_X8_beliefsOf v0 v1 q1.2).bind fun q2 =>
  (F_X8_leastWorld v0 q2.1 v2 q2.2).bind fun q3 =>
  if (0 : Int32) ≤ q3.1 then (some (.inr (0, q3.2)))
  else (some (.inr (1, q3.2))))
  else (some (.inr (0, q1.2)))
noncomputable def U_X8_follows_26 (vs : List Value) (σ : sS) : Option (sZ Int32) := (g_r vs).bind fun a0 => (g_i a0.2).bind fun a1 => (g_i a1.2).bind fun a2 => (g_i a2.2).bind fun a3 => (g_r a3.2).bind fun a4 => (g_e a4.2).bind fun _ => T_X8_follows_26 a0.1 a1.1 a2.1 a3.1 a4.1 σ
noncomputable def S_X8_follows (x : sL) : Option (sZ Int32) := if x.1 = 0 then U_X8_follows_0 x.2.1 x.2.2 else if x.1 = 21 then U_X8_follows_21 x.2.1 x.2.2 else if x.1 = 26 then U_X8_follows_26 x.2.1 x.2.2 else none
def Y_X8_follows (pc : Nat) : List Nat := if pc = 0 then [0, 1, 2] else if pc = 21 then [0, 1, 2] else if pc = 26 then [0, 1, 2] else []
noncomputable def F_X8_follows (v0 : Nat) (v1 : Int32) (v2 : Int32) (σ : sS) : Option (Int32 × sS) := (s_is σ v0 8).bind fun _ => s_run S_X8_follows (0, [.ref v0, .int v1, .int v2], σ)
theorem l_X8_follows_0 {v0 : Nat} {v1 : Int32} {v2 : Int32} {σ : sS} {z : sZ Int32} (hf : T_X8_follows_0 v0 v1 v2 σ = some z) : s_lz σ z := by
  unfold T_X8_follows_0 at hf
  obtain ⟨σ1, hh, hf⟩ := s_bind hf
  refine s_lz.tr (s_le2 (s_pf_2 hh)) ?_
  obtain ⟨q2, hh, hf⟩ := s_bind hf
  refine s_lz.tr (l_X8_noCustomer hh) ?_
  rcases s_ite hf with ⟨-, hf⟩ | ⟨-, hf⟩
  · obtain ⟨q3, hh, hf⟩ := s_bind hf
    refine s_lz.tr (l_X8_noFormula hh) ?_
    rcases s_ite hf with ⟨-, hf⟩ | ⟨-, hf⟩
    · cases hf
      exact s_le.rf
    · cases hf
      exact s_le.rf
  · cases hf
    exact s_le.rf
theorem l_X8_follows_21 {v0 : Nat} {v1 : Int32} {v2 : Int32} {w0 : Nat} {σ : sS} {z : sZ Int32} (hf : T_X8_follows_21 v0 v1 v2 w0 σ = some z) : s_lz σ z := by
  unfold T_X8_follows_21 at hf
  cases hf
  exact s_le.rf
theorem l_X8_follows_26 {v0 : Nat} {v1 : Int32} {v2 : Int32} {w0 : Int32} {w1 : Nat} {σ : sS} {z : sZ Int32} (hf : T_X8_follows_26 v0 v1 v2 w0 w1 σ = some z) : s_lz σ z := by
  unfold T_X8_follows_26 at hf
  obtain ⟨q1, hh, hf⟩ := s_bind hf
  refine s_lz.tr (l_X8_throwsIf hh) ?_
  rcases s_ite hf with ⟨-, hf⟩ | ⟨-, hf⟩
  · obtain ⟨q2, hh, hf⟩ := s_bind hf
    refine s_lz.tr (l_X8_beliefsOf hh) ?_
    obtain ⟨q3, hh, hf⟩ := s_bind hf
    refine s_lz.tr (l_X8_leastWorld hh) ?_
    rcases s_ite hf with ⟨-, hf⟩ | ⟨-, hf⟩
    · cases hf
      exact s_le.rf
    · cases hf
      exact s_le.rf
  · cases hf
    exact s_le.rf
theorem l_X8_follows_s {x : sL} {z : sZ Int32} (hs : S_X8_follows x = some z) : s_lz x.2.2 z := by
  obtain ⟨pc, vs, σ⟩ := x
  unfold S_X8_follows at hs
  dsimp only at hs ⊢
  rcases s_ite hs with ⟨c, hs⟩ | ⟨-, hs⟩
  · subst c
    unfold U_X8_follows_0 at hs
    obtain ⟨a0, g0, hs⟩ := s_bind hs
    obtain ⟨a1, g1, hs⟩ := s_bind hs
    obtain ⟨a2, g2, hs⟩ := s_bind hs
    obtain ⟨u9, ge, hs⟩ := s_bind hs
    exact l_X8_follows_0 hs
  rcases s_ite hs with ⟨c, hs⟩ | ⟨-, hs⟩
  · subst c
    unfold U_X8_follows_21 at hs
    obtain ⟨a0, g0, hs⟩ := s_bind hs
    obtain ⟨a1, g1, hs⟩ := s_bind hs
    obtain ⟨a2, g2, hs⟩ := s_bind hs
    obtain ⟨a3, g3, hs⟩ := s_bind hs
    obtain ⟨u9, ge, hs⟩ := s_bind hs
    exact l_X8_follows_21 hs
  rcases s_ite hs with ⟨c, hs⟩ | ⟨-, hs⟩
  · subst c
    unfold U_X8_follows_26 at hs
    obtain ⟨a0, g0, hs⟩ := s_bind hs
    obtain ⟨a1, g1, hs⟩ := s_bind hs
    obtain ⟨a2, g2, hs⟩ := s_bind hs
    obtain ⟨a3, g3, hs⟩ := s_bind hs
    obtain ⟨a4, g4, hs⟩ := s_bind hs
    obtain ⟨u9, ge, hs⟩ := s_bind hs
    exact l_X8_follows_26 hs
  cases hs
theorem l_X8_follows {v0 : Nat} {v1 : Int32} {v2 : Int32} {σ : sS} {q : Int32 × sS} (h : F_X8_follows v0 v1 v2 σ = some q) : s_le σ q.2 := by
  unfold F_X8_follows at h
  obtain ⟨-, -, h⟩ := s_bind h
  exact s_run_ind (V := fun x r => s_le x.2.2 r.2) (fun x z r hs hk => by
    have h9 := l_X8_follows_s hs
    cases z with
    | inl y => exact s_le.tr h9 hk
    | inr q => cases hk; exact h9) h
theorem b_X8_follows {v0 : Nat} {v1 : Int32} {v2 : Int32} {σ : sS} {q : Int32 × sS} (h : F_X8_follows v0 v1 v2 σ = some q) : ∃ fs, σ.1 v0 = some (.inr (8, fs)) := by
  unfold F_X8_follows at h
  obtain ⟨u, hu, -⟩ := s_bind h
  exact s_is_to hu
set_option maxRecDepth 100000 in
set_option maxHeartbeats 4000000 in
theorem v_X8_follows_0 {G : sG} {d : Nat} {vs0 : List Value} {σ0 : sS} {v0 : Nat} {v1 : Int32} {v2 : Int32} {σ : sS} {z : sZ Int32} {r : Int32 × sS} (hf : T_X8_follows_0 v0 v1 v2 σ = some z) (k : s_K G (d + 6) M_X8_follows vs0 σ0 Y_X8_follows e_I z r) : s_V G (d + 6) M_X8_follows vs0 σ0 Y_X8_follows (0, [.ref v0, .int v1, .int v2], σ) (e_I r) := by
  have le0 : s_le σ (e_I r).2 := s_lek hem_I (l_X8_follows_0 hf) k
  refine ⟨le0, ?_⟩
  intro p e s m below meth c H locs cells slots ls X I hn1 hn2 hl
  have hn : cells + σ0.2.1 ≤ σ.2.1 ∧ slots + σ0.2.2.1 ≤ σ.2.2.1 := ⟨hn1, hn2⟩
  have hl : lv_has ls 3 [(0, .ref v0), (1, .int v1), (2, .int v2)] := hl
  have hx := X.1
  have hb : c.code = cX8_follows := X.2.1
  have hown : s.vm.findClass RX8 = some m.cls := X.2.2.2.2.2.1
  have hts := X.2.2.2.2.2.2.1
  refine W.eq (g2 := F0 m 0 ls []) rfl ?_
  unfold T_X8_follows_0 at hf
  obtain ⟨σ1, h1, hf⟩ := s_bind hf
  obtain ⟨q2, h2, hf⟩ := s_bind hf
  have le3 : s_le q2.2 (e_I r).2 := by
    refine s_lek hem_I ?_ k
    rcases s_ite hf with ⟨-, hf⟩ | ⟨-, hf⟩
    · obtain ⟨q3, hh, hf⟩ := s_bind hf
      refine s_lz.tr (l_X8_noFormula hh) ?_
      rcases s_ite hf with ⟨-, hf⟩ | ⟨-, hf⟩
      · cases hf
        exact s_le.rf
      · cases hf
        exact s_le.rf
    · cases hf
      exact s_le.rf
  have le4 := s_le.tr (l_X8_noCustomer h2) le3
  refine lv_aload_n hx hb dX8_follows_0 rfl (lv_at hl 0 rfl) ?_
  refine lv_iconst (v := 0) hx hb dX8_follows_1 (by decide) ?_
  refine r_put X I fp_X8_3 (fun h => by cases h) h1 rfl rfl dX8_follows_2 (fun H locs I => ?_)
  have hn := s_k2 (s_pf_2 h1) hn
  refine lv_aload_n hx hb dX8_follows_5 rfl (lv_at hl 0 rfl) ?_
  refine lv_iload_n hx hb dX8_follows_6 rfl (lv_at hl 1 rfl) ?_
  refine r_callS (Y := M_X8_noCustomer) (v := some (.int q2.1)) X I w_1984 my_X8_noCustomer (by omega) (t_X8_noCustomer (G := G) (d := d + 3) h2) rfl rfl hl.1 rfl (Nat.le_of_ble_eq_true rfl) hn le3 dX8_follows_7 (fun H locs cells slots I hn1 hn2 => ?_)
  have I : s_I G q2.2 s H locs := I
  have hn : cells + σ0.2.1 ≤ q2.2.2.1 ∧ slots + σ0.2.2.1 ≤ q2.2.2.2.1 := ⟨hn1, hn2⟩
  rcases s_ite hf with ⟨c5, hf⟩ | ⟨c5, hf⟩
  · refine lv_if_ne (tgt := 21) hx hb dX8_follows_10 (by decide) (fun n => absurd c5 n) (fun _ => ?_)
    obtain ⟨q3, h6, hf⟩ := s_bind hf
    have le7 : s_le q3.2 (e_I r).2 := by
      refine s_lek hem_I ?_ k
      rcases s_ite hf with ⟨-, hf⟩ | ⟨-, hf⟩
      · cases hf
        exact s_le.rf
      · cases hf
        exact s_le.rf
    refine lv_aload_n hx hb dX8_follows_13 rfl (lv_at hl 0 rfl) ?_
    refine lv_iload_n hx hb dX8_follows_14 rfl (lv_at hl 2 rfl) ?_
    refine r_callV (Y := M_X8_noFormula) (v := some (.int q3.1)) X I w_1916 my_X8_noFormula (by omega) (t_X8_noFormula (G := G) (d := d + 3) h6) (b_X8_noFormula h6) rfl rfl hl.1 rfl (Nat.le_of_ble_eq_true rfl) hn le7 dX8_follows_15 (fun H locs cells slots I hn1 hn2 => ?_)
    have I : s_I G q3.2 s H locs := I
    have hn : cells + σ0.2.1 ≤ q3.2.2.1 ∧ slots + σ0.2.2.1 ≤ q3.2.2.2.1 := ⟨hn1, hn2⟩
    rcases s_ite hf with ⟨c8, hf⟩ | ⟨c8, hf⟩
    · refine lv_if_eq (tgt := 25) hx hb dX8_follows_18 (by decide) (fun _ => ?_) (fun n => absurd c8 n)
      cases hf
      have k : s_V G (d + 6) M_X8_follows vs0 σ0 Y_X8_follows (26, [.ref v0, .int v1, .int v2, .int 0, .ref v0], q3.2) (e_I r) := k
      refine lv_iconst (v := 0) hx hb dX8_follows_25 (by decide) ?_
      exact k.2 p e s m below meth c _ _ _ _ _ X I hn.1 hn.2 (lv_sub hl [0, 1, 2] rfl)
    · refine lv_if_eq (tgt := 25) hx hb dX8_follows_18 (by decide) (fun n => absurd n c8) (fun _ => ?_)
      cases hf
      have k : s_V G (d + 6) M_X8_follows vs0 σ0 Y_X8_follows (21, [.ref v0, .int v1, .int v2, .ref v0], q3.2) (e_I r) := k
      exact k.2 p e s m below meth c _ _ _ _ _ X I hn.1 hn.2 (lv_sub hl [0, 1, 2] rfl)
  · refine lv_if_ne (tgt := 21) hx hb dX8_follows_10 (by decide) (fun _ => ?_) (fun n => absurd n c5)
    cases hf
    have k : s_V G (d + 6) M_X8_follows vs0 σ0 Y_X8_follows (21, [.ref v0, .int v1, .int v2, .ref v0], q2.2) (e_I r) := k
    exact k.2 p e s m below meth c _ _ _ _ _ X I hn.1 hn.2 (lv_sub hl [0, 1, 2] rfl)
set_option maxRecDepth 100000 in
set_option maxHeartbeats 4000000 in
theorem v_X8_follows_21 {G : sG} {d : Nat} {vs0 : List Value} {σ0 : sS} {v0 : Nat} {v1 : Int32} {v2 : Int32} {w0 : Nat} {σ : sS} {z : sZ Int32} {r : Int32 × sS} (hf : T_X8_follows_21 v0 v1 v2 w0 σ = some z) (k : s_K G (d + 6) M_X8_follows vs0 σ0 Y_X8_follows e_I z r) : s_V G (d + 6) M_X8_follows vs0 σ0 Y_X8_follows (21, [.ref v0, .int v1, .int v2, .ref w0], σ) (e_I r) := by
  have le0 : s_le σ (e_I r).2 := s_lek hem_I (l_X8_follows_21 hf) k
  refine ⟨le0, ?_⟩
  intro p e s m below meth c H locs cells slots ls X I hn1 hn2 hl
  have hn : cells + σ0.2.1 ≤ σ.2.1 ∧ slots + σ0.2.2.1 ≤ σ.2.2.1 := ⟨hn1, hn2⟩
  have hl : lv_has ls 3 [(0, .ref v0), (1, .int v1), (2, .int v2)] := hl
  have hx := X.1
  have hb : c.code = cX8_follows := X.2.1
  have hown : s.vm.findClass RX8 = some m.cls := X.2.2.2.2.2.1
  have hts := X.2.2.2.2.2.2.1
  refine W.eq (g2 := F0 m 21 ls [.ref w0]) rfl ?_
  unfold T_X8_follows_21 at hf
  cases hf
  have k : s_V G (d + 6) M_X8_follows vs0 σ0 Y_X8_follows (26, [.ref v0, .int v1, .int v2, .int 1, .ref w0], σ) (e_I r) := k
  refine lv_iconst (v := 1) hx hb dX8_follows_21 (by decide) ?_
  refine lv_goto (tgt := 26) hx hb dX8_follows_22 (by decide) ?_
  exact k.2 p e s m below meth c _ _ _ _ _ X I hn.1 hn.2 (lv_sub hl [0, 1, 2] rfl)
set_option maxRecDepth 100000 in
set_option maxHeartbeats 4000000 in
theorem v_X8_follows_26 {G : sG} {d : Nat} {vs0 : List Value} {σ0 : sS} {v0 : Nat} {v1 : Int32} {v2 : Int32} {w0 : Int32} {w1 : Nat} {σ : sS} {z : sZ Int32} {r : Int32 × sS} (hf : T_X8_follows_26 v0 v1 v2 w0 w1 σ = some z) (k : s_K G (d + 6) M_X8_follows vs0 σ0 Y_X8_follows e_I z r) : s_V G (d + 6) M_X8_follows vs0 σ0 Y_X8_follows (26, [.ref v0, .int v1, .int v2, .int w0, .ref w1], σ) (e_I r) := by
  have le0 : s_le σ (e_I r).2 := s_lek hem_I (l_X8_follows_26 hf) k
  refine ⟨le0, ?_⟩
  intro p e s m below meth c H locs cells slots ls X I hn1 hn2 hl
  have hn : cells + σ0.2.1 ≤ σ.2.1 ∧ slots + σ0.2.2.1 ≤ σ.2.2.1 := ⟨hn1, hn2⟩
  have hl : lv_has ls 3 [(0, .ref v0), (1, .int v1), (2, .int v2)] := hl
  have hx := X.1
  have hb : c.code = cX8_follows := X.2.1
  have hown : s.vm.findClass RX8 = some m.cls := X.2.2.2.2.2.1
  have hts := X.2.2.2.2.2.2.1
  refine W.eq (g2 := F0 m 26 ls [.int w0, .ref w1]) rfl ?_
  unfold T_X8_follows_26 at hf
  obtain ⟨q1, h1, hf⟩ := s_bind hf
  have le2 : s_le q1.2 (e_I r).2 := by
    refine s_lek hem_I ?_ k
    rcases s_ite hf with ⟨-, hf⟩ | ⟨-, hf⟩
    · obtain ⟨q2, hh, hf⟩ := s_bind hf
      refine s_lz.tr (l_X8_beliefsOf hh) ?_
      obtain ⟨q3, hh, hf⟩ := s_bind hf
      refine s_lz.tr (l_X8_leastWorld hh) ?_
      rcases s_ite hf with ⟨-, hf⟩ | ⟨-, hf⟩
      · cases hf
        exact s_le.rf
      · cases hf
        exact s_le.rf
    · cases hf
      exact s_le.rf
  refine lv_iconst (v := 1) hx hb dX8_follows_26 (by decide) ?_
  refine r_callV (Y := M_X8_throwsIf) (v := some (.int q1.1)) X I w_1897 my_X8_throwsIf (by omega) (t_X8_throwsIf (G := G) (d := d + 4) h1) (b_X8_throwsIf h1) rfl rfl hl.1 rfl (Nat.le_of_ble_eq_true rfl) hn le2 dX8_follows_27 (fun H locs cells slots I hn1 hn2 => ?_)
  have I : s_I G q1.2 s H locs := I
  have hn : cells + σ0.2.1 ≤ q1.2.2.1 ∧ slots + σ0.2.2.1 ≤ q1.2.2.2.1 := ⟨hn1, hn2⟩
  rcases s_ite hf with ⟨c3, hf⟩ | ⟨c3, hf⟩
  · refine lv_if_ne (tgt := 50) hx hb dX8_follows_30 (by decide) (fun n => absurd c3 n) (fun _ => ?_)
    obtain ⟨q2, h4, hf⟩ := s_bind hf
    obtain ⟨q3, h5, hf⟩ := s_bind hf
    have le6 : s_le q3.2 (e_I r).2 := by
      refine s_lek hem_I ?_ k
      rcases s_ite hf with ⟨-, hf⟩ | ⟨-, hf⟩
      · cases hf
        exact s_le.rf
      · cases hf
        exact s_le.rf
    have le7 := s_le.tr (l_X8_leastWorld h5) le6
    refine lv_aload_n hx hb dX8_follows_33 rfl (lv_at hl 0 rfl) ?_
    refine lv_aload_n hx hb dX8_follows_34 rfl (lv_at hl 0 rfl) ?_
    refine lv_iload_n hx hb dX8_follows_35 rfl (lv_at hl 1 rfl) ?_
    refine r_callV (Y := M_X8_beliefsOf) (v := some (.int q2.1)) X I w_1987 my_X8_beliefsOf (by omega) (t_X8_beliefsOf (G := G) (d := d + 4) h4) (b_X8_beliefsOf h4) rfl rfl hl.1 rfl (Nat.le_of_ble_eq_true rfl) hn le7 dX8_follows_36 (fun H locs cells slots I hn1 hn2 => ?_)
    have I : s_I G q2.2 s H locs := I
    have hn : cells + σ0.2.1 ≤ q2.2.2.1 ∧ slots + σ0.2.2.1 ≤ q2.2.2.2.1 := ⟨hn1, hn2⟩
    refine lv_iload_n hx hb dX8_follows_39 rfl (lv_at hl 2 rfl) ?_
    refine r_callV (Y := M_X8_leastWorld) (v := some (.int q3.1)) X I w_2136 my_X8_leastWorld (by omega) (t_X8_leastWorld (G := G) (d := d + 0) h5) (b_X8_leastWorld h5) rfl rfl hl.1 rfl (Nat.le_of_ble_eq_true rfl) hn le6 dX8_follows_40 (fun H locs cells slots I hn1 hn2 => ?_)
    have I : s_I G q3.2 s H locs := I
    have hn : cells + σ0.2.1 ≤ q3.2.2.1 ∧ slots + σ0.2.2.1 ≤ q3.2.2.2.1 := ⟨hn1, hn2⟩
    rcases s_ite hf with ⟨c8, hf⟩ | ⟨c8, hf⟩
    · refine lv_if_ge (tgt := 50) hx hb dX8_follows_43 (by decide) (fun _ => ?_) (fun n => absurd c8 n)
      cases hf
      have k : _ = r := k
      subst k
      refine lv_iconst (v := 0) hx hb dX8_follows_50 (by decide) ?_
      exact r_iret X I rfl rfl rfl hn dX8_follows_51
    · refine lv_if_ge (tgt := 50) hx hb dX8_follows_43 (by decide) (fun n => absurd n c8) (fun _ => ?_)
      cases hf
      have k : _ = r := k
      subst k
      refine lv_iconst (v := 1) hx hb dX8_follows_46 (by decide) ?_
      refine lv_goto (tgt := 51) hx hb dX8_follows_47 (by decide) ?_
      exact r_iret X I rfl rfl rfl hn dX8_follows_51
  · refine lv_if_ne (tgt := 50) hx hb dX8_follows_30 (by decide) (fun _ => ?_) (fun n => absurd n c3)
    cases hf
    have k : _ = r := k
    subst k
    refine lv_iconst (v := 0) hx hb dX8_follows_50 (by decide) ?_
    exact r_iret X I rfl rfl rfl hn dX8_follows_51
theorem v_X8_follows {G : sG} {d : Nat} {vs0 : List Value} {σ0 : sS} {x : sL} {z : sZ Int32} {r : Int32 × sS} (hs : S_X8_follows x = some z) (k : s_K G (d + 6) M_X8_follows vs0 σ0 Y_X8_follows e_I z r) : s_V G (d + 6) M_X8_follows vs0 σ0 Y_X8_follows x (e_I r) := by
  obtain ⟨pc, vs, σ⟩ := x
  unfold S_X8_follows at hs
  dsimp only at hs
  rcases s_ite hs with ⟨c, hs⟩ | ⟨-, hs⟩
  · subst c
    unfold U_X8_follows_0 at hs
    obtain ⟨a0, g0, hs⟩ := s_bind hs
    obtain ⟨a1, g1, hs⟩ := s_bind hs
    obtain ⟨a2, g2, hs⟩ := s_bind hs
    obtain ⟨u9, ge, hs⟩ := s_bind hs
    rw [g_r_to g0, g_i_to g1, g_i_to g2, g_e_to ge]
    exact v_X8_follows_0 hs k
  rcases s_ite hs with ⟨c, hs⟩ | ⟨-, hs⟩
  · subst c
    unfold U_X8_follows_21 at hs
    obtain ⟨a0, g0, hs⟩ := s_bind hs
    obtain ⟨a1, g1, hs⟩ := s_bind hs
    obtain ⟨a2, g2, hs⟩ := s_bind hs
    obtain ⟨a3, g3, hs⟩ := s_bind hs
    obtain ⟨u9, ge, hs⟩ := s_bind hs
    rw [g_r_to g0, g_i_to g1, g_i_to g2, g_r_to g3, g_e_to ge]
    exact v_X8_follows_21 hs k
  rcases s_ite hs with ⟨c, hs⟩ | ⟨-, hs⟩
  · subst c
    unfold U_X8_follows_26 at hs
    obtain ⟨a0, g0, hs⟩ := s_bind hs
    obtain ⟨a1, g1, hs⟩ := s_bind hs
    obtain ⟨a2, g2, hs⟩ := s_bind hs
    obtain ⟨a3, g3, hs⟩ := s_bind hs
    obtain ⟨a4, g4, hs⟩ := s_bind hs
    obtain ⟨u9, ge, hs⟩ := s_bind hs
    rw [g_r_to g0, g_i_to g1, g_i_to g2, g_i_to g3, g_r_to g4, g_e_to ge]
    exact v_X8_follows_26 hs k
  cases hs
theorem t_X8_follows {G : sG} {d : Nat} {v0 : Nat} {v1 : Int32} {v2 : Int32} {σ : sS} {q : Int32 × sS} (h : F_X8_follows v0 v1 v2 σ = some q) : s_T G (d + 6) M_X8_follows [.ref v0, .int v1, .int v2] σ (e_I q) := by
  unfold F_X8_follows at h
  obtain ⟨-, -, h⟩ := s_bind h
  exact s_ofV rfl (by decide) (Nat.le_of_ble_eq_true rfl) rfl rfl (s_run_ind (V := fun x r => s_V G (d + 6) M_X8_follows [.ref v0, .int v1, .int v2] σ Y_X8_follows x (e_I r)) (fun x z r hs hk => v_X8_follows hs (by cases z <;> exact hk)) h)
/-! X8_counter -/
noncomputable def T_X8_counter_0 (v0 : Nat) (v1 : Int32) (v2 : Int32) (σ : sS) : Option (sZ Int32) :=
  (s_pf σ v0 8 0 (.int 0)).bind fun σ1 =>
  (F_X8_noCustomer v1 σ1).bind fun q2 =>
  if q2.1 = 0 then ((F_X8_noFormula v0 v2 q2.2).bind fun q3 =>
  if q3.1 = 0 then (some (.inl (26, [.ref v0, .int v1, .int v2, .int 0, .ref v0], q3.2)))
  else (some (.inl (21, [.ref v0, .int v1, .int v2, .ref v0], q3.2))))
  else (some (.inl (21, [.ref v0, .int v1, .int v2, .ref v0], q2.2)))
noncomputable def U_X8_counter_0 (vs : List Value) (σ : sS) : Option (sZ Int32) := (g_r vs).bind fun a0 => (g_i a0.2).bind fun a1 => (g_i a1.2).bind fun a2 => (g_e a2.2).bind fun _ => T_X8_counter_0 a0.1 a1.1 a2.1 σ
noncomputable def T_X8_counter_21 (v0 : Nat) (v1 : Int32) (v2 : Int32) (w0 : Nat) (σ : sS) : Option (sZ Int32) :=
  some (.inl (26, [.ref v0, .int v1, .int v2, .int 1, .ref w0], σ))
noncomputable def U_X8_counter_21 (vs : List Value) (σ : sS) : Option (sZ Int32) := (g_r vs).bind fun a0 => (g_i a0.2).bind fun a1 => (g_i a1.2).bind fun a2 => (g_r a2.2).bind fun a3 => (g_e a3.2).bind fun _ => T_X8_counter_21 a0.1 a1.1 a2.1 a3.1 σ
noncomputable def T_X8_counter_26 (v0 : Nat) (v1 : Int32) (v2 : Int32) (w0 : Int32) (w1 : Nat) (σ : sS) : Option (sZ Int32) :=
  (F_X8_throwsIf w1 w0 1 σ).bind fun q1 =>
  if q1.1 = 0 then ((F_X8_beliefsOf v0 v1 q1.2).bind fun q2 =>
  (F_X8_leastWorld v0 q2.1 v2 q2.2).bind fun q3 =>
  some (.inr (q3.1, q3.2)))
  else (some (.inr (0, q1.2)))
noncomputable def U_X8_counter_26 (vs : List Value) (σ : sS) : Option (sZ Int32) := (g_r vs).bind fun a0 => (g_i a0.2).bind fun a1 => (g_i a1.2).bind fun a2 => (g_i a2.2).bind fun a3 => (g_r a3.2).bind fun a4 => (g_e a4.2).bind fun _ => T_X8_counter_26 a0.1 a1.1 a2.1 a3.1 a4.1 σ
noncomputable def S_X8_counter (x : sL) : Option (sZ Int32) := if x.1 = 0 then U_X8_counter_0 x.2.1 x.2.2 else if x.1 = 21 then U_X8_counter_21 x.2.1 x.2.2 else if x.1 = 26 then U_X8_counter_26 x.2.1 x.2.2 else none
def Y_X8_counter (pc : Nat) : List Nat := if pc = 0 then [0, 1, 2] else if pc = 21 then [0, 1, 2] else if pc = 26 then [0, 1, 2] else []
noncomputable def F_X8_counter (v0 : Nat) (v1 : Int32) (v2 : Int32) (σ : sS) : Option (Int32 × sS) := (s_is σ v0 8).bind fun _ => s_run S_X8_counter (0, [.ref v0, .int v1, .int v2], σ)
theorem l_X8_counter_0 {v0 : Nat} {v1 : Int32} {v2 : Int32} {σ : sS} {z : sZ Int32} (hf : T_X8_counter_0 v0 v1 v2 σ = some z) : s_lz σ z := by
  unfold T_X8_counter_0 at hf
  obtain ⟨σ1, hh, hf⟩ := s_bind hf
  refine s_lz.tr (s_le2 (s_pf_2 hh)) ?_
  obtain ⟨q2, hh, hf⟩ := s_bind hf
  refine s_lz.tr (l_X8_noCustomer hh) ?_
  rcases s_ite hf with ⟨-, hf⟩ | ⟨-, hf⟩
  · obtain ⟨q3, hh, hf⟩ := s_bind hf
    refine s_lz.tr (l_X8_noFormula hh) ?_
    rcases s_ite hf with ⟨-, hf⟩ | ⟨-, hf⟩
    · cases hf
      exact s_le.rf
    · cases hf
      exact s_le.rf
  · cases hf
    exact s_le.rf
theorem l_X8_counter_21 {v0 : Nat} {v1 : Int32} {v2 : Int32} {w0 : Nat} {σ : sS} {z : sZ Int32} (hf : T_X8_counter_21 v0 v1 v2 w0 σ = some z) : s_lz σ z := by
  unfold T_X8_counter_21 at hf
  cases hf
  exact s_le.rf
theorem l_X8_counter_26 {v0 : Nat} {v1 : Int32} {v2 : Int32} {w0 : Int32} {w1 : Nat} {σ : sS} {z : sZ Int32} (hf : T_X8_counter_26 v0 v1 v2 w0 w1 σ = some z) : s_lz σ z := by
  unfold T_X8_counter_26 at hf
  obtain ⟨q1, hh, hf⟩ := s_bind hf
  refine s_lz.tr (l_X8_throwsIf hh) ?_
  rcases s_ite hf with ⟨-, hf⟩ | ⟨-, hf⟩
  · obtain ⟨q2, hh, hf⟩ := s_bind hf
    refine s_lz.tr (l_X8_beliefsOf hh) ?_
    obtain ⟨q3, hh, hf⟩ := s_bind hf
    refine s_lz.tr (l_X8_leastWorld hh) ?_
    cases hf
    exact s_le.rf
  · cases hf
    exact s_le.rf
theorem l_X8_counter_s {x : sL} {z : sZ Int32} (hs : S_X8_counter x = some z) : s_lz x.2.2 z := by
  obtain ⟨pc, vs, σ⟩ := x
  unfold S_X8_counter at hs
  dsimp only at hs ⊢
  rcases s_ite hs with ⟨c, hs⟩ | ⟨-, hs⟩
  · subst c
    unfold U_X8_counter_0 at hs
    obtain ⟨a0, g0, hs⟩ := s_bind hs
    obtain ⟨a1, g1, hs⟩ := s_bind hs
    obtain ⟨a2, g2, hs⟩ := s_bind hs
    obtain ⟨u9, ge, hs⟩ := s_bind hs
    exact l_X8_counter_0 hs
  rcases s_ite hs with ⟨c, hs⟩ | ⟨-, hs⟩
  · subst c
    unfold U_X8_counter_21 at hs
    obtain ⟨a0, g0, hs⟩ := s_bind hs
    obtain ⟨a1, g1, hs⟩ := s_bind hs
    obtain ⟨a2, g2, hs⟩ := s_bind hs
    obtain ⟨a3, g3, hs⟩ := s_bind hs
    obtain ⟨u9, ge, hs⟩ := s_bind hs
    exact l_X8_counter_21 hs
  rcases s_ite hs with ⟨c, hs⟩ | ⟨-, hs⟩
  · subst c
    unfold U_X8_counter_26 at hs
    obtain ⟨a0, g0, hs⟩ := s_bind hs
    obtain ⟨a1, g1, hs⟩ := s_bind hs
    obtain ⟨a2, g2, hs⟩ := s_bind hs
    obtain ⟨a3, g3, hs⟩ := s_bind hs
    obtain ⟨a4, g4, hs⟩ := s_bind hs
    obtain ⟨u9, ge, hs⟩ := s_bind hs
    exact l_X8_counter_26 hs
  cases hs
theorem l_X8_counter {v0 : Nat} {v1 : Int32} {v2 : Int32} {σ : sS} {q : Int32 × sS} (h : F_X8_counter v0 v1 v2 σ = some q) : s_le σ q.2 := by
  unfold F_X8_counter at h
  obtain ⟨-, -, h⟩ := s_bind h
  exact s_run_ind (V := fun x r => s_le x.2.2 r.2) (fun x z r hs hk => by
    have h9 := l_X8_counter_s hs
    cases z with
    | inl y => exact s_le.tr h9 hk
    | inr q => cases hk; exact h9) h
theorem b_X8_counter {v0 : Nat} {v1 : Int32} {v2 : Int32} {σ : sS} {q : Int32 × sS} (h : F_X8_counter v0 v1 v2 σ = some q) : ∃ fs, σ.1 v0 = some (.inr (8, fs)) := by
  unfold F_X8_counter at h
  obtain ⟨u, hu, -⟩ := s_bind h
  exact s_is_to hu
set_option maxRecDepth 100000 in
set_option maxHeartbeats 4000000 in
theorem v_X8_counter_0 {G : sG} {d : Nat} {vs0 : List Value} {σ0 : sS} {v0 : Nat} {v1 : Int32} {v2 : Int32} {σ : sS} {z : sZ Int32} {r : Int32 × sS} (hf : T_X8_counter_0 v0 v1 v2 σ = some z) (k : s_K G (d + 6) M_X8_counter vs0 σ0 Y_X8_counter e_I z r) : s_V G (d + 6) M_X8_counter vs0 σ0 Y_X8_counter (0, [.ref v0, .int v1, .int v2], σ) (e_I r) := by
  have le0 : s_le σ (e_I r).2 := s_lek hem_I (l_X8_counter_0 hf) k
  refine ⟨le0, ?_⟩
  intro p e s m below meth c H locs cells slots ls X I hn1 hn2 hl
  have hn : cells + σ0.2.1 ≤ σ.2.1 ∧ slots + σ0.2.2.1 ≤ σ.2.2.1 := ⟨hn1, hn2⟩
  have hl : lv_has ls 3 [(0, .ref v0), (1, .int v1), (2, .int v2)] := hl
  have hx := X.1
  have hb : c.code = cX8_counter := X.2.1
  have hown : s.vm.findClass RX8 = some m.cls := X.2.2.2.2.2.1
  have hts := X.2.2.2.2.2.2.1
  refine W.eq (g2 := F0 m 0 ls []) rfl ?_
  unfold T_X8_counter_0 at hf
  obtain ⟨σ1, h1, hf⟩ := s_bind hf
  obtain ⟨q2, h2, hf⟩ := s_bind hf
  have le3 : s_le q2.2 (e_I r).2 := by
    refine s_lek hem_I ?_ k
    rcases s_ite hf with ⟨-, hf⟩ | ⟨-, hf⟩
    · obtain ⟨q3, hh, hf⟩ := s_bind hf
      refine s_lz.tr (l_X8_noFormula hh) ?_
      rcases s_ite hf with ⟨-, hf⟩ | ⟨-, hf⟩
      · cases hf
        exact s_le.rf
      · cases hf
        exact s_le.rf
    · cases hf
      exact s_le.rf
  have le4 := s_le.tr (l_X8_noCustomer h2) le3
  refine lv_aload_n hx hb dX8_counter_0 rfl (lv_at hl 0 rfl) ?_
  refine lv_iconst (v := 0) hx hb dX8_counter_1 (by decide) ?_
  refine r_put X I fp_X8_3 (fun h => by cases h) h1 rfl rfl dX8_counter_2 (fun H locs I => ?_)
  have hn := s_k2 (s_pf_2 h1) hn
  refine lv_aload_n hx hb dX8_counter_5 rfl (lv_at hl 0 rfl) ?_
  refine lv_iload_n hx hb dX8_counter_6 rfl (lv_at hl 1 rfl) ?_
  refine r_callS (Y := M_X8_noCustomer) (v := some (.int q2.1)) X I w_1984 my_X8_noCustomer (by omega) (t_X8_noCustomer (G := G) (d := d + 3) h2) rfl rfl hl.1 rfl (Nat.le_of_ble_eq_true rfl) hn le3 dX8_counter_7 (fun H locs cells slots I hn1 hn2 => ?_)
  have I : s_I G q2.2 s H locs := I
  have hn : cells + σ0.2.1 ≤ q2.2.2.1 ∧ slots + σ0.2.2.1 ≤ q2.2.2.2.1 := ⟨hn1, hn2⟩
  rcases s_ite hf with ⟨c5, hf⟩ | ⟨c5, hf⟩
  · refine lv_if_ne (tgt := 21) hx hb dX8_counter_10 (by decide) (fun n => absurd c5 n) (fun _ => ?_)
    obtain ⟨q3, h6, hf⟩ := s_bind hf
    have le7 : s_le q3.2 (e_I r).2 := by
      refine s_lek hem_I ?_ k
      rcases s_ite hf with ⟨-, hf⟩ | ⟨-, hf⟩
      · cases hf
        exact s_le.rf
      · cases hf
        exact s_le.rf
    refine lv_aload_n hx hb dX8_counter_13 rfl (lv_at hl 0 rfl) ?_
    refine lv_iload_n hx hb dX8_counter_14 rfl (lv_at hl 2 rfl) ?_
    refine r_callV (Y := M_X8_noFormula) (v := some (.int q3.1)) X I w_1916 my_X8_noFormula (by omega) (t_X8_noFormula (G := G) (d := d + 3) h6) (b_X8_noFormula h6) rfl rfl hl.1 rfl (Nat.le_of_ble_eq_true rfl) hn le7 dX8_counter_15 (fun H locs cells slots I hn1 hn2 => ?_)
    have I : s_I G q3.2 s H locs := I
    have hn : cells + σ0.2.1 ≤ q3.2.2.1 ∧ slots + σ0.2.2.1 ≤ q3.2.2.2.1 := ⟨hn1, hn2⟩
    rcases s_ite hf with ⟨c8, hf⟩ | ⟨c8, hf⟩
    · refine lv_if_eq (tgt := 25) hx hb dX8_counter_18 (by decide) (fun _ => ?_) (fun n => absurd c8 n)
      cases hf
      have k : s_V G (d + 6) M_X8_counter vs0 σ0 Y_X8_counter (26, [.ref v0, .int v1, .int v2, .int 0, .ref v0], q3.2) (e_I r) := k
      refine lv_iconst (v := 0) hx hb dX8_counter_25 (by decide) ?_
      exact k.2 p e s m below meth c _ _ _ _ _ X I hn.1 hn.2 (lv_sub hl [0, 1, 2] rfl)
    · refine lv_if_eq (tgt := 25) hx hb dX8_counter_18 (by decide) (fun n => absurd n c8) (fun _ => ?_)
      cases hf
      have k : s_V G (d + 6) M_X8_counter vs0 σ0 Y_X8_counter (21, [.ref v0, .int v1, .int v2, .ref v0], q3.2) (e_I r) := k
      exact k.2 p e s m below meth c _ _ _ _ _ X I hn.1 hn.2 (lv_sub hl [0, 1, 2] rfl)
  · refine lv_if_ne (tgt := 21) hx hb dX8_counter_10 (by decide) (fun _ => ?_) (fun n => absurd n c5)
    cases hf
    have k : s_V G (d + 6) M_X8_counter vs0 σ0 Y_X8_counter (21, [.ref v0, .int v1, .int v2, .ref v0], q2.2) (e_I r) := k
    exact k.2 p e s m below meth c _ _ _ _ _ X I hn.1 hn.2 (lv_sub hl [0, 1, 2] rfl)
set_option maxRecDepth 100000 in
set_option maxHeartbeats 4000000 in
theorem v_X8_counter_21 {G : sG} {d : Nat} {vs0 : List Value} {σ0 : sS} {v0 : Nat} {v1 : Int32} {v2 : Int32} {w0 : Nat} {σ : sS} {z : sZ Int32} {r : Int32 × sS} (hf : T_X8_counter_21 v0 v1 v2 w0 σ = some z) (k : s_K G (d + 6) M_X8_counter vs0 σ0 Y_X8_counter e_I z r) : s_V G (d + 6) M_X8_counter vs0 σ0 Y_X8_counter (21, [.ref v0, .int v1, .int v2, .ref w0], σ) (e_I r) := by
  have le0 : s_le σ (e_I r).2 := s_lek hem_I (l_X8_counter_21 hf) k
  refine ⟨le0, ?_⟩
  intro p e s m below meth c H locs cells slots ls X I hn1 hn2 hl
  have hn : cells + σ0.2.1 ≤ σ.2.1 ∧ slots + σ0.2.2.1 ≤ σ.2.2.1 := ⟨hn1, hn2⟩
  have hl : lv_has ls 3 [(0, .ref v0), (1, .int v1), (2, .int v2)] := hl
  have hx := X.1
  have hb : c.code = cX8_counter := X.2.1
  have hown : s.vm.findClass RX8 = some m.cls := X.2.2.2.2.2.1
  have hts := X.2.2.2.2.2.2.1
  refine W.eq (g2 := F0 m 21 ls [.ref w0]) rfl ?_
  unfold T_X8_counter_21 at hf
  cases hf
  have k : s_V G (d + 6) M_X8_counter vs0 σ0 Y_X8_counter (26, [.ref v0, .int v1, .int v2, .int 1, .ref w0], σ) (e_I r) := k
  refine lv_iconst (v := 1) hx hb dX8_counter_21 (by decide) ?_
  refine lv_goto (tgt := 26) hx hb dX8_counter_22 (by decide) ?_
  exact k.2 p e s m below meth c _ _ _ _ _ X I hn.1 hn.2 (lv_sub hl [0, 1, 2] rfl)
set_option maxRecDepth 100000 in
set_option maxHeartbeats 4000000 in
theorem v_X8_counter_26 {G : sG} {d : Nat} {vs0 : List Value} {σ0 : sS} {v0 : Nat} {v1 : Int32} {v2 : Int32} {w0 : Int32} {w1 : Nat} {σ : sS} {z : sZ Int32} {r : Int32 × sS} (hf : T_X8_counter_26 v0 v1 v2 w0 w1 σ = some z) (k : s_K G (d + 6) M_X8_counter vs0 σ0 Y_X8_counter e_I z r) : s_V G (d + 6) M_X8_counter vs0 σ0 Y_X8_counter (26, [.ref v0, .int v1, .int v2, .int w0, .ref w1], σ) (e_I r) := by
  have le0 : s_le σ (e_I r).2 := s_lek hem_I (l_X8_counter_26 hf) k
  refine ⟨le0, ?_⟩
  intro p e s m below meth c H locs cells slots ls X I hn1 hn2 hl
  have hn : cells + σ0.2.1 ≤ σ.2.1 ∧ slots + σ0.2.2.1 ≤ σ.2.2.1 := ⟨hn1, hn2⟩
  have hl : lv_has ls 3 [(0, .ref v0), (1, .int v1), (2, .int v2)] := hl
  have hx := X.1
  have hb : c.code = cX8_counter := X.2.1
  have hown : s.vm.findClass RX8 = some m.cls := X.2.2.2.2.2.1
  have hts := X.2.2.2.2.2.2.1
  refine W.eq (g2 := F0 m 26 ls [.int w0, .ref w1]) rfl ?_
  unfold T_X8_counter_26 at hf
  obtain ⟨q1, h1, hf⟩ := s_bind hf
  have le2 : s_le q1.2 (e_I r).2 := by
    refine s_lek hem_I ?_ k
    rcases s_ite hf with ⟨-, hf⟩ | ⟨-, hf⟩
    · obtain ⟨q2, hh, hf⟩ := s_bind hf
      refine s_lz.tr (l_X8_beliefsOf hh) ?_
      obtain ⟨q3, hh, hf⟩ := s_bind hf
      refine s_lz.tr (l_X8_leastWorld hh) ?_
      cases hf
      exact s_le.rf
    · cases hf
      exact s_le.rf
  refine lv_iconst (v := 1) hx hb dX8_counter_26 (by decide) ?_
  refine r_callV (Y := M_X8_throwsIf) (v := some (.int q1.1)) X I w_1897 my_X8_throwsIf (by omega) (t_X8_throwsIf (G := G) (d := d + 4) h1) (b_X8_throwsIf h1) rfl rfl hl.1 rfl (Nat.le_of_ble_eq_true rfl) hn le2 dX8_counter_27 (fun H locs cells slots I hn1 hn2 => ?_)
  have I : s_I G q1.2 s H locs := I
  have hn : cells + σ0.2.1 ≤ q1.2.2.1 ∧ slots + σ0.2.2.1 ≤ q1.2.2.2.1 := ⟨hn1, hn2⟩
  rcases s_ite hf with ⟨c3, hf⟩ | ⟨c3, hf⟩
  · refine lv_if_eq (tgt := 37) hx hb dX8_counter_30 (by decide) (fun _ => ?_) (fun n => absurd c3 n)
    obtain ⟨q2, h4, hf⟩ := s_bind hf
    obtain ⟨q3, h5, hf⟩ := s_bind hf
    cases hf
    have k : _ = r := k
    subst k
    have le6 : s_le q3.2 q3.2 := s_le.rf
    have le7 := s_le.tr (l_X8_leastWorld h5) le6
    refine lv_aload_n hx hb dX8_counter_37 rfl (lv_at hl 0 rfl) ?_
    refine lv_aload_n hx hb dX8_counter_38 rfl (lv_at hl 0 rfl) ?_
    refine lv_iload_n hx hb dX8_counter_39 rfl (lv_at hl 1 rfl) ?_
    refine r_callV (Y := M_X8_beliefsOf) (v := some (.int q2.1)) X I w_1987 my_X8_beliefsOf (by omega) (t_X8_beliefsOf (G := G) (d := d + 4) h4) (b_X8_beliefsOf h4) rfl rfl hl.1 rfl (Nat.le_of_ble_eq_true rfl) hn le7 dX8_counter_40 (fun H locs cells slots I hn1 hn2 => ?_)
    have I : s_I G q2.2 s H locs := I
    have hn : cells + σ0.2.1 ≤ q2.2.2.1 ∧ slots + σ0.2.2.1 ≤ q2.2.2.2.1 := ⟨hn1, hn2⟩
    refine lv_iload_n hx hb dX8_counter_43 rfl (lv_at hl 2 rfl) ?_
    refine r_callV (Y := M_X8_leastWorld) (v := some (.int q3.1)) X I w_2136 my_X8_leastWorld (by omega) (t_X8_leastWorld (G := G) (d := d + 0) h5) (b_X8_leastWorld h5) rfl rfl hl.1 rfl (Nat.le_of_ble_eq_true rfl) hn le6 dX8_counter_44 (fun H locs cells slots I hn1 hn2 => ?_)
    have I : s_I G q3.2 s H locs := I
    have hn : cells + σ0.2.1 ≤ q3.2.2.1 ∧ slots + σ0.2.2.1 ≤ q3.2.2.2.1 := ⟨hn1, hn2⟩
    exact r_iret X I rfl rfl rfl hn dX8_counter_47
  · refine lv_if_eq (tgt := 37) hx hb dX8_counter_30 (by decide) (fun n => absurd n c3) (fun _ => ?_)
    cases hf
    have k : _ = r := k
    subst k
    refine lv_iconst (v := 0) hx hb dX8_counter_33 (by decide) ?_
    refine lv_goto (tgt := 47) hx hb dX8_counter_34 (by decide) ?_
    exact r_iret X I rfl rfl rfl hn dX8_counter_47
theorem v_X8_counter {G : sG} {d : Nat} {vs0 : List Value} {σ0 : sS} {x : sL} {z : sZ Int32} {r : Int32 × sS} (hs : S_X8_counter x = some z) (k : s_K G (d + 6) M_X8_counter vs0 σ0 Y_X8_counter e_I z r) : s_V G (d + 6) M_X8_counter vs0 σ0 Y_X8_counter x (e_I r) := by
  obtain ⟨pc, vs, σ⟩ := x
  unfold S_X8_counter at hs
  dsimp only at hs
  rcases s_ite hs with ⟨c, hs⟩ | ⟨-, hs⟩
  · subst c
    unfold U_X8_counter_0 at hs
    obtain ⟨a0, g0, hs⟩ := s_bind hs
    obtain ⟨a1, g1, hs⟩ := s_bind hs
    obtain ⟨a2, g2, hs⟩ := s_bind hs
    obtain ⟨u9, ge, hs⟩ := s_bind hs
    rw [g_r_to g0, g_i_to g1, g_i_to g2, g_e_to ge]
    exact v_X8_counter_0 hs k
  rcases s_ite hs with ⟨c, hs⟩ | ⟨-, hs⟩
  · subst c
    unfold U_X8_counter_21 at hs
    obtain ⟨a0, g0, hs⟩ := s_bind hs
    obtain ⟨a1, g1, hs⟩ := s_bind hs
    obtain ⟨a2, g2, hs⟩ := s_bind hs
    obtain ⟨a3, g3, hs⟩ := s_bind hs
    obtain ⟨u9, ge, hs⟩ := s_bind hs
    rw [g_r_to g0, g_i_to g1, g_i_to g2, g_r_to g3, g_e_to ge]
    exact v_X8_counter_21 hs k
  rcases s_ite hs with ⟨c, hs⟩ | ⟨-, hs⟩
  · subst c
    unfold U_X8_counter_26 at hs
    obtain ⟨a0, g0, hs⟩ := s_bind hs
    obtain ⟨a1, g1, hs⟩ := s_bind hs
    obtain ⟨a2, g2, hs⟩ := s_bind hs
    obtain ⟨a3, g3, hs⟩ := s_bind hs
    obtain ⟨a4, g4, hs⟩ := s_bind hs
    obtain ⟨u9, ge, hs⟩ := s_bind hs
    rw [g_r_to g0, g_i_to g1, g_i_to g2, g_i_to g3, g_r_to g4, g_e_to ge]
    exact v_X8_counter_26 hs k
  cases hs
theorem t_X8_counter {G : sG} {d : Nat} {v0 : Nat} {v1 : Int32} {v2 : Int32} {σ : sS} {q : Int32 × sS} (h : F_X8_counter v0 v1 v2 σ = some q) : s_T G (d + 6) M_X8_counter [.ref v0, .int v1, .int v2] σ (e_I q) := by
  unfold F_X8_counter at h
  obtain ⟨-, -, h⟩ := s_bind h
  exact s_ofV rfl (by decide) (Nat.le_of_ble_eq_true rfl) rfl rfl (s_run_ind (V := fun x r => s_V G (d + 6) M_X8_counter [.ref v0, .int v1, .int v2] σ Y_X8_counter x (e_I r)) (fun x z r hs hk => v_X8_counter hs (by cases z <;> exact hk)) h)
