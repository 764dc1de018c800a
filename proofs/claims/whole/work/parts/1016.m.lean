/-! X3_idleIn -/
noncomputable def T_X3_idleIn_0 (v0 : Nat) (v1 : Int32) (σ : sS) : Option (sZ Int32) :=
  some (.inl (4, [.ref v0, .int v1, .int 0, .int 0], σ))
noncomputable def U_X3_idleIn_0 (vs : List Value) (σ : sS) : Option (sZ Int32) := (g_r vs).bind fun a0 => (g_i a0.2).bind fun a1 => (g_e a1.2).bind fun _ => T_X3_idleIn_0 a0.1 a1.1 σ
noncomputable def T_X3_idleIn_4 (v0 : Nat) (v1 : Int32) (v2 : Int32) (v3 : Int32) (σ : sS) : Option (sZ Int32) :=
  (s_fr σ v0 3 0).bind fun x1 =>
  (s_fi σ x1 1 2).bind fun x2 =>
  if x2 ≤ v3 then (some (.inr (v2, σ)))
  else (if (v1 &&& (1 <<< (v3 &&& 31))) = 0 then (some (.inl (47, [.ref v0, .int v1, .int v2, .int v3], σ)))
  else ((F_X3_leastBreach v0 (v1 &&& ((1 <<< (v3 &&& 31)) ^^^ (-1))) v3 σ).bind fun q3 =>
  if q3.1 = (-1) then (some (.inl (47, [.ref v0, .int v1, .int (v2 ||| (1 <<< (v3 &&& 31))), .int v3], q3.2)))
  else (some (.inl (47, [.ref v0, .int v1, .int v2, .int v3], q3.2)))))
noncomputable def U_X3_idleIn_4 (vs : List Value) (σ : sS) : Option (sZ Int32) := (g_r vs).bind fun a0 => (g_i a0.2).bind fun a1 => (g_i a1.2).bind fun a2 => (g_i a2.2).bind fun a3 => (g_e a3.2).bind fun _ => T_X3_idleIn_4 a0.1 a1.1 a2.1 a3.1 σ
noncomputable def T_X3_idleIn_47 (v0 : Nat) (v1 : Int32) (v2 : Int32) (v3 : Int32) (σ : sS) : Option (sZ Int32) :=
  some (.inl (4, [.ref v0, .int v1, .int v2, .int (v3 + 1)], σ))
noncomputable def U_X3_idleIn_47 (vs : List Value) (σ : sS) : Option (sZ Int32) := (g_r vs).bind fun a0 => (g_i a0.2).bind fun a1 => (g_i a1.2).bind fun a2 => (g_i a2.2).bind fun a3 => (g_e a3.2).bind fun _ => T_X3_idleIn_47 a0.1 a1.1 a2.1 a3.1 σ
noncomputable def S_X3_idleIn (x : sL) : Option (sZ Int32) := if x.1 = 0 then U_X3_idleIn_0 x.2.1 x.2.2 else if x.1 = 4 then U_X3_idleIn_4 x.2.1 x.2.2 else if x.1 = 47 then U_X3_idleIn_47 x.2.1 x.2.2 else none
def Y_X3_idleIn (pc : Nat) : List Nat := if pc = 0 then [0, 1] else if pc = 4 then [0, 1, 2, 3] else if pc = 47 then [0, 1, 2, 3] else []
noncomputable def F_X3_idleIn (v0 : Nat) (v1 : Int32) (σ : sS) : Option (Int32 × sS) := (s_is σ v0 3).bind fun _ => s_run S_X3_idleIn (0, [.ref v0, .int v1], σ)
theorem l_X3_idleIn_0 {v0 : Nat} {v1 : Int32} {σ : sS} {z : sZ Int32} (hf : T_X3_idleIn_0 v0 v1 σ = some z) : s_lz σ z := by
  unfold T_X3_idleIn_0 at hf
  cases hf
  exact s_le.rf
theorem l_X3_idleIn_4 {v0 : Nat} {v1 : Int32} {v2 : Int32} {v3 : Int32} {σ : sS} {z : sZ Int32} (hf : T_X3_idleIn_4 v0 v1 v2 v3 σ = some z) : s_lz σ z := by
  unfold T_X3_idleIn_4 at hf
  obtain ⟨x1, -, hf⟩ := s_bind hf
  obtain ⟨x2, -, hf⟩ := s_bind hf
  rcases s_ite hf with ⟨-, hf⟩ | ⟨-, hf⟩
  · cases hf
    exact s_le.rf
  · rcases s_ite hf with ⟨-, hf⟩ | ⟨-, hf⟩
    · cases hf
      exact s_le.rf
    · obtain ⟨q3, hh, hf⟩ := s_bind hf
      refine s_lz.tr (l_X3_leastBreach hh) ?_
      rcases s_ite hf with ⟨-, hf⟩ | ⟨-, hf⟩
      · cases hf
        exact s_le.rf
      · cases hf
        exact s_le.rf
theorem l_X3_idleIn_47 {v0 : Nat} {v1 : Int32} {v2 : Int32} {v3 : Int32} {σ : sS} {z : sZ Int32} (hf : T_X3_idleIn_47 v0 v1 v2 v3 σ = some z) : s_lz σ z := by
  unfold T_X3_idleIn_47 at hf
  cases hf
  exact s_le.rf
theorem l_X3_idleIn_s {x : sL} {z : sZ Int32} (hs : S_X3_idleIn x = some z) : s_lz x.2.2 z := by
  obtain ⟨pc, vs, σ⟩ := x
  unfold S_X3_idleIn at hs
  dsimp only at hs ⊢
  rcases s_ite hs with ⟨c, hs⟩ | ⟨-, hs⟩
  · subst c
    unfold U_X3_idleIn_0 at hs
    obtain ⟨a0, g0, hs⟩ := s_bind hs
    obtain ⟨a1, g1, hs⟩ := s_bind hs
    obtain ⟨u9, ge, hs⟩ := s_bind hs
    exact l_X3_idleIn_0 hs
  rcases s_ite hs with ⟨c, hs⟩ | ⟨-, hs⟩
  · subst c
    unfold U_X3_idleIn_4 at hs
    obtain ⟨a0, g0, hs⟩ := s_bind hs
    obtain ⟨a1, g1, hs⟩ := s_bind hs
    obtain ⟨a2, g2, hs⟩ := s_bind hs
    obtain ⟨a3, g3, hs⟩ := s_bind hs
    obtain ⟨u9, ge, hs⟩ := s_bind hs
    exact l_X3_idleIn_4 hs
  rcases s_ite hs with ⟨c, hs⟩ | ⟨-, hs⟩
  · subst c
    unfold U_X3_idleIn_47 at hs
    obtain ⟨a0, g0, hs⟩ := s_bind hs
    obtain ⟨a1, g1, hs⟩ := s_bind hs
    obtain ⟨a2, g2, hs⟩ := s_bind hs
    obtain ⟨a3, g3, hs⟩ := s_bind hs
    obtain ⟨u9, ge, hs⟩ := s_bind hs
    exact l_X3_idleIn_47 hs
  cases hs
theorem l_X3_idleIn {v0 : Nat} {v1 : Int32} {σ : sS} {q : Int32 × sS} (h : F_X3_idleIn v0 v1 σ = some q) : s_le σ q.2 := by
  unfold F_X3_idleIn at h
  obtain ⟨-, -, h⟩ := s_bind h
  exact s_run_ind (V := fun x r => s_le x.2.2 r.2) (fun x z r hs hk => by
    have h9 := l_X3_idleIn_s hs
    cases z with
    | inl y => exact s_le.tr h9 hk
    | inr q => cases hk; exact h9) h
theorem b_X3_idleIn {v0 : Nat} {v1 : Int32} {σ : sS} {q : Int32 × sS} (h : F_X3_idleIn v0 v1 σ = some q) : ∃ fs, σ.1 v0 = some (.inr (3, fs)) := by
  unfold F_X3_idleIn at h
  obtain ⟨u, hu, -⟩ := s_bind h
  exact s_is_to hu
set_option maxRecDepth 100000 in
set_option maxHeartbeats 4000000 in
theorem v_X3_idleIn_0 {G : sG} {d : Nat} {vs0 : List Value} {σ0 : sS} {v0 : Nat} {v1 : Int32} {σ : sS} {z : sZ Int32} {r : Int32 × sS} (hf : T_X3_idleIn_0 v0 v1 σ = some z) (k : s_K G (d + 6) M_X3_idleIn vs0 σ0 Y_X3_idleIn e_I z r) : s_V G (d + 6) M_X3_idleIn vs0 σ0 Y_X3_idleIn (0, [.ref v0, .int v1], σ) (e_I r) := by
  have le0 : s_le σ (e_I r).2 := s_lek hem_I (l_X3_idleIn_0 hf) k
  refine ⟨le0, ?_⟩
  intro p e s m below meth c H locs cells slots ls X I hn1 hn2 hl
  have hn : cells + σ0.2.1 ≤ σ.2.1 ∧ slots + σ0.2.2.1 ≤ σ.2.2.1 := ⟨hn1, hn2⟩
  have hl : lv_has ls 5 [(0, .ref v0), (1, .int v1)] := hl
  have hx := X.1
  have hb : c.code = cX3_idleIn := X.2.1
  have hown : s.vm.findClass RX3 = some m.cls := X.2.2.2.2.2.1
  have hts := X.2.2.2.2.2.2.1
  refine W.eq (g2 := F0 m 0 ls []) rfl ?_
  unfold T_X3_idleIn_0 at hf
  cases hf
  have k : s_V G (d + 6) M_X3_idleIn vs0 σ0 Y_X3_idleIn (4, [.ref v0, .int v1, .int 0, .int 0], σ) (e_I r) := k
  refine lv_iconst (v := 0) hx hb dX3_idleIn_0 (by decide) ?_
  refine lv_istore_n (lv' := [(2, .int 0), (0, .ref v0), (1, .int v1)]) hx hb dX3_idleIn_1 rfl hl (by decide) rfl (fun ls hl => ?_)
  refine lv_iconst (v := 0) hx hb dX3_idleIn_2 (by decide) ?_
  refine lv_istore_n (lv' := [(3, .int 0), (2, .int 0), (0, .ref v0), (1, .int v1)]) hx hb dX3_idleIn_3 rfl hl (by decide) rfl (fun ls hl => ?_)
  exact k.2 p e s m below meth c _ _ _ _ _ X I hn.1 hn.2 (lv_sub hl [2, 3, 1, 0] rfl)
set_option maxRecDepth 100000 in
set_option maxHeartbeats 4000000 in
theorem v_X3_idleIn_4 {G : sG} {d : Nat} {vs0 : List Value} {σ0 : sS} {v0 : Nat} {v1 : Int32} {v2 : Int32} {v3 : Int32} {σ : sS} {z : sZ Int32} {r : Int32 × sS} (hf : T_X3_idleIn_4 v0 v1 v2 v3 σ = some z) (k : s_K G (d + 6) M_X3_idleIn vs0 σ0 Y_X3_idleIn e_I z r) : s_V G (d + 6) M_X3_idleIn vs0 σ0 Y_X3_idleIn (4, [.ref v0, .int v1, .int v2, .int v3], σ) (e_I r) := by
  have le0 : s_le σ (e_I r).2 := s_lek hem_I (l_X3_idleIn_4 hf) k
  refine ⟨le0, ?_⟩
  intro p e s m below meth c H locs cells slots ls X I hn1 hn2 hl
  have hn : cells + σ0.2.1 ≤ σ.2.1 ∧ slots + σ0.2.2.1 ≤ σ.2.2.1 := ⟨hn1, hn2⟩
  have hl : lv_has ls 5 [(0, .ref v0), (1, .int v1), (2, .int v2), (3, .int v3)] := hl
  have hx := X.1
  have hb : c.code = cX3_idleIn := X.2.1
  have hown : s.vm.findClass RX3 = some m.cls := X.2.2.2.2.2.1
  have hts := X.2.2.2.2.2.2.1
  refine W.eq (g2 := F0 m 4 ls []) rfl ?_
  unfold T_X3_idleIn_4 at hf
  obtain ⟨x1, h1, hf⟩ := s_bind hf
  obtain ⟨x2, h2, hf⟩ := s_bind hf
  refine lv_iload_n hx hb dX3_idleIn_4 rfl (lv_at hl 3 rfl) ?_
  refine lv_aload_n hx hb dX3_idleIn_5 rfl (lv_at hl 0 rfl) ?_
  refine r_gr X I fl_X3_30 h1 dX3_idleIn_6 ?_
  refine r_gi X I fl_X3_48 h2 dX3_idleIn_9 ?_
  rcases s_ite hf with ⟨c3, hf⟩ | ⟨c3, hf⟩
  · refine lv_icmp_ge (tgt := 53) hx hb dX3_idleIn_12 (by decide) (fun _ => ?_) (fun n => absurd c3 n)
    cases hf
    have k : _ = r := k
    subst k
    refine lv_iload_n hx hb dX3_idleIn_53 rfl (lv_at hl 2 rfl) ?_
    exact r_iret X I rfl rfl rfl hn dX3_idleIn_54
  · refine lv_icmp_ge (tgt := 53) hx hb dX3_idleIn_12 (by decide) (fun n => absurd n c3) (fun _ => ?_)
    refine lv_iconst (v := 1) hx hb dX3_idleIn_15 (by decide) ?_
    refine lv_iload_n hx hb dX3_idleIn_16 rfl (lv_at hl 3 rfl) ?_
    refine lv_ishl hx hb dX3_idleIn_17 ?_
    refine lv_istore (lv' := [(4, .int (1 <<< (v3 &&& 31))), (0, .ref v0), (1, .int v1), (2, .int v2), (3, .int v3)]) hx hb dX3_idleIn_18 hl (by decide) rfl (fun ls hl => ?_)
    refine lv_iload_n hx hb dX3_idleIn_20 rfl (lv_at hl 2 rfl) ?_
    refine lv_iload hx hb dX3_idleIn_21 (lv_at hl 0 rfl) ?_
    refine lv_iand hx hb dX3_idleIn_23 ?_
    rcases s_ite hf with ⟨c4, hf⟩ | ⟨c4, hf⟩
    · refine lv_if_eq (tgt := 47) hx hb dX3_idleIn_24 (by decide) (fun _ => ?_) (fun n => absurd c4 n)
      cases hf
      have k : s_V G (d + 6) M_X3_idleIn vs0 σ0 Y_X3_idleIn (47, [.ref v0, .int v1, .int v2, .int v3], σ) (e_I r) := k
      exact k.2 p e s m below meth c _ _ _ _ _ X I hn.1 hn.2 (lv_sub hl [1, 2, 3, 4] rfl)
    · refine lv_if_eq (tgt := 47) hx hb dX3_idleIn_24 (by decide) (fun n => absurd n c4) (fun _ => ?_)
      obtain ⟨q3, h5, hf⟩ := s_bind hf
      have le6 : s_le q3.2 (e_I r).2 := by
        refine s_lek hem_I ?_ k
        rcases s_ite hf with ⟨-, hf⟩ | ⟨-, hf⟩
        · cases hf
          exact s_le.rf
        · cases hf
          exact s_le.rf
      refine lv_aload_n hx hb dX3_idleIn_27 rfl (lv_at hl 1 rfl) ?_
      refine lv_iload_n hx hb dX3_idleIn_28 rfl (lv_at hl 2 rfl) ?_
      refine lv_iload hx hb dX3_idleIn_29 (lv_at hl 0 rfl) ?_
      refine lv_iconst (v := (-1)) hx hb dX3_idleIn_31 (by decide) ?_
      refine lv_ixor hx hb dX3_idleIn_32 ?_
      refine lv_iand hx hb dX3_idleIn_33 ?_
      refine lv_iload_n hx hb dX3_idleIn_34 rfl (lv_at hl 4 rfl) ?_
      refine r_callV (Y := M_X3_leastBreach) (v := some (.int q3.1)) X I w_1504 my_X3_leastBreach (by omega) (t_X3_leastBreach (G := G) (d := d + 0) h5) (b_X3_leastBreach h5) rfl rfl hl.1 rfl (Nat.le_of_ble_eq_true rfl) hn le6 dX3_idleIn_35 (fun H locs cells slots I hn1 hn2 => ?_)
      have I : s_I G q3.2 s H locs := I
      have hn : cells + σ0.2.1 ≤ q3.2.2.1 ∧ slots + σ0.2.2.1 ≤ q3.2.2.2.1 := ⟨hn1, hn2⟩
      refine lv_iconst (v := (-1)) hx hb dX3_idleIn_38 (by decide) ?_
      rcases s_ite hf with ⟨c7, hf⟩ | ⟨c7, hf⟩
      · refine lv_icmp_ne (tgt := 47) hx hb dX3_idleIn_39 (by decide) (fun n => absurd c7 n) (fun _ => ?_)
        cases hf
        have k : s_V G (d + 6) M_X3_idleIn vs0 σ0 Y_X3_idleIn (47, [.ref v0, .int v1, .int (v2 ||| (1 <<< (v3 &&& 31))), .int v3], q3.2) (e_I r) := k
        refine lv_iload_n hx hb dX3_idleIn_42 rfl (lv_at hl 3 rfl) ?_
        refine lv_iload hx hb dX3_idleIn_43 (lv_at hl 0 rfl) ?_
        refine lv_ior hx hb dX3_idleIn_45 ?_
        refine lv_istore_n (lv' := [(2, .int (v2 ||| (1 <<< (v3 &&& 31)))), (4, .int (1 <<< (v3 &&& 31))), (0, .ref v0), (1, .int v1), (3, .int v3)]) hx hb dX3_idleIn_46 rfl hl (by decide) rfl (fun ls hl => ?_)
        exact k.2 p e s m below meth c _ _ _ _ _ X I hn.1 hn.2 (lv_sub hl [2, 3, 0, 4] rfl)
      · refine lv_icmp_ne (tgt := 47) hx hb dX3_idleIn_39 (by decide) (fun _ => ?_) (fun n => absurd n c7)
        cases hf
        have k : s_V G (d + 6) M_X3_idleIn vs0 σ0 Y_X3_idleIn (47, [.ref v0, .int v1, .int v2, .int v3], q3.2) (e_I r) := k
        exact k.2 p e s m below meth c _ _ _ _ _ X I hn.1 hn.2 (lv_sub hl [1, 2, 3, 4] rfl)
set_option maxRecDepth 100000 in
set_option maxHeartbeats 4000000 in
theorem v_X3_idleIn_47 {G : sG} {d : Nat} {vs0 : List Value} {σ0 : sS} {v0 : Nat} {v1 : Int32} {v2 : Int32} {v3 : Int32} {σ : sS} {z : sZ Int32} {r : Int32 × sS} (hf : T_X3_idleIn_47 v0 v1 v2 v3 σ = some z) (k : s_K G (d + 6) M_X3_idleIn vs0 σ0 Y_X3_idleIn e_I z r) : s_V G (d + 6) M_X3_idleIn vs0 σ0 Y_X3_idleIn (47, [.ref v0, .int v1, .int v2, .int v3], σ) (e_I r) := by
  have le0 : s_le σ (e_I r).2 := s_lek hem_I (l_X3_idleIn_47 hf) k
  refine ⟨le0, ?_⟩
  intro p e s m below meth c H locs cells slots ls X I hn1 hn2 hl
  have hn : cells + σ0.2.1 ≤ σ.2.1 ∧ slots + σ0.2.2.1 ≤ σ.2.2.1 := ⟨hn1, hn2⟩
  have hl : lv_has ls 5 [(0, .ref v0), (1, .int v1), (2, .int v2), (3, .int v3)] := hl
  have hx := X.1
  have hb : c.code = cX3_idleIn := X.2.1
  have hown : s.vm.findClass RX3 = some m.cls := X.2.2.2.2.2.1
  have hts := X.2.2.2.2.2.2.1
  refine W.eq (g2 := F0 m 47 ls []) rfl ?_
  unfold T_X3_idleIn_47 at hf
  cases hf
  have k : s_V G (d + 6) M_X3_idleIn vs0 σ0 Y_X3_idleIn (4, [.ref v0, .int v1, .int v2, .int (v3 + 1)], σ) (e_I r) := k
  refine lv_iinc (v := (v3 + 1)) (lv' := [(3, .int (v3 + 1)), (0, .ref v0), (1, .int v1), (2, .int v2)]) hx hb dX3_idleIn_47 hl (k := 3) rfl rfl (by decide) rfl (fun ls hl => ?_)
  refine lv_goto (tgt := 4) hx hb dX3_idleIn_50 (by decide) ?_
  exact k.2 p e s m below meth c _ _ _ _ _ X I hn.1 hn.2 (lv_sub hl [1, 2, 3, 0] rfl)
theorem v_X3_idleIn {G : sG} {d : Nat} {vs0 : List Value} {σ0 : sS} {x : sL} {z : sZ Int32} {r : Int32 × sS} (hs : S_X3_idleIn x = some z) (k : s_K G (d + 6) M_X3_idleIn vs0 σ0 Y_X3_idleIn e_I z r) : s_V G (d + 6) M_X3_idleIn vs0 σ0 Y_X3_idleIn x (e_I r) := by
  obtain ⟨pc, vs, σ⟩ := x
  unfold S_X3_idleIn at hs
  dsimp only at hs
  rcases s_ite hs with ⟨c, hs⟩ | ⟨-, hs⟩
  · subst c
    unfold U_X3_idleIn_0 at hs
    obtain ⟨a0, g0, hs⟩ := s_bind hs
    obtain ⟨a1, g1, hs⟩ := s_bind hs
    obtain ⟨u9, ge, hs⟩ := s_bind hs
    rw [g_r_to g0, g_i_to g1, g_e_to ge]
    exact v_X3_idleIn_0 hs k
  rcases s_ite hs with ⟨c, hs⟩ | ⟨-, hs⟩
  · subst c
    unfold U_X3_idleIn_4 at hs
    obtain ⟨a0, g0, hs⟩ := s_bind hs
    obtain ⟨a1, g1, hs⟩ := s_bind hs
    obtain ⟨a2, g2, hs⟩ := s_bind hs
    obtain ⟨a3, g3, hs⟩ := s_bind hs
    obtain ⟨u9, ge, hs⟩ := s_bind hs
    rw [g_r_to g0, g_i_to g1, g_i_to g2, g_i_to g3, g_e_to ge]
    exact v_X3_idleIn_4 hs k
  rcases s_ite hs with ⟨c, hs⟩ | ⟨-, hs⟩
  · subst c
    unfold U_X3_idleIn_47 at hs
    obtain ⟨a0, g0, hs⟩ := s_bind hs
    obtain ⟨a1, g1, hs⟩ := s_bind hs
    obtain ⟨a2, g2, hs⟩ := s_bind hs
    obtain ⟨a3, g3, hs⟩ := s_bind hs
    obtain ⟨u9, ge, hs⟩ := s_bind hs
    rw [g_r_to g0, g_i_to g1, g_i_to g2, g_i_to g3, g_e_to ge]
    exact v_X3_idleIn_47 hs k
  cases hs
theorem t_X3_idleIn {G : sG} {d : Nat} {v0 : Nat} {v1 : Int32} {σ : sS} {q : Int32 × sS} (h : F_X3_idleIn v0 v1 σ = some q) : s_T G (d + 6) M_X3_idleIn [.ref v0, .int v1] σ (e_I q) := by
  unfold F_X3_idleIn at h
  obtain ⟨-, -, h⟩ := s_bind h
  exact s_ofV rfl (by decide) (Nat.le_of_ble_eq_true rfl) rfl rfl (s_run_ind (V := fun x r => s_V G (d + 6) M_X3_idleIn [.ref v0, .int v1] σ Y_X3_idleIn x (e_I r)) (fun x z r hs hk => v_X3_idleIn hs (by cases z <;> exact hk)) h)
/-! X7_idle -/
noncomputable def T_X7_idle_0 (v0 : Nat) (v1 : Int32) (σ : sS) : Option (sZ (Int32 ⊕ String)) :=
  (F_X7_needCustomer v0 v1 σ).bind fun q1 => s_sum q1.1 (fun x2 => (s_fr q1.2 v0 7 4).bind fun x4 =>
  (s_fr q1.2 v0 7 1).bind fun x5 =>
  (s_fr q1.2 x5 1 5).bind fun x6 =>
  (s_ai q1.2 x6 v1).bind fun x7 =>
  (F_X3_idleIn x4 x7 q1.2).bind fun q8 =>
  some (.inr (.inl q8.1, q8.2))) (fun E3 => some (.inr (.inr E3, q1.2)))
noncomputable def U_X7_idle_0 (vs : List Value) (σ : sS) : Option (sZ (Int32 ⊕ String)) := (g_r vs).bind fun a0 => (g_i a0.2).bind fun a1 => (g_e a1.2).bind fun _ => T_X7_idle_0 a0.1 a1.1 σ
noncomputable def S_X7_idle (x : sL) : Option (sZ (Int32 ⊕ String)) := if x.1 = 0 then U_X7_idle_0 x.2.1 x.2.2 else none
def Y_X7_idle (pc : Nat) : List Nat := if pc = 0 then [0, 1] else []
noncomputable def F_X7_idle (v0 : Nat) (v1 : Int32) (σ : sS) : Option ((Int32 ⊕ String) × sS) := (s_is σ v0 7).bind fun _ => s_run S_X7_idle (0, [.ref v0, .int v1], σ)
theorem l_X7_idle_0 {v0 : Nat} {v1 : Int32} {σ : sS} {z : sZ (Int32 ⊕ String)} (hf : T_X7_idle_0 v0 v1 σ = some z) : s_lz σ z := by
  unfold T_X7_idle_0 at hf
  obtain ⟨q1, hh, hf⟩ := s_bind hf
  refine s_lz.tr (l_X7_needCustomer hh) ?_
  rcases s_sum_some hf with ⟨x2, -, hf⟩ | ⟨E3, -, hf⟩
  · obtain ⟨x4, -, hf⟩ := s_bind hf
    obtain ⟨x5, -, hf⟩ := s_bind hf
    obtain ⟨x6, -, hf⟩ := s_bind hf
    obtain ⟨x7, -, hf⟩ := s_bind hf
    obtain ⟨q8, hh, hf⟩ := s_bind hf
    refine s_lz.tr (l_X3_idleIn hh) ?_
    cases hf
    exact s_le.rf
  · cases hf
    exact s_le.rf
theorem l_X7_idle_s {x : sL} {z : sZ (Int32 ⊕ String)} (hs : S_X7_idle x = some z) : s_lz x.2.2 z := by
  obtain ⟨pc, vs, σ⟩ := x
  unfold S_X7_idle at hs
  dsimp only at hs ⊢
  rcases s_ite hs with ⟨c, hs⟩ | ⟨-, hs⟩
  · subst c
    unfold U_X7_idle_0 at hs
    obtain ⟨a0, g0, hs⟩ := s_bind hs
    obtain ⟨a1, g1, hs⟩ := s_bind hs
    obtain ⟨u9, ge, hs⟩ := s_bind hs
    exact l_X7_idle_0 hs
  cases hs
theorem l_X7_idle {v0 : Nat} {v1 : Int32} {σ : sS} {q : (Int32 ⊕ String) × sS} (h : F_X7_idle v0 v1 σ = some q) : s_le σ q.2 := by
  unfold F_X7_idle at h
  obtain ⟨-, -, h⟩ := s_bind h
  exact s_run_ind (V := fun x r => s_le x.2.2 r.2) (fun x z r hs hk => by
    have h9 := l_X7_idle_s hs
    cases z with
    | inl y => exact s_le.tr h9 hk
    | inr q => cases hk; exact h9) h
theorem b_X7_idle {v0 : Nat} {v1 : Int32} {σ : sS} {q : (Int32 ⊕ String) × sS} (h : F_X7_idle v0 v1 σ = some q) : ∃ fs, σ.1 v0 = some (.inr (7, fs)) := by
  unfold F_X7_idle at h
  obtain ⟨u, hu, -⟩ := s_bind h
  exact s_is_to hu
set_option maxRecDepth 100000 in
set_option maxHeartbeats 4000000 in
theorem v_X7_idle_0 {G : sG} {d : Nat} {vs0 : List Value} {σ0 : sS} {v0 : Nat} {v1 : Int32} {σ : sS} {z : sZ (Int32 ⊕ String)} {r : (Int32 ⊕ String) × sS} (hf : T_X7_idle_0 v0 v1 σ = some z) (k : s_K G (d + 7) M_X7_idle vs0 σ0 Y_X7_idle e_IX z r) : s_V G (d + 7) M_X7_idle vs0 σ0 Y_X7_idle (0, [.ref v0, .int v1], σ) (e_IX r) := by
  have le0 : s_le σ (e_IX r).2 := s_lek hem_IX (l_X7_idle_0 hf) k
  refine ⟨le0, ?_⟩
  intro p e s m below meth c H locs cells slots ls X I hn1 hn2 hl
  have hn : cells + σ0.2.1 ≤ σ.2.1 ∧ slots + σ0.2.2.1 ≤ σ.2.2.1 := ⟨hn1, hn2⟩
  have hl : lv_has ls 2 [(0, .ref v0), (1, .int v1)] := hl
  have hx := X.1
  have hb : c.code = cX7_idle := X.2.1
  have hown : s.vm.findClass RX7 = some m.cls := X.2.2.2.2.2.1
  have hts := X.2.2.2.2.2.2.1
  refine W.eq (g2 := F0 m 0 ls []) rfl ?_
  unfold T_X7_idle_0 at hf
  obtain ⟨q1, h1, hf⟩ := s_bind hf
  refine lv_aload_n hx hb dX7_idle_0 rfl (lv_at hl 0 rfl) ?_
  refine lv_iload_n hx hb dX7_idle_1 rfl (lv_at hl 1 rfl) ?_
  rcases s_sum_some hf with ⟨x2, hq2, hf⟩ | ⟨E3, hq2, hf⟩
  · have le3 : s_le q1.2 (e_IX r).2 := by
      refine s_lek hem_IX ?_ k
      obtain ⟨x4, -, hf⟩ := s_bind hf
      obtain ⟨x5, -, hf⟩ := s_bind hf
      obtain ⟨x6, -, hf⟩ := s_bind hf
      obtain ⟨x7, -, hf⟩ := s_bind hf
      obtain ⟨q8, hh, hf⟩ := s_bind hf
      refine s_lz.tr (l_X3_idleIn hh) ?_
      cases hf
      exact s_le.rf
    refine r_callV (Y := M_X7_needCustomer) (v := none) X I w_1115 my_X7_needCustomer (by omega) (t_X7_needCustomer (G := G) (d := d + 5) h1) (b_X7_needCustomer h1) (e_VX_l hq2) rfl hl.1 rfl (Nat.le_of_ble_eq_true rfl) hn le3 dX7_idle_2 (fun H locs cells slots I hn1 hn2 => ?_)
    have I : s_I G q1.2 s H locs := I
    have hn : cells + σ0.2.1 ≤ q1.2.2.1 ∧ slots + σ0.2.2.1 ≤ q1.2.2.2.1 := ⟨hn1, hn2⟩
    obtain ⟨x4, h4, hf⟩ := s_bind hf
    obtain ⟨x5, h5, hf⟩ := s_bind hf
    obtain ⟨x6, h6, hf⟩ := s_bind hf
    obtain ⟨x7, h7, hf⟩ := s_bind hf
    obtain ⟨q8, h8, hf⟩ := s_bind hf
    cases hf
    have k : _ = r := k
    subst k
    have le9 : s_le q8.2 q8.2 := s_le.rf
    refine lv_aload_n hx hb dX7_idle_5 rfl (lv_at hl 0 rfl) ?_
    refine r_gr X I fl_X7_40 h4 dX7_idle_6 ?_
    refine lv_aload_n hx hb dX7_idle_9 rfl (lv_at hl 0 rfl) ?_
    refine r_gr X I fl_X7_19 h5 dX7_idle_10 ?_
    refine r_gr X I fl_X7_174 h6 dX7_idle_13 ?_
    refine lv_iload_n hx hb dX7_idle_16 rfl (lv_at hl 1 rfl) ?_
    refine r_iald X I h7 dX7_idle_17 ?_
    refine r_callV (Y := M_X3_idleIn) (v := some (.int q8.1)) X I w_1500 my_X3_idleIn (by omega) (t_X3_idleIn (G := G) (d := d + 0) h8) (b_X3_idleIn h8) rfl rfl hl.1 rfl (Nat.le_of_ble_eq_true rfl) hn le9 dX7_idle_18 (fun H locs cells slots I hn1 hn2 => ?_)
    have I : s_I G q8.2 s H locs := I
    have hn : cells + σ0.2.1 ≤ q8.2.2.1 ∧ slots + σ0.2.2.1 ≤ q8.2.2.2.1 := ⟨hn1, hn2⟩
    exact r_iret X I rfl rfl rfl hn dX7_idle_21
  · cases hf
    have k : _ = r := k
    subst k
    exact r_callVx (Y := M_X7_needCustomer) X I rfl w_1115 my_X7_needCustomer (by omega) (t_X7_needCustomer (G := G) (d := d + 5) h1) (b_X7_needCustomer h1) (e_VX_r hq2) rfl hl.1 rfl (Nat.le_of_ble_eq_true rfl) hn rfl dX7_idle_2
theorem v_X7_idle {G : sG} {d : Nat} {vs0 : List Value} {σ0 : sS} {x : sL} {z : sZ (Int32 ⊕ String)} {r : (Int32 ⊕ String) × sS} (hs : S_X7_idle x = some z) (k : s_K G (d + 7) M_X7_idle vs0 σ0 Y_X7_idle e_IX z r) : s_V G (d + 7) M_X7_idle vs0 σ0 Y_X7_idle x (e_IX r) := by
  obtain ⟨pc, vs, σ⟩ := x
  unfold S_X7_idle at hs
  dsimp only at hs
  rcases s_ite hs with ⟨c, hs⟩ | ⟨-, hs⟩
  · subst c
    unfold U_X7_idle_0 at hs
    obtain ⟨a0, g0, hs⟩ := s_bind hs
    obtain ⟨a1, g1, hs⟩ := s_bind hs
    obtain ⟨u9, ge, hs⟩ := s_bind hs
    rw [g_r_to g0, g_i_to g1, g_e_to ge]
    exact v_X7_idle_0 hs k
  cases hs
theorem t_X7_idle {G : sG} {d : Nat} {v0 : Nat} {v1 : Int32} {σ : sS} {q : (Int32 ⊕ String) × sS} (h : F_X7_idle v0 v1 σ = some q) : s_T G (d + 7) M_X7_idle [.ref v0, .int v1] σ (e_IX q) := by
  unfold F_X7_idle at h
  obtain ⟨-, -, h⟩ := s_bind h
  exact s_ofV rfl (by decide) (Nat.le_of_ble_eq_true rfl) rfl rfl (s_run_ind (V := fun x r => s_V G (d + 7) M_X7_idle [.ref v0, .int v1] σ Y_X7_idle x (e_IX r)) (fun x z r hs hk => v_X7_idle hs (by cases z <;> exact hk)) h)
/-! L_idle -/
noncomputable def T_L_idle_0 (v0 : Nat) (v1 : Int32) (v2 : Nat) (σ : sS) : Option (sZ Int32) :=
  (F_X7_idle v0 v1 σ).bind fun q1 => s_sum q1.1 (fun x2 => (s_sl q1.2 v2 0 ((x2 : Int32).toInt64)).bind fun σ4 =>
  some (.inr (0, σ4))) (fun E3 => if E3 = "java/lang/IndexOutOfBoundsException" then (some (.inr (1, q1.2))) else none)
noncomputable def U_L_idle_0 (vs : List Value) (σ : sS) : Option (sZ Int32) := (g_r vs).bind fun a0 => (g_i a0.2).bind fun a1 => (g_r a1.2).bind fun a2 => (g_e a2.2).bind fun _ => T_L_idle_0 a0.1 a1.1 a2.1 σ
noncomputable def S_L_idle (x : sL) : Option (sZ Int32) := if x.1 = 0 then U_L_idle_0 x.2.1 x.2.2 else none
def Y_L_idle (pc : Nat) : List Nat := if pc = 0 then [0, 1, 2] else []
noncomputable def F_L_idle (v0 : Nat) (v1 : Int32) (v2 : Nat) (σ : sS) : Option (Int32 × sS) := s_run S_L_idle (0, [.ref v0, .int v1, .ref v2], σ)
theorem l_L_idle_0 {v0 : Nat} {v1 : Int32} {v2 : Nat} {σ : sS} {z : sZ Int32} (hf : T_L_idle_0 v0 v1 v2 σ = some z) : s_lz σ z := by
  unfold T_L_idle_0 at hf
  obtain ⟨q1, hh, hf⟩ := s_bind hf
  refine s_lz.tr (l_X7_idle hh) ?_
  rcases s_sum_some hf with ⟨x2, -, hf⟩ | ⟨E3, -, hf⟩
  · obtain ⟨σ4, hh, hf⟩ := s_bind hf
    refine s_lz.tr (s_le2 (s_sl_2 hh)) ?_
    cases hf
    exact s_le.rf
  · rcases s_ite hf with ⟨-, hf⟩ | ⟨-, hf⟩
    · cases hf
      exact s_le.rf
    cases hf
theorem l_L_idle_s {x : sL} {z : sZ Int32} (hs : S_L_idle x = some z) : s_lz x.2.2 z := by
  obtain ⟨pc, vs, σ⟩ := x
  unfold S_L_idle at hs
  dsimp only at hs ⊢
  rcases s_ite hs with ⟨c, hs⟩ | ⟨-, hs⟩
  · subst c
    unfold U_L_idle_0 at hs
    obtain ⟨a0, g0, hs⟩ := s_bind hs
    obtain ⟨a1, g1, hs⟩ := s_bind hs
    obtain ⟨a2, g2, hs⟩ := s_bind hs
    obtain ⟨u9, ge, hs⟩ := s_bind hs
    exact l_L_idle_0 hs
  cases hs
theorem l_L_idle {v0 : Nat} {v1 : Int32} {v2 : Nat} {σ : sS} {q : Int32 × sS} (h : F_L_idle v0 v1 v2 σ = some q) : s_le σ q.2 := by
  unfold F_L_idle at h
  exact s_run_ind (V := fun x r => s_le x.2.2 r.2) (fun x z r hs hk => by
    have h9 := l_L_idle_s hs
    cases z with
    | inl y => exact s_le.tr h9 hk
    | inr q => cases hk; exact h9) h
set_option maxRecDepth 100000 in
set_option maxHeartbeats 4000000 in
theorem v_L_idle_0 {G : sG} {d : Nat} {vs0 : List Value} {σ0 : sS} {v0 : Nat} {v1 : Int32} {v2 : Nat} {σ : sS} {z : sZ Int32} {r : Int32 × sS} (hf : T_L_idle_0 v0 v1 v2 σ = some z) (k : s_K G (d + 8) M_L_idle vs0 σ0 Y_L_idle e_I z r) : s_V G (d + 8) M_L_idle vs0 σ0 Y_L_idle (0, [.ref v0, .int v1, .ref v2], σ) (e_I r) := by
  have le0 : s_le σ (e_I r).2 := s_lek hem_I (l_L_idle_0 hf) k
  refine ⟨le0, ?_⟩
  intro p e s m below meth c H locs cells slots ls X I hn1 hn2 hl
  have hn : cells + σ0.2.1 ≤ σ.2.1 ∧ slots + σ0.2.2.1 ≤ σ.2.2.1 := ⟨hn1, hn2⟩
  have hl : lv_has ls 4 [(0, .ref v0), (1, .int v1), (2, .ref v2)] := hl
  have hx := X.1
  have hb : c.code = cL_idle := X.2.1
  have hown : s.vm.findClass RL = some m.cls := X.2.2.2.2.2.1
  have hts := X.2.2.2.2.2.2.1
  refine W.eq (g2 := F0 m 0 ls []) rfl ?_
  unfold T_L_idle_0 at hf
  obtain ⟨q1, h1, hf⟩ := s_bind hf
  refine lv_aload_n hx hb dL_idle_0 rfl (lv_at hl 2 rfl) ?_
  refine lv_iconst (v := 0) hx hb dL_idle_1 (by decide) ?_
  refine lv_aload_n hx hb dL_idle_2 rfl (lv_at hl 0 rfl) ?_
  refine lv_iload_n hx hb dL_idle_3 rfl (lv_at hl 1 rfl) ?_
  rcases s_sum_some hf with ⟨x2, hq2, hf⟩ | ⟨E3, hq2, hf⟩
  · have le3 : s_le q1.2 (e_I r).2 := by
      refine s_lek hem_I ?_ k
      obtain ⟨σ4, hh, hf⟩ := s_bind hf
      refine s_lz.tr (s_le2 (s_sl_2 hh)) ?_
      cases hf
      exact s_le.rf
    refine r_callV (Y := M_X7_idle) (v := some (.int x2)) X I w_1496 my_X7_idle (by omega) (t_X7_idle (G := G) (d := d + 0) h1) (b_X7_idle h1) (e_IX_l hq2) rfl hl.1 rfl (Nat.le_of_ble_eq_true rfl) hn le3 dL_idle_4 (fun H locs cells slots I hn1 hn2 => ?_)
    have I : s_I G q1.2 s H locs := I
    have hn : cells + σ0.2.1 ≤ q1.2.2.1 ∧ slots + σ0.2.2.1 ≤ q1.2.2.2.1 := ⟨hn1, hn2⟩
    obtain ⟨σ4, h4, hf⟩ := s_bind hf
    cases hf
    have k : _ = r := k
    subst k
    have le5 : s_le σ4 σ4 := s_le.rf
    refine lv_i2l hx hb dL_idle_7 rfl ?_
    refine r_last X I h4 dL_idle_8 (fun H locs I => ?_)
    have hn := s_k2 (s_sl_2 h4) hn
    refine lv_goto (tgt := 15) hx hb dL_idle_9 (by decide) ?_
    refine lv_iconst (v := 0) hx hb dL_idle_15 (by decide) ?_
    exact r_iret X I rfl rfl rfl hn dL_idle_16
  · rcases s_ite hf with ⟨c6, hf⟩ | ⟨c6, hf⟩
    · subst c6
      have le7 : s_le q1.2 (e_I r).2 := by
        refine s_lek hem_I ?_ k
        cases hf
        exact s_le.rf
      refine r_callVh (x := (0, 9, 12, 27)) (Y := M_X7_idle) (E := "java/lang/IndexOutOfBoundsException") (name := "java/lang/IndexOutOfBoundsException") X I [] [] rfl (fun z hz => by cases hz) rfl (by decide) w_1011 (by decide +kernel) w_1496 my_X7_idle (by omega) (t_X7_idle (G := G) (d := d + 0) h1) (b_X7_idle h1) (e_IX_r hq2) rfl hl.1 rfl (Nat.le_of_ble_eq_true rfl) hn le7 dL_idle_4 (fun a5 H locs cells slots I hn1 hn2 => ?_)
      have I : s_I G q1.2 s H locs := I
      have hn : cells + σ0.2.1 ≤ q1.2.2.1 ∧ slots + σ0.2.2.1 ≤ q1.2.2.2.1 := ⟨hn1, hn2⟩
      cases hf
      have k : _ = r := k
      subst k
      refine lv_astore_n (lv' := [(3, .ref a5), (0, .ref v0), (1, .int v1), (2, .ref v2)]) hx hb dL_idle_12 rfl hl (by decide) rfl (fun ls hl => ?_)
      refine lv_iconst (v := 1) hx hb dL_idle_13 (by decide) ?_
      exact r_iret X I rfl rfl rfl hn dL_idle_14
    cases hf
theorem v_L_idle {G : sG} {d : Nat} {vs0 : List Value} {σ0 : sS} {x : sL} {z : sZ Int32} {r : Int32 × sS} (hs : S_L_idle x = some z) (k : s_K G (d + 8) M_L_idle vs0 σ0 Y_L_idle e_I z r) : s_V G (d + 8) M_L_idle vs0 σ0 Y_L_idle x (e_I r) := by
  obtain ⟨pc, vs, σ⟩ := x
  unfold S_L_idle at hs
  dsimp only at hs
  rcases s_ite hs with ⟨c, hs⟩ | ⟨-, hs⟩
  · subst c
    unfold U_L_idle_0 at hs
    obtain ⟨a0, g0, hs⟩ := s_bind hs
    obtain ⟨a1, g1, hs⟩ := s_bind hs
    obtain ⟨a2, g2, hs⟩ := s_bind hs
    obtain ⟨u9, ge, hs⟩ := s_bind hs
    rw [g_r_to g0, g_i_to g1, g_r_to g2, g_e_to ge]
    exact v_L_idle_0 hs k
  cases hs
theorem t_L_idle {G : sG} {d : Nat} {v0 : Nat} {v1 : Int32} {v2 : Nat} {σ : sS} {q : Int32 × sS} (h : F_L_idle v0 v1 v2 σ = some q) : s_T G (d + 8) M_L_idle [.ref v0, .int v1, .ref v2] σ (e_I q) := by
  unfold F_L_idle at h
  exact s_ofVH rfl (by decide) (Nat.le_of_ble_eq_true rfl) rfl rfl (s_run_ind (V := fun x r => s_V G (d + 8) M_L_idle [.ref v0, .int v1, .ref v2] σ Y_L_idle x (e_I r)) (fun x z r hs hk => v_L_idle hs (by cases z <;> exact hk)) h)
/-! X7_is -/
noncomputable def T_X7_is_0 (v0 : Nat) (v1 : Int32) (v2 : Int32) (σ : sS) : Option (sZ (Int32 ⊕ String)) :=
  (F_X7_needLine v0 v1 σ).bind fun q1 => s_sum q1.1 (fun x2 => if v2 < 0 then (some (.inr (.inr "java/util/NoSuchElementException", s_ex q1.2)))
  else (if v2 ≤ 4 then ((s_fr q1.2 v0 7 5).bind fun x4 =>
  (F_X0_audit x4 q1.2).bind fun q5 =>
  (s_fr q5.2 v0 7 5).bind fun x6 =>
  (F_X0_tells x6 v1 v2 q5.2).bind fun q7 =>
  if (q7.1 = 0 ∨ q7.1 = 1) then (some (.inr (.inl q7.1, q7.2))) else none)
  else (some (.inr (.inr "java/util/NoSuchElementException", s_ex q1.2))))) (fun E3 => some (.inr (.inr E3, q1.2)))
noncomputable def U_X7_is_0 (vs : List Value) (σ : sS) : Option (sZ (Int32 ⊕ String)) := (g_r vs).bind fun a0 => (g_i a0.2).bind fun a1 => (g_i a1.2).bind fun a2 => (g_e a2.2).bind fun _ => T_X7_is_0 a0.1 a1.1 a2.1 σ
noncomputable def S_X7_is (x : sL) : Option (sZ (Int32 ⊕ String)) := if x.1 = 0 then U_X7_is_0 x.2.1 x.2.2 else none
def Y_X7_is (pc : Nat) : List Nat := if pc = 0 then [0, 1, 2] else []
noncomputable def F_X7_is (v0 : Nat) (v1 : Int32) (v2 : Int32) (σ : sS) : Option ((Int32 ⊕ String) × sS) := (s_is σ v0 7).bind fun _ => s_run S_X7_is (0, [.ref v0, .int v1, .int v2], σ)
theorem l_X7_is_0 {v0 : Nat} {v1 : Int32} {v2 : Int32} {σ : sS} {z : sZ (Int32 ⊕ String)} (hf : T_X7_is_0 v0 v1 v2 σ = some z) : s_lz σ z := by
  unfold T_X7_is_0 at hf
  obtain ⟨q1, hh, hf⟩ := s_bind hf
  refine s_lz.tr (l_X7_needLine hh) ?_
  rcases s_sum_some hf with ⟨x2, -, hf⟩ | ⟨E3, -, hf⟩
  · rcases s_ite hf with ⟨-, hf⟩ | ⟨-, hf⟩
    · cases hf
      exact s_ex_le
    · rcases s_ite hf with ⟨-, hf⟩ | ⟨-, hf⟩
      · obtain ⟨x4, -, hf⟩ := s_bind hf
        obtain ⟨q5, hh, hf⟩ := s_bind hf
        refine s_lz.tr (l_X0_audit hh) ?_
        obtain ⟨x6, -, hf⟩ := s_bind hf
        obtain ⟨q7, hh, hf⟩ := s_bind hf
        refine s_lz.tr (l_X0_tells hh) ?_
        rcases s_ite hf with ⟨-, hf⟩ | ⟨-, hf⟩
        · cases hf
          exact s_le.rf
        · cases hf
      · cases hf
        exact s_ex_le
  · cases hf
    exact s_le.rf
theorem l_X7_is_s {x : sL} {z : sZ (Int32 ⊕ String)} (hs : S_X7_is x = some z) : s_lz x.2.2 z := by
  obtain ⟨pc, vs, σ⟩ := x
  unfold S_X7_is at hs
  dsimp only at hs ⊢
  rcases s_ite hs with ⟨c, hs⟩ | ⟨-, hs⟩
  · subst c
    unfold U_X7_is_0 at hs
    obtain ⟨a0, g0, hs⟩ := s_bind hs
    obtain ⟨a1, g1, hs⟩ := s_bind hs
    obtain ⟨a2, g2, hs⟩ := s_bind hs
    obtain ⟨u9, ge, hs⟩ := s_bind hs
    exact l_X7_is_0 hs
  cases hs
theorem l_X7_is {v0 : Nat} {v1 : Int32} {v2 : Int32} {σ : sS} {q : (Int32 ⊕ String) × sS} (h : F_X7_is v0 v1 v2 σ = some q) : s_le σ q.2 := by
  unfold F_X7_is at h
  obtain ⟨-, -, h⟩ := s_bind h
  exact s_run_ind (V := fun x r => s_le x.2.2 r.2) (fun x z r hs hk => by
    have h9 := l_X7_is_s hs
    cases z with
    | inl y => exact s_le.tr h9 hk
    | inr q => cases hk; exact h9) h
theorem b_X7_is {v0 : Nat} {v1 : Int32} {v2 : Int32} {σ : sS} {q : (Int32 ⊕ String) × sS} (h : F_X7_is v0 v1 v2 σ = some q) : ∃ fs, σ.1 v0 = some (.inr (7, fs)) := by
  unfold F_X7_is at h
  obtain ⟨u, hu, -⟩ := s_bind h
  exact s_is_to hu
set_option maxRecDepth 100000 in
set_option maxHeartbeats 4000000 in
theorem v_X7_is_0 {G : sG} {d : Nat} {vs0 : List Value} {σ0 : sS} {v0 : Nat} {v1 : Int32} {v2 : Int32} {σ : sS} {z : sZ (Int32 ⊕ String)} {r : (Int32 ⊕ String) × sS} (hf : T_X7_is_0 v0 v1 v2 σ = some z) (k : s_K G (d + 7) M_X7_is vs0 σ0 Y_X7_is e_IX z r) : s_V G (d + 7) M_X7_is vs0 σ0 Y_X7_is (0, [.ref v0, .int v1, .int v2], σ) (e_IX r) := by
  have le0 : s_le σ (e_IX r).2 := s_lek hem_IX (l_X7_is_0 hf) k
  refine ⟨le0, ?_⟩
  intro p e s m below meth c H locs cells slots ls X I hn1 hn2 hl
  have hn : cells + σ0.2.1 ≤ σ.2.1 ∧ slots + σ0.2.2.1 ≤ σ.2.2.1 := ⟨hn1, hn2⟩
  have hl : lv_has ls 3 [(0, .ref v0), (1, .int v1), (2, .int v2)] := hl
  have hx := X.1
  have hb : c.code = cX7_is := X.2.1
  have hown : s.vm.findClass RX7 = some m.cls := X.2.2.2.2.2.1
  have hts := X.2.2.2.2.2.2.1
  refine W.eq (g2 := F0 m 0 ls []) rfl ?_
  unfold T_X7_is_0 at hf
  obtain ⟨q1, h1, hf⟩ := s_bind hf
  refine lv_aload_n hx hb dX7_is_0 rfl (lv_at hl 0 rfl) ?_
  refine lv_iload_n hx hb dX7_is_1 rfl (lv_at hl 1 rfl) ?_
  rcases s_sum_some hf with ⟨x2, hq2, hf⟩ | ⟨E3, hq2, hf⟩
  · have le3 : s_le q1.2 (e_IX r).2 := by
      refine s_lek hem_IX ?_ k
      rcases s_ite hf with ⟨-, hf⟩ | ⟨-, hf⟩
      · cases hf
        exact s_ex_le
      · rcases s_ite hf with ⟨-, hf⟩ | ⟨-, hf⟩
        · obtain ⟨x4, -, hf⟩ := s_bind hf
          obtain ⟨q5, hh, hf⟩ := s_bind hf
          refine s_lz.tr (l_X0_audit hh) ?_
          obtain ⟨x6, -, hf⟩ := s_bind hf
          obtain ⟨q7, hh, hf⟩ := s_bind hf
          refine s_lz.tr (l_X0_tells hh) ?_
          rcases s_ite hf with ⟨-, hf⟩ | ⟨-, hf⟩
          · cases hf
            exact s_le.rf
          · cases hf
        · cases hf
          exact s_ex_le
    refine r_callV (Y := M_X7_needLine) (v := none) X I w_1138 my_X7_needLine (by omega) (t_X7_needLine (G := G) (d := d + 5) h1) (b_X7_needLine h1) (e_VX_l hq2) rfl hl.1 rfl (Nat.le_of_ble_eq_true rfl) hn le3 dX7_is_2 (fun H locs cells slots I hn1 hn2 => ?_)
    have I : s_I G q1.2 s H locs := I
    have hn : cells + σ0.2.1 ≤ q1.2.2.1 ∧ slots + σ0.2.2.1 ≤ q1.2.2.2.1 := ⟨hn1, hn2⟩
    refine lv_iload_n hx hb dX7_is_5 rfl (lv_at hl 2 rfl) ?_
    rcases s_ite hf with ⟨c4, hf⟩ | ⟨c4, hf⟩
    · refine lv_if_lt (tgt := 14) hx hb dX7_is_6 (by decide) (fun _ => ?_) (fun n => absurd c4 n)
      cases hf
      have k : _ = r := k
      subst k
      exact r_throwN X I rfl thn_X7_198_200 hl.1 (Nat.le_of_ble_eq_true rfl) hn rfl dX7_is_14 dX7_is_17 dX7_is_18 dX7_is_20 dX7_is_23
    · refine lv_if_lt (tgt := 14) hx hb dX7_is_6 (by decide) (fun n => absurd n c4) (fun _ => ?_)
      refine lv_iload_n hx hb dX7_is_9 rfl (lv_at hl 2 rfl) ?_
      refine lv_iconst (v := 4) hx hb dX7_is_10 (by decide) ?_
      rcases s_ite hf with ⟨c5, hf⟩ | ⟨c5, hf⟩
      · refine lv_icmp_le (tgt := 24) hx hb dX7_is_11 (by decide) (fun _ => ?_) (fun n => absurd c5 n)
        obtain ⟨x4, h6, hf⟩ := s_bind hf
        obtain ⟨q5, h7, hf⟩ := s_bind hf
        obtain ⟨x6, h8, hf⟩ := s_bind hf
        obtain ⟨q7, h9, hf⟩ := s_bind hf
        have le10 : s_le q7.2 (e_IX r).2 := by
          refine s_lek hem_IX ?_ k
          rcases s_ite hf with ⟨-, hf⟩ | ⟨-, hf⟩
          · cases hf
            exact s_le.rf
          · cases hf
        have le11 := s_le.tr (l_X0_tells h9) le10
        refine lv_aload_n hx hb dX7_is_24 rfl (lv_at hl 0 rfl) ?_
        refine r_gr X I fl_X7_49 h6 dX7_is_25 ?_
        refine r_callV (Y := M_X0_audit) (v := none) X I w_509 my_X0_audit (by omega) (t_X0_audit (G := G) (d := d + 0) h7) (b_X0_audit h7) rfl rfl hl.1 rfl (Nat.le_of_ble_eq_true rfl) hn le11 dX7_is_28 (fun H locs cells slots I hn1 hn2 => ?_)
        have I : s_I G q5.2 s H locs := I
        have hn : cells + σ0.2.1 ≤ q5.2.2.1 ∧ slots + σ0.2.2.1 ≤ q5.2.2.2.1 := ⟨hn1, hn2⟩
        refine lv_aload_n hx hb dX7_is_31 rfl (lv_at hl 0 rfl) ?_
        refine r_gr X I fl_X7_49 h8 dX7_is_32 ?_
        refine lv_iload_n hx hb dX7_is_35 rfl (lv_at hl 1 rfl) ?_
        refine lv_iload_n hx hb dX7_is_36 rfl (lv_at hl 2 rfl) ?_
        refine r_callV (Y := M_X0_tells) (v := some (.int q7.1)) X I w_1191 my_X0_tells (by omega) (t_X0_tells (G := G) (d := d + 2) h9) (b_X0_tells h9) rfl rfl hl.1 rfl (Nat.le_of_ble_eq_true rfl) hn le10 dX7_is_37 (fun H locs cells slots I hn1 hn2 => ?_)
        have I : s_I G q7.2 s H locs := I
        have hn : cells + σ0.2.1 ≤ q7.2.2.1 ∧ slots + σ0.2.2.1 ≤ q7.2.2.2.1 := ⟨hn1, hn2⟩
        rcases s_ite hf with ⟨hchk, hf⟩ | ⟨-, hf⟩
        · cases hf
          have k : _ = r := k
          subst k
          exact r_iret X I rfl (s_nb hchk) rfl hn dX7_is_40
        · cases hf
      · refine lv_icmp_le (tgt := 24) hx hb dX7_is_11 (by decide) (fun n => absurd n c5) (fun _ => ?_)
        cases hf
        have k : _ = r := k
        subst k
        exact r_throwN X I rfl thn_X7_198_200 hl.1 (Nat.le_of_ble_eq_true rfl) hn rfl dX7_is_14 dX7_is_17 dX7_is_18 dX7_is_20 dX7_is_23
  · cases hf
    have k : _ = r := k
    subst k
    exact r_callVx (Y := M_X7_needLine) X I rfl w_1138 my_X7_needLine (by omega) (t_X7_needLine (G := G) (d := d + 5) h1) (b_X7_needLine h1) (e_VX_r hq2) rfl hl.1 rfl (Nat.le_of_ble_eq_true rfl) hn rfl dX7_is_2
theorem v_X7_is {G : sG} {d : Nat} {vs0 : List Value} {σ0 : sS} {x : sL} {z : sZ (Int32 ⊕ String)} {r : (Int32 ⊕ String) × sS} (hs : S_X7_is x = some z) (k : s_K G (d + 7) M_X7_is vs0 σ0 Y_X7_is e_IX z r) : s_V G (d + 7) M_X7_is vs0 σ0 Y_X7_is x (e_IX r) := by
  obtain ⟨pc, vs, σ⟩ := x
  unfold S_X7_is at hs
  dsimp only at hs
  rcases s_ite hs with ⟨c, hs⟩ | ⟨-, hs⟩
  · subst c
    unfold U_X7_is_0 at hs
    obtain ⟨a0, g0, hs⟩ := s_bind hs
    obtain ⟨a1, g1, hs⟩ := s_bind hs
    obtain ⟨a2, g2, hs⟩ := s_bind hs
    obtain ⟨u9, ge, hs⟩ := s_bind hs
    rw [g_r_to g0, g_i_to g1, g_i_to g2, g_e_to ge]
    exact v_X7_is_0 hs k
  cases hs
theorem t_X7_is {G : sG} {d : Nat} {v0 : Nat} {v1 : Int32} {v2 : Int32} {σ : sS} {q : (Int32 ⊕ String) × sS} (h : F_X7_is v0 v1 v2 σ = some q) : s_T G (d + 7) M_X7_is [.ref v0, .int v1, .int v2] σ (e_IX q) := by
  unfold F_X7_is at h
  obtain ⟨-, -, h⟩ := s_bind h
  exact s_ofV rfl (by decide) (Nat.le_of_ble_eq_true rfl) rfl rfl (s_run_ind (V := fun x r => s_V G (d + 7) M_X7_is [.ref v0, .int v1, .int v2] σ Y_X7_is x (e_IX r)) (fun x z r hs hk => v_X7_is hs (by cases z <;> exact hk)) h)
/-! L_is -/
noncomputable def T_L_is_0 (v0 : Nat) (v1 : Int32) (v2 : Int32) (v3 : Nat) (σ : sS) : Option (sZ Int32) :=
  (F_X7_is v0 v1 v2 σ).bind fun q1 => s_sum q1.1 (fun x2 => if x2 = 0 then (some (.inl (16, [.long 0, .int 0, .ref v3], q1.2)))
  else (some (.inl (16, [.long 1, .int 0, .ref v3], q1.2)))) (fun E3 => if E3 = "java/lang/IndexOutOfBoundsException" then (some (.inr (1, q1.2))) else if E3 = "java/util/NoSuchElementException" then (some (.inr (2, q1.2))) else none)
noncomputable def U_L_is_0 (vs : List Value) (σ : sS) : Option (sZ Int32) := (g_r vs).bind fun a0 => (g_i a0.2).bind fun a1 => (g_i a1.2).bind fun a2 => (g_r a2.2).bind fun a3 => (g_e a3.2).bind fun _ => T_L_is_0 a0.1 a1.1 a2.1 a3.1 σ
noncomputable def T_L_is_16 (w0 : Int64) (w1 : Int32) (w2 : Nat) (σ : sS) : Option (sZ Int32) :=
  (s_sl σ w2 w1 w0).bind fun σ1 =>
  some (.inr (0, σ1))
noncomputable def U_L_is_16 (vs : List Value) (σ : sS) : Option (sZ Int32) := (g_l vs).bind fun a0 => (g_i a0.2).bind fun a1 => (g_r a1.2).bind fun a2 => (g_e a2.2).bind fun _ => T_L_is_16 a0.1 a1.1 a2.1 σ
noncomputable def S_L_is (x : sL) : Option (sZ Int32) := if x.1 = 0 then U_L_is_0 x.2.1 x.2.2 else if x.1 = 16 then U_L_is_16 x.2.1 x.2.2 else none
def Y_L_is (pc : Nat) : List Nat := if pc = 0 then [0, 1, 2, 3] else if pc = 16 then [] else []
noncomputable def F_L_is (v0 : Nat) (v1 : Int32) (v2 : Int32) (v3 : Nat) (σ : sS) : Option (Int32 × sS) := s_run S_L_is (0, [.ref v0, .int v1, .int v2, .ref v3], σ)
theorem hp_L_is_5_1 : s_pass RL "java/util/NoSuchElementException" 5 [(0, 17, 20, 27)] := fun z hz => by
  simp only [List.mem_cons, List.not_mem_nil, or_false] at hz
  rcases hz with rfl
  · exact ⟨rfl, by decide, "java/lang/IndexOutOfBoundsException", w_1011, by decide +kernel⟩
theorem l_L_is_0 {v0 : Nat} {v1 : Int32} {v2 : Int32} {v3 : Nat} {σ : sS} {z : sZ Int32} (hf : T_L_is_0 v0 v1 v2 v3 σ = some z) : s_lz σ z := by
  unfold T_L_is_0 at hf
  obtain ⟨q1, hh, hf⟩ := s_bind hf
  refine s_lz.tr (l_X7_is hh) ?_
  rcases s_sum_some hf with ⟨x2, -, hf⟩ | ⟨E3, -, hf⟩
  · rcases s_ite hf with ⟨-, hf⟩ | ⟨-, hf⟩
    · cases hf
      exact s_le.rf
    · cases hf
      exact s_le.rf
  · rcases s_ite hf with ⟨-, hf⟩ | ⟨-, hf⟩
    · cases hf
      exact s_le.rf
    rcases s_ite hf with ⟨-, hf⟩ | ⟨-, hf⟩
    · cases hf
      exact s_le.rf
    cases hf
theorem l_L_is_16 {w0 : Int64} {w1 : Int32} {w2 : Nat} {σ : sS} {z : sZ Int32} (hf : T_L_is_16 w0 w1 w2 σ = some z) : s_lz σ z := by
  unfold T_L_is_16 at hf
  obtain ⟨σ1, hh, hf⟩ := s_bind hf
  refine s_lz.tr (s_le2 (s_sl_2 hh)) ?_
  cases hf
  exact s_le.rf
theorem l_L_is_s {x : sL} {z : sZ Int32} (hs : S_L_is x = some z) : s_lz x.2.2 z := by
  obtain ⟨pc, vs, σ⟩ := x
  unfold S_L_is at hs
  dsimp only at hs ⊢
  rcases s_ite hs with ⟨c, hs⟩ | ⟨-, hs⟩
  · subst c
    unfold U_L_is_0 at hs
    obtain ⟨a0, g0, hs⟩ := s_bind hs
    obtain ⟨a1, g1, hs⟩ := s_bind hs
    obtain ⟨a2, g2, hs⟩ := s_bind hs
    obtain ⟨a3, g3, hs⟩ := s_bind hs
    obtain ⟨u9, ge, hs⟩ := s_bind hs
    exact l_L_is_0 hs
  rcases s_ite hs with ⟨c, hs⟩ | ⟨-, hs⟩
  · subst c
    unfold U_L_is_16 at hs
    obtain ⟨a0, g0, hs⟩ := s_bind hs
    obtain ⟨a1, g1, hs⟩ := s_bind hs
    obtain ⟨a2, g2, hs⟩ := s_bind hs
    obtain ⟨u9, ge, hs⟩ := s_bind hs
    exact l_L_is_16 hs
  cases hs
theorem l_L_is {v0 : Nat} {v1 : Int32} {v2 : Int32} {v3 : Nat} {σ : sS} {q : Int32 × sS} (h : F_L_is v0 v1 v2 v3 σ = some q) : s_le σ q.2 := by
  unfold F_L_is at h
  exact s_run_ind (V := fun x r => s_le x.2.2 r.2) (fun x z r hs hk => by
    have h9 := l_L_is_s hs
    cases z with
    | inl y => exact s_le.tr h9 hk
    | inr q => cases hk; exact h9) h
set_option maxRecDepth 100000 in
set_option maxHeartbeats 4000000 in
theorem v_L_is_0 {G : sG} {d : Nat} {vs0 : List Value} {σ0 : sS} {v0 : Nat} {v1 : Int32} {v2 : Int32} {v3 : Nat} {σ : sS} {z : sZ Int32} {r : Int32 × sS} (hf : T_L_is_0 v0 v1 v2 v3 σ = some z) (k : s_K G (d + 8) M_L_is vs0 σ0 Y_L_is e_I z r) : s_V G (d + 8) M_L_is vs0 σ0 Y_L_is (0, [.ref v0, .int v1, .int v2, .ref v3], σ) (e_I r) := by
  have le0 : s_le σ (e_I r).2 := s_lek hem_I (l_L_is_0 hf) k
  refine ⟨le0, ?_⟩
  intro p e s m below meth c H locs cells slots ls X I hn1 hn2 hl
  have hn : cells + σ0.2.1 ≤ σ.2.1 ∧ slots + σ0.2.2.1 ≤ σ.2.2.1 := ⟨hn1, hn2⟩
  have hl : lv_has ls 5 [(0, .ref v0), (1, .int v1), (2, .int v2), (3, .ref v3)] := hl
  have hx := X.1
  have hb : c.code = cL_is := X.2.1
  have hown : s.vm.findClass RL = some m.cls := X.2.2.2.2.2.1
  have hts := X.2.2.2.2.2.2.1
  refine W.eq (g2 := F0 m 0 ls []) rfl ?_
  unfold T_L_is_0 at hf
  obtain ⟨q1, h1, hf⟩ := s_bind hf
  refine lv_aload_n hx hb dL_is_0 rfl (lv_at hl 3 rfl) ?_
  refine lv_iconst (v := 0) hx hb dL_is_1 (by decide) ?_
  refine lv_aload_n hx hb dL_is_2 rfl (lv_at hl 0 rfl) ?_
  refine lv_iload_n hx hb dL_is_3 rfl (lv_at hl 1 rfl) ?_
  refine lv_iload_n hx hb dL_is_4 rfl (lv_at hl 2 rfl) ?_
  rcases s_sum_some hf with ⟨x2, hq2, hf⟩ | ⟨E3, hq2, hf⟩
  · have le3 : s_le q1.2 (e_I r).2 := by
      refine s_lek hem_I ?_ k
      rcases s_ite hf with ⟨-, hf⟩ | ⟨-, hf⟩
      · cases hf
        exact s_le.rf
      · cases hf
        exact s_le.rf
    refine r_callV (Y := M_X7_is) (v := some (.int x2)) X I w_1187 my_X7_is (by omega) (t_X7_is (G := G) (d := d + 0) h1) (b_X7_is h1) (e_IX_l hq2) rfl hl.1 rfl (Nat.le_of_ble_eq_true rfl) hn le3 dL_is_5 (fun H locs cells slots I hn1 hn2 => ?_)
    have I : s_I G q1.2 s H locs := I
    have hn : cells + σ0.2.1 ≤ q1.2.2.1 ∧ slots + σ0.2.2.1 ≤ q1.2.2.2.1 := ⟨hn1, hn2⟩
    rcases s_ite hf with ⟨c4, hf⟩ | ⟨c4, hf⟩
    · refine lv_if_eq (tgt := 15) hx hb dL_is_8 (by decide) (fun _ => ?_) (fun n => absurd c4 n)
      cases hf
      have k : s_V G (d + 8) M_L_is vs0 σ0 Y_L_is (16, [.long 0, .int 0, .ref v3], q1.2) (e_I r) := k
      refine lv_lconst (v := 0) hx hb dL_is_15 (by decide) ?_
      exact k.2 p e s m below meth c _ _ _ _ _ X I hn.1 hn.2 (lv_sub hl [] rfl)
    · refine lv_if_eq (tgt := 15) hx hb dL_is_8 (by decide) (fun n => absurd n c4) (fun _ => ?_)
      cases hf
      have k : s_V G (d + 8) M_L_is vs0 σ0 Y_L_is (16, [.long 1, .int 0, .ref v3], q1.2) (e_I r) := k
      refine lv_lconst (v := 1) hx hb dL_is_11 (by decide) ?_
      refine lv_goto (tgt := 16) hx hb dL_is_12 (by decide) ?_
      exact k.2 p e s m below meth c _ _ _ _ _ X I hn.1 hn.2 (lv_sub hl [] rfl)
  · rcases s_ite hf with ⟨c5, hf⟩ | ⟨c5, hf⟩
    · subst c5
      have le6 : s_le q1.2 (e_I r).2 := by
        refine s_lek hem_I ?_ k
        cases hf
        exact s_le.rf
      refine r_callVh (x := (0, 17, 20, 27)) (Y := M_X7_is) (E := "java/lang/IndexOutOfBoundsException") (name := "java/lang/IndexOutOfBoundsException") X I [] [(0, 17, 24, 61)] rfl (fun z hz => by cases hz) rfl (by decide) w_1011 (by decide +kernel) w_1187 my_X7_is (by omega) (t_X7_is (G := G) (d := d + 0) h1) (b_X7_is h1) (e_IX_r hq2) rfl hl.1 rfl (Nat.le_of_ble_eq_true rfl) hn le6 dL_is_5 (fun a4 H locs cells slots I hn1 hn2 => ?_)
      have I : s_I G q1.2 s H locs := I
      have hn : cells + σ0.2.1 ≤ q1.2.2.1 ∧ slots + σ0.2.2.1 ≤ q1.2.2.2.1 := ⟨hn1, hn2⟩
      cases hf
      have k : _ = r := k
      subst k
      refine lv_astore (lv' := [(4, .ref a4), (0, .ref v0), (1, .int v1), (2, .int v2), (3, .ref v3)]) hx hb dL_is_20 hl (by decide) rfl (fun ls hl => ?_)
      refine lv_iconst (v := 1) hx hb dL_is_22 (by decide) ?_
      exact r_iret X I rfl rfl rfl hn dL_is_23
    rcases s_ite hf with ⟨c7, hf⟩ | ⟨c7, hf⟩
    · subst c7
      have le8 : s_le q1.2 (e_I r).2 := by
        refine s_lek hem_I ?_ k
        cases hf
        exact s_le.rf
      refine r_callVh (x := (0, 17, 24, 61)) (Y := M_X7_is) (E := "java/util/NoSuchElementException") (name := "java/util/NoSuchElementException") X I [(0, 17, 20, 27)] [] rfl hp_L_is_5_1 rfl (by decide) w_1161 (by decide +kernel) w_1187 my_X7_is (by omega) (t_X7_is (G := G) (d := d + 0) h1) (b_X7_is h1) (e_IX_r hq2) rfl hl.1 rfl (Nat.le_of_ble_eq_true rfl) hn le8 dL_is_5 (fun a5 H locs cells slots I hn1 hn2 => ?_)
      have I : s_I G q1.2 s H locs := I
      have hn : cells + σ0.2.1 ≤ q1.2.2.1 ∧ slots + σ0.2.2.1 ≤ q1.2.2.2.1 := ⟨hn1, hn2⟩
      cases hf
      have k : _ = r := k
      subst k
      refine lv_astore (lv' := [(4, .ref a5), (0, .ref v0), (1, .int v1), (2, .int v2), (3, .ref v3)]) hx hb dL_is_24 hl (by decide) rfl (fun ls hl => ?_)
      refine lv_iconst (v := 2) hx hb dL_is_26 (by decide) ?_
      exact r_iret X I rfl rfl rfl hn dL_is_27
    cases hf
set_option maxRecDepth 100000 in
set_option maxHeartbeats 4000000 in
theorem v_L_is_16 {G : sG} {d : Nat} {vs0 : List Value} {σ0 : sS} {w0 : Int64} {w1 : Int32} {w2 : Nat} {σ : sS} {z : sZ Int32} {r : Int32 × sS} (hf : T_L_is_16 w0 w1 w2 σ = some z) (k : s_K G (d + 8) M_L_is vs0 σ0 Y_L_is e_I z r) : s_V G (d + 8) M_L_is vs0 σ0 Y_L_is (16, [.long w0, .int w1, .ref w2], σ) (e_I r) := by
  have le0 : s_le σ (e_I r).2 := s_lek hem_I (l_L_is_16 hf) k
  refine ⟨le0, ?_⟩
  intro p e s m below meth c H locs cells slots ls X I hn1 hn2 hl
  have hn : cells + σ0.2.1 ≤ σ.2.1 ∧ slots + σ0.2.2.1 ≤ σ.2.2.1 := ⟨hn1, hn2⟩
  have hl : lv_has ls 5 [] := hl
  have hx := X.1
  have hb : c.code = cL_is := X.2.1
  have hown : s.vm.findClass RL = some m.cls := X.2.2.2.2.2.1
  have hts := X.2.2.2.2.2.2.1
  refine W.eq (g2 := F0 m 16 ls [.long w0, .int w1, .ref w2]) rfl ?_
  unfold T_L_is_16 at hf
  obtain ⟨σ1, h1, hf⟩ := s_bind hf
  cases hf
  have k : _ = r := k
  subst k
  have le2 : s_le σ1 σ1 := s_le.rf
  refine r_last X I h1 dL_is_16 (fun H locs I => ?_)
  have hn := s_k2 (s_sl_2 h1) hn
  refine lv_goto (tgt := 28) hx hb dL_is_17 (by decide) ?_
  refine lv_iconst (v := 0) hx hb dL_is_28 (by decide) ?_
  exact r_iret X I rfl rfl rfl hn dL_is_29
theorem v_L_is {G : sG} {d : Nat} {vs0 : List Value} {σ0 : sS} {x : sL} {z : sZ Int32} {r : Int32 × sS} (hs : S_L_is x = some z) (k : s_K G (d + 8) M_L_is vs0 σ0 Y_L_is e_I z r) : s_V G (d + 8) M_L_is vs0 σ0 Y_L_is x (e_I r) := by
  obtain ⟨pc, vs, σ⟩ := x
  unfold S_L_is at hs
  dsimp only at hs
  rcases s_ite hs with ⟨c, hs⟩ | ⟨-, hs⟩
  · subst c
    unfold U_L_is_0 at hs
    obtain ⟨a0, g0, hs⟩ := s_bind hs
    obtain ⟨a1, g1, hs⟩ := s_bind hs
    obtain ⟨a2, g2, hs⟩ := s_bind hs
    obtain ⟨a3, g3, hs⟩ := s_bind hs
    obtain ⟨u9, ge, hs⟩ := s_bind hs
    rw [g_r_to g0, g_i_to g1, g_i_to g2, g_r_to g3, g_e_to ge]
    exact v_L_is_0 hs k
  rcases s_ite hs with ⟨c, hs⟩ | ⟨-, hs⟩
  · subst c
    unfold U_L_is_16 at hs
    obtain ⟨a0, g0, hs⟩ := s_bind hs
    obtain ⟨a1, g1, hs⟩ := s_bind hs
    obtain ⟨a2, g2, hs⟩ := s_bind hs
    obtain ⟨u9, ge, hs⟩ := s_bind hs
    rw [g_l_to g0, g_i_to g1, g_r_to g2, g_e_to ge]
    exact v_L_is_16 hs k
  cases hs
theorem t_L_is {G : sG} {d : Nat} {v0 : Nat} {v1 : Int32} {v2 : Int32} {v3 : Nat} {σ : sS} {q : Int32 × sS} (h : F_L_is v0 v1 v2 v3 σ = some q) : s_T G (d + 8) M_L_is [.ref v0, .int v1, .int v2, .ref v3] σ (e_I q) := by
  unfold F_L_is at h
  exact s_ofVH rfl (by decide) (Nat.le_of_ble_eq_true rfl) rfl rfl (s_run_ind (V := fun x r => s_V G (d + 8) M_L_is [.ref v0, .int v1, .int v2, .ref v3] σ Y_L_is x (e_I r)) (fun x z r hs hk => v_L_is hs (by cases z <;> exact hk)) h)
/-! X4_lastRuleIn -/
noncomputable def T_X4_lastRuleIn_0 (v0 : Nat) (v1 : Int32) (σ : sS) : Option (sZ Int32) :=
  (F_X4_costIn v0 v1 σ).bind fun q1 =>
  if q1.1 = (-1) then (some (.inr ((-1), q1.2)))
  else ((F_X4_costAlone v0 0 0 q1.2).bind fun q2 =>
  if q2.1 = q1.1 then (some (.inr (0, q2.2)))
  else (some (.inl (31, [.ref v0, .int q1.1, .int 14, .int 0], q2.2))))
noncomputable def U_X4_lastRuleIn_0 (vs : List Value) (σ : sS) : Option (sZ Int32) := (g_r vs).bind fun a0 => (g_i a0.2).bind fun a1 => (g_e a1.2).bind fun _ => T_X4_lastRuleIn_0 a0.1 a1.1 σ
noncomputable def T_X4_lastRuleIn_31 (v0 : Nat) (v2 : Int32) (v3 : Int32) (v4 : Int32) (σ : sS) : Option (sZ Int32) :=
  (s_fi σ v0 4 10).bind fun x1 =>
  if x1 ≤ v4 then (some (.inr (v3, σ)))
  else ((s_fr σ v0 4 6).bind fun x2 =>
  (s_ai σ x2 ((v4 * 5) + 1)).bind fun x3 =>
  if x3 = 0 then (some (.inl (59, [.ref v0, .int v2, .int v3, .int v4, .int 1], σ)))
  else (some (.inl (59, [.ref v0, .int v2, .int v3, .int v4, .int 0], σ))))
noncomputable def U_X4_lastRuleIn_31 (vs : List Value) (σ : sS) : Option (sZ Int32) := (g_r vs).bind fun a0 => (g_i a0.2).bind fun a1 => (g_i a1.2).bind fun a2 => (g_i a2.2).bind fun a3 => (g_e a3.2).bind fun _ => T_X4_lastRuleIn_31 a0.1 a1.1 a2.1 a3.1 σ
noncomputable def T_X4_lastRuleIn_59 (v0 : Nat) (v2 : Int32) (v3 : Int32) (v4 : Int32) (w0 : Int32) (σ : sS) : Option (sZ Int32) :=
  if w0 = 0 then (some (.inl (91, [.ref v0, .int v2, .int v3, .int v4], σ)))
  else ((F_X4_costOfStep v0 0 v4 σ).bind fun q1 =>
  if q1.1 = v2 then ((s_fr q1.2 v0 4 6).bind fun x2 =>
  (s_ai q1.2 x2 (v4 * 5)).bind fun x3 =>
  some (.inl (91, [.ref v0, .int v2, .int (if x3 < v3 then x3 else v3), .int v4], q1.2)))
  else (some (.inl (91, [.ref v0, .int v2, .int v3, .int v4], q1.2))))
noncomputable def U_X4_lastRuleIn_59 (vs : List Value) (σ : sS) : Option (sZ Int32) := (g_r vs).bind fun a0 => (g_i a0.2).bind fun a1 => (g_i a1.2).bind fun a2 => (g_i a2.2).bind fun a3 => (g_i a3.2).bind fun a4 => (g_e a4.2).bind fun _ => T_X4_lastRuleIn_59 a0.1 a1.1 a2.1 a3.1 a4.1 σ
noncomputable def T_X4_lastRuleIn_91 (v0 : Nat) (v2 : Int32) (v3 : Int32) (v4 : Int32) (σ : sS) : Option (sZ Int32) :=
  some (.inl (31, [.ref v0, .int v2, .int v3, .int (v4 + 1)], σ))
noncomputable def U_X4_lastRuleIn_91 (vs : List Value) (σ : sS) : Option (sZ Int32) := (g_r vs).bind fun a0 => (g_i a0.2).bind fun a1 => (g_i a1.2).bind fun a2 => (g_i a2.2).bind fun a3 => (g_e a3.2).bind fun _ => T_X4_lastRuleIn_91 a0.1 a1.1 a2.1 a3.1 σ
noncomputable def S_X4_lastRuleIn (x : sL) : Option (sZ Int32) := if x.1 = 0 then U_X4_lastRuleIn_0 x.2.1 x.2.2 else if x.1 = 31 then U_X4_lastRuleIn_31 x.2.1 x.2.2 else if x.1 = 59 then U_X4_lastRuleIn_59 x.2.1 x.2.2 else if x.1 = 91 then U_X4_lastRuleIn_91 x.2.1 x.2.2 else none
def Y_X4_lastRuleIn (pc : Nat) : List Nat := if pc = 0 then [0, 1] else if pc = 31 then [0, 2, 3, 4] else if pc = 59 then [0, 2, 3, 4] else if pc = 91 then [0, 2, 3, 4] else []
noncomputable def F_X4_lastRuleIn (v0 : Nat) (v1 : Int32) (σ : sS) : Option (Int32 × sS) := (s_is σ v0 4).bind fun _ => s_run S_X4_lastRuleIn (0, [.ref v0, .int v1], σ)
theorem l_X4_lastRuleIn_0 {v0 : Nat} {v1 : Int32} {σ : sS} {z : sZ Int32} (hf : T_X4_lastRuleIn_0 v0 v1 σ = some z) : s_lz σ z := by
  unfold T_X4_lastRuleIn_0 at hf
  obtain ⟨q1, hh, hf⟩ := s_bind hf
  refine s_lz.tr (l_X4_costIn hh) ?_
  rcases s_ite hf with ⟨-, hf⟩ | ⟨-, hf⟩
  · cases hf
    exact s_le.rf
  · obtain ⟨q2, hh, hf⟩ := s_bind hf
    refine s_lz.tr (l_X4_costAlone hh) ?_
    rcases s_ite hf with ⟨-, hf⟩ | ⟨-, hf⟩
    · cases hf
      exact s_le.rf
    · cases hf
      exact s_le.rf
theorem l_X4_lastRuleIn_31 {v0 : Nat} {v2 : Int32} {v3 : Int32} {v4 : Int32} {σ : sS} {z : sZ Int32} (hf : T_X4_lastRuleIn_31 v0 v2 v3 v4 σ = some z) : s_lz σ z := by
  unfold T_X4_lastRuleIn_31 at hf
  obtain ⟨x1, -, hf⟩ := s_bind hf
  rcases s_ite hf with ⟨-, hf⟩ | ⟨-, hf⟩
  · cases hf
    exact s_le.rf
  · obtain ⟨x2, -, hf⟩ := s_bind hf
    obtain ⟨x3, -, hf⟩ := s_bind hf
    rcases s_ite hf with ⟨-, hf⟩ | ⟨-, hf⟩
    · cases hf
      exact s_le.rf
    · cases hf
      exact s_le.rf
theorem l_X4_lastRuleIn_59 {v0 : Nat} {v2 : Int32} {v3 : Int32} {v4 : Int32} {w0 : Int32} {σ : sS} {z : sZ Int32} (hf : T_X4_lastRuleIn_59 v0 v2 v3 v4 w0 σ = some z) : s_lz σ z := by
  unfold T_X4_lastRuleIn_59 at hf
  rcases s_ite hf with ⟨-, hf⟩ | ⟨-, hf⟩
  · cases hf
    exact s_le.rf
  · obtain ⟨q1, hh, hf⟩ := s_bind hf
    refine s_lz.tr (l_X4_costOfStep hh) ?_
    rcases s_ite hf with ⟨-, hf⟩ | ⟨-, hf⟩
    · obtain ⟨x2, -, hf⟩ := s_bind hf
      obtain ⟨x3, -, hf⟩ := s_bind hf
      cases hf
      exact s_le.rf
    · cases hf
      exact s_le.rf
theorem l_X4_lastRuleIn_91 {v0 : Nat} {v2 : Int32} {v3 : Int32} {v4 : Int32} {σ : sS} {z : sZ Int32} (hf : T_X4_lastRuleIn_91 v0 v2 v3 v4 σ = some z) : s_lz σ z := by
  unfold T_X4_lastRuleIn_91 at hf
  cases hf
  exact s_le.rf
theorem l_X4_lastRuleIn_s {x : sL} {z : sZ Int32} (hs : S_X4_lastRuleIn x = some z) : s_lz x.2.2 z := by
  obtain ⟨pc, vs, σ⟩ := x
  unfold S_X4_lastRuleIn at hs
  dsimp only at hs ⊢
  rcases s_ite hs with ⟨c, hs⟩ | ⟨-, hs⟩
  · subst c
    unfold U_X4_lastRuleIn_0 at hs
    obtain ⟨a0, g0, hs⟩ := s_bind hs
    obtain ⟨a1, g1, hs⟩ := s_bind hs
    obtain ⟨u9, ge, hs⟩ := s_bind hs
    exact l_X4_lastRuleIn_0 hs
  rcases s_ite hs with ⟨c, hs⟩ | ⟨-, hs⟩
  · subst c
    unfold U_X4_lastRuleIn_31 at hs
    obtain ⟨a0, g0, hs⟩ := s_bind hs
    obtain ⟨a1, g1, hs⟩ := s_bind hs
    obtain ⟨a2, g2, hs⟩ := s_bind hs
    obtain ⟨a3, g3, hs⟩ := s_bind hs
    obtain ⟨u9, ge, hs⟩ := s_bind hs
    exact l_X4_lastRuleIn_31 hs
  rcases s_ite hs with ⟨c, hs⟩ | ⟨-, hs⟩
  · subst c
    unfold U_X4_lastRuleIn_59 at hs
    obtain ⟨a0, g0, hs⟩ := s_bind hs
    obtain ⟨a1, g1, hs⟩ := s_bind hs
    obtain ⟨a2, g2, hs⟩ := s_bind hs
    obtain ⟨a3, g3, hs⟩ := s_bind hs
    obtain ⟨a4, g4, hs⟩ := s_bind hs
    obtain ⟨u9, ge, hs⟩ := s_bind hs
    exact l_X4_lastRuleIn_59 hs
  rcases s_ite hs with ⟨c, hs⟩ | ⟨-, hs⟩
  · subst c
    unfold U_X4_lastRuleIn_91 at hs
    obtain ⟨a0, g0, hs⟩ := s_bind hs
    obtain ⟨a1, g1, hs⟩ := s_bind hs
    obtain ⟨a2, g2, hs⟩ := s_bind hs
    obtain ⟨a3, g3, hs⟩ := s_bind hs
    obtain ⟨u9, ge, hs⟩ := s_bind hs
    exact l_X4_lastRuleIn_91 hs
  cases hs
theorem l_X4_lastRuleIn {v0 : Nat} {v1 : Int32} {σ : sS} {q : Int32 × sS} (h : F_X4_lastRuleIn v0 v1 σ = some q) : s_le σ q.2 := by
  unfold F_X4_lastRuleIn at h
  obtain ⟨-, -, h⟩ := s_bind h
  exact s_run_ind (V := fun x r => s_le x.2.2 r.2) (fun x z r hs hk => by
    have h9 := l_X4_lastRuleIn_s hs
    cases z with
    | inl y => exact s_le.tr h9 hk
    | inr q => cases hk; exact h9) h
theorem b_X4_lastRuleIn {v0 : Nat} {v1 : Int32} {σ : sS} {q : Int32 × sS} (h : F_X4_lastRuleIn v0 v1 σ = some q) : ∃ fs, σ.1 v0 = some (.inr (4, fs)) := by
  unfold F_X4_lastRuleIn at h
  obtain ⟨u, hu, -⟩ := s_bind h
  exact s_is_to hu
set_option maxRecDepth 100000 in
set_option maxHeartbeats 4000000 in
theorem v_X4_lastRuleIn_0 {G : sG} {d : Nat} {vs0 : List Value} {σ0 : sS} {v0 : Nat} {v1 : Int32} {σ : sS} {z : sZ Int32} {r : Int32 × sS} (hf : T_X4_lastRuleIn_0 v0 v1 σ = some z) (k : s_K G (d + 6) M_X4_lastRuleIn vs0 σ0 Y_X4_lastRuleIn e_I z r) : s_V G (d + 6) M_X4_lastRuleIn vs0 σ0 Y_X4_lastRuleIn (0, [.ref v0, .int v1], σ) (e_I r) := by
  have le0 : s_le σ (e_I r).2 := s_lek hem_I (l_X4_lastRuleIn_0 hf) k
  refine ⟨le0, ?_⟩
  intro p e s m below meth c H locs cells slots ls X I hn1 hn2 hl
  have hn : cells + σ0.2.1 ≤ σ.2.1 ∧ slots + σ0.2.2.1 ≤ σ.2.2.1 := ⟨hn1, hn2⟩
  have hl : lv_has ls 6 [(0, .ref v0), (1, .int v1)] := hl
  have hx := X.1
  have hb : c.code = cX4_lastRuleIn := X.2.1
  have hown : s.vm.findClass RX4 = some m.cls := X.2.2.2.2.2.1
  have hts := X.2.2.2.2.2.2.1
  refine W.eq (g2 := F0 m 0 ls []) rfl ?_
  unfold T_X4_lastRuleIn_0 at hf
  obtain ⟨q1, h1, hf⟩ := s_bind hf
  have le2 : s_le q1.2 (e_I r).2 := by
    refine s_lek hem_I ?_ k
    rcases s_ite hf with ⟨-, hf⟩ | ⟨-, hf⟩
    · cases hf
      exact s_le.rf
    · obtain ⟨q2, hh, hf⟩ := s_bind hf
      refine s_lz.tr (l_X4_costAlone hh) ?_
      rcases s_ite hf with ⟨-, hf⟩ | ⟨-, hf⟩
      · cases hf
        exact s_le.rf
      · cases hf
        exact s_le.rf
  refine lv_aload_n hx hb dX4_lastRuleIn_0 rfl (lv_at hl 0 rfl) ?_
  refine lv_iload_n hx hb dX4_lastRuleIn_1 rfl (lv_at hl 1 rfl) ?_
  refine r_callV (Y := M_X4_costIn) (v := some (.int q1.1)) X I w_1399 my_X4_costIn (by omega) (t_X4_costIn (G := G) (d := d + 0) h1) (b_X4_costIn h1) rfl rfl hl.1 rfl (Nat.le_of_ble_eq_true rfl) hn le2 dX4_lastRuleIn_2 (fun H locs cells slots I hn1 hn2 => ?_)
  have I : s_I G q1.2 s H locs := I
  have hn : cells + σ0.2.1 ≤ q1.2.2.1 ∧ slots + σ0.2.2.1 ≤ q1.2.2.2.1 := ⟨hn1, hn2⟩
  refine lv_istore_n (lv' := [(2, .int q1.1), (0, .ref v0), (1, .int v1)]) hx hb dX4_lastRuleIn_5 rfl hl (by decide) rfl (fun ls hl => ?_)
  refine lv_iload_n hx hb dX4_lastRuleIn_6 rfl (lv_at hl 0 rfl) ?_
  refine lv_iconst (v := (-1)) hx hb dX4_lastRuleIn_7 (by decide) ?_
  rcases s_ite hf with ⟨c3, hf⟩ | ⟨c3, hf⟩
  · refine lv_icmp_ne (tgt := 13) hx hb dX4_lastRuleIn_8 (by decide) (fun n => absurd c3 n) (fun _ => ?_)
    cases hf
    have k : _ = r := k
    subst k
    refine lv_iconst (v := (-1)) hx hb dX4_lastRuleIn_11 (by decide) ?_
    exact r_iret X I rfl rfl rfl hn dX4_lastRuleIn_12
  · refine lv_icmp_ne (tgt := 13) hx hb dX4_lastRuleIn_8 (by decide) (fun _ => ?_) (fun n => absurd n c3)
    obtain ⟨q2, h4, hf⟩ := s_bind hf
    have le5 : s_le q2.2 (e_I r).2 := by
      refine s_lek hem_I ?_ k
      rcases s_ite hf with ⟨-, hf⟩ | ⟨-, hf⟩
      · cases hf
        exact s_le.rf
      · cases hf
        exact s_le.rf
    refine lv_aload_n hx hb dX4_lastRuleIn_13 rfl (lv_at hl 1 rfl) ?_
    refine lv_iconst (v := 0) hx hb dX4_lastRuleIn_14 (by decide) ?_
    refine lv_iconst (v := 0) hx hb dX4_lastRuleIn_15 (by decide) ?_
    refine r_callV (Y := M_X4_costAlone) (v := some (.int q2.1)) X I w_1354 my_X4_costAlone (by omega) (t_X4_costAlone (G := G) (d := d + 3) h4) (b_X4_costAlone h4) rfl rfl hl.1 rfl (Nat.le_of_ble_eq_true rfl) hn le5 dX4_lastRuleIn_16 (fun H locs cells slots I hn1 hn2 => ?_)
    have I : s_I G q2.2 s H locs := I
    have hn : cells + σ0.2.1 ≤ q2.2.2.1 ∧ slots + σ0.2.2.1 ≤ q2.2.2.2.1 := ⟨hn1, hn2⟩
    refine lv_iload_n hx hb dX4_lastRuleIn_19 rfl (lv_at hl 0 rfl) ?_
    rcases s_ite hf with ⟨c6, hf⟩ | ⟨c6, hf⟩
    · refine lv_icmp_ne (tgt := 25) hx hb dX4_lastRuleIn_20 (by decide) (fun n => absurd c6 n) (fun _ => ?_)
      cases hf
      have k : _ = r := k
      subst k
      refine lv_iconst (v := 0) hx hb dX4_lastRuleIn_23 (by decide) ?_
      exact r_iret X I rfl rfl rfl hn dX4_lastRuleIn_24
    · refine lv_icmp_ne (tgt := 25) hx hb dX4_lastRuleIn_20 (by decide) (fun _ => ?_) (fun n => absurd n c6)
      cases hf
      have k : s_V G (d + 6) M_X4_lastRuleIn vs0 σ0 Y_X4_lastRuleIn (31, [.ref v0, .int q1.1, .int 14, .int 0], q2.2) (e_I r) := k
      refine lv_bipush (v := 14) hx hb dX4_lastRuleIn_25 (by decide) ?_
      refine lv_istore_n (lv' := [(3, .int 14), (2, .int q1.1), (0, .ref v0), (1, .int v1)]) hx hb dX4_lastRuleIn_27 rfl hl (by decide) rfl (fun ls hl => ?_)
      refine lv_iconst (v := 0) hx hb dX4_lastRuleIn_28 (by decide) ?_
      refine lv_istore (lv' := [(4, .int 0), (3, .int 14), (2, .int q1.1), (0, .ref v0), (1, .int v1)]) hx hb dX4_lastRuleIn_29 hl (by decide) rfl (fun ls hl => ?_)
      exact k.2 p e s m below meth c _ _ _ _ _ X I hn.1 hn.2 (lv_sub hl [3, 2, 1, 0] rfl)
set_option maxRecDepth 100000 in
set_option maxHeartbeats 4000000 in
theorem v_X4_lastRuleIn_31 {G : sG} {d : Nat} {vs0 : List Value} {σ0 : sS} {v0 : Nat} {v2 : Int32} {v3 : Int32} {v4 : Int32} {σ : sS} {z : sZ Int32} {r : Int32 × sS} (hf : T_X4_lastRuleIn_31 v0 v2 v3 v4 σ = some z) (k : s_K G (d + 6) M_X4_lastRuleIn vs0 σ0 Y_X4_lastRuleIn e_I z r) : s_V G (d + 6) M_X4_lastRuleIn vs0 σ0 Y_X4_lastRuleIn (31, [.ref v0, .int v2, .int v3, .int v4], σ) (e_I r) := by
  have le0 : s_le σ (e_I r).2 := s_lek hem_I (l_X4_lastRuleIn_31 hf) k
  refine ⟨le0, ?_⟩
  intro p e s m below meth c H locs cells slots ls X I hn1 hn2 hl
  have hn : cells + σ0.2.1 ≤ σ.2.1 ∧ slots + σ0.2.2.1 ≤ σ.2.2.1 := ⟨hn1, hn2⟩
  have hl : lv_has ls 6 [(0, .ref v0), (2, .int v2), (3, .int v3), (4, .int v4)] := hl
  have hx := X.1
  have hb : c.code = cX4_lastRuleIn := X.2.1
  have hown : s.vm.findClass RX4 = some m.cls := X.2.2.2.2.2.1
  have hts := X.2.2.2.2.2.2.1
  refine W.eq (g2 := F0 m 31 ls []) rfl ?_
  unfold T_X4_lastRuleIn_31 at hf
  obtain ⟨x1, h1, hf⟩ := s_bind hf
  refine lv_iload hx hb dX4_lastRuleIn_31 (lv_at hl 3 rfl) ?_
  refine lv_aload_n hx hb dX4_lastRuleIn_33 rfl (lv_at hl 0 rfl) ?_
  refine r_gi X I fl_X4_54 h1 dX4_lastRuleIn_34 ?_
  rcases s_ite hf with ⟨c2, hf⟩ | ⟨c2, hf⟩
  · refine lv_icmp_ge (tgt := 97) hx hb dX4_lastRuleIn_37 (by decide) (fun _ => ?_) (fun n => absurd c2 n)
    cases hf
    have k : _ = r := k
    subst k
    refine lv_iload_n hx hb dX4_lastRuleIn_97 rfl (lv_at hl 2 rfl) ?_
    exact r_iret X I rfl rfl rfl hn dX4_lastRuleIn_98
  · refine lv_icmp_ge (tgt := 97) hx hb dX4_lastRuleIn_37 (by decide) (fun n => absurd n c2) (fun _ => ?_)
    obtain ⟨x2, h3, hf⟩ := s_bind hf
    obtain ⟨x3, h4, hf⟩ := s_bind hf
    refine lv_aload_n hx hb dX4_lastRuleIn_40 rfl (lv_at hl 0 rfl) ?_
    refine r_gr X I fl_X4_24 h3 dX4_lastRuleIn_41 ?_
    refine lv_iload hx hb dX4_lastRuleIn_44 (lv_at hl 3 rfl) ?_
    refine lv_iconst (v := 5) hx hb dX4_lastRuleIn_46 (by decide) ?_
    refine lv_imul hx hb dX4_lastRuleIn_47 ?_
    refine lv_iconst (v := 1) hx hb dX4_lastRuleIn_48 (by decide) ?_
    refine lv_iadd hx hb dX4_lastRuleIn_49 ?_
    refine r_iald X I h4 dX4_lastRuleIn_50 ?_
    rcases s_ite hf with ⟨c5, hf⟩ | ⟨c5, hf⟩
    · refine lv_if_ne (tgt := 58) hx hb dX4_lastRuleIn_51 (by decide) (fun n => absurd c5 n) (fun _ => ?_)
      cases hf
      have k : s_V G (d + 6) M_X4_lastRuleIn vs0 σ0 Y_X4_lastRuleIn (59, [.ref v0, .int v2, .int v3, .int v4, .int 1], σ) (e_I r) := k
      refine lv_iconst (v := 1) hx hb dX4_lastRuleIn_54 (by decide) ?_
      refine lv_goto (tgt := 59) hx hb dX4_lastRuleIn_55 (by decide) ?_
      exact k.2 p e s m below meth c _ _ _ _ _ X I hn.1 hn.2 (lv_sub hl [0, 1, 2, 3] rfl)
    · refine lv_if_ne (tgt := 58) hx hb dX4_lastRuleIn_51 (by decide) (fun _ => ?_) (fun n => absurd n c5)
      cases hf
      have k : s_V G (d + 6) M_X4_lastRuleIn vs0 σ0 Y_X4_lastRuleIn (59, [.ref v0, .int v2, .int v3, .int v4, .int 0], σ) (e_I r) := k
      refine lv_iconst (v := 0) hx hb dX4_lastRuleIn_58 (by decide) ?_
      exact k.2 p e s m below meth c _ _ _ _ _ X I hn.1 hn.2 (lv_sub hl [0, 1, 2, 3] rfl)
set_option maxRecDepth 100000 in
set_option maxHeartbeats 4000000 in
theorem v_X4_lastRuleIn_59 {G : sG} {d : Nat} {vs0 : List Value} {σ0 : sS} {v0 : Nat} {v2 : Int32} {v3 : Int32} {v4 : Int32} {w0 : Int32} {σ : sS} {z : sZ Int32} {r : Int32 × sS} (hf : T_X4_lastRuleIn_59 v0 v2 v3 v4 w0 σ = some z) (k : s_K G (d + 6) M_X4_lastRuleIn vs0 σ0 Y_X4_lastRuleIn e_I z r) : s_V G (d + 6) M_X4_lastRuleIn vs0 σ0 Y_X4_lastRuleIn (59, [.ref v0, .int v2, .int v3, .int v4, .int w0], σ) (e_I r) := by
  have le0 : s_le σ (e_I r).2 := s_lek hem_I (l_X4_lastRuleIn_59 hf) k
  refine ⟨le0, ?_⟩
  intro p e s m below meth c H locs cells slots ls X I hn1 hn2 hl
  have hn : cells + σ0.2.1 ≤ σ.2.1 ∧ slots + σ0.2.2.1 ≤ σ.2.2.1 := ⟨hn1, hn2⟩
  have hl : lv_has ls 6 [(0, .ref v0), (2, .int v2), (3, .int v3), (4, .int v4)] := hl
  have hx := X.1
  have hb : c.code = cX4_lastRuleIn := X.2.1
  have hown : s.vm.findClass RX4 = some m.cls := X.2.2.2.2.2.1
  have hts := X.2.2.2.2.2.2.1
  refine W.eq (g2 := F0 m 59 ls [.int w0]) rfl ?_
  unfold T_X4_lastRuleIn_59 at hf
  refine lv_istore (lv' := [(5, .int w0), (0, .ref v0), (2, .int v2), (3, .int v3), (4, .int v4)]) hx hb dX4_lastRuleIn_59 hl (by decide) rfl (fun ls hl => ?_)
  refine lv_iload hx hb dX4_lastRuleIn_61 (lv_at hl 0 rfl) ?_
  rcases s_ite hf with ⟨c1, hf⟩ | ⟨c1, hf⟩
  · refine lv_if_eq (tgt := 91) hx hb dX4_lastRuleIn_63 (by decide) (fun _ => ?_) (fun n => absurd c1 n)
    cases hf
    have k : s_V G (d + 6) M_X4_lastRuleIn vs0 σ0 Y_X4_lastRuleIn (91, [.ref v0, .int v2, .int v3, .int v4], σ) (e_I r) := k
    exact k.2 p e s m below meth c _ _ _ _ _ X I hn.1 hn.2 (lv_sub hl [1, 2, 3, 4] rfl)
  · refine lv_if_eq (tgt := 91) hx hb dX4_lastRuleIn_63 (by decide) (fun n => absurd n c1) (fun _ => ?_)
    obtain ⟨q1, h2, hf⟩ := s_bind hf
    have le3 : s_le q1.2 (e_I r).2 := by
      refine s_lek hem_I ?_ k
      rcases s_ite hf with ⟨-, hf⟩ | ⟨-, hf⟩
      · obtain ⟨x2, -, hf⟩ := s_bind hf
        obtain ⟨x3, -, hf⟩ := s_bind hf
        cases hf
        exact s_le.rf
      · cases hf
        exact s_le.rf
    refine lv_aload_n hx hb dX4_lastRuleIn_66 rfl (lv_at hl 1 rfl) ?_
    refine lv_iconst (v := 0) hx hb dX4_lastRuleIn_67 (by decide) ?_
    refine lv_iload hx hb dX4_lastRuleIn_68 (lv_at hl 4 rfl) ?_
    refine r_callV (Y := M_X4_costOfStep) (v := some (.int q1.1)) X I w_1364 my_X4_costOfStep (by omega) (t_X4_costOfStep (G := G) (d := d + 2) h2) (b_X4_costOfStep h2) rfl rfl hl.1 rfl (Nat.le_of_ble_eq_true rfl) hn le3 dX4_lastRuleIn_70 (fun H locs cells slots I hn1 hn2 => ?_)
    have I : s_I G q1.2 s H locs := I
    have hn : cells + σ0.2.1 ≤ q1.2.2.1 ∧ slots + σ0.2.2.1 ≤ q1.2.2.2.1 := ⟨hn1, hn2⟩
    refine lv_iload_n hx hb dX4_lastRuleIn_73 rfl (lv_at hl 2 rfl) ?_
    rcases s_ite hf with ⟨c4, hf⟩ | ⟨c4, hf⟩
    · refine lv_icmp_ne (tgt := 91) hx hb dX4_lastRuleIn_74 (by decide) (fun n => absurd c4 n) (fun _ => ?_)
      obtain ⟨x2, h5, hf⟩ := s_bind hf
      obtain ⟨x3, h6, hf⟩ := s_bind hf
      cases hf
      have k : s_V G (d + 6) M_X4_lastRuleIn vs0 σ0 Y_X4_lastRuleIn (91, [.ref v0, .int v2, .int (if x3 < v3 then x3 else v3), .int v4], q1.2) (e_I r) := k
      refine lv_iload_n hx hb dX4_lastRuleIn_77 rfl (lv_at hl 3 rfl) ?_
      refine lv_aload_n hx hb dX4_lastRuleIn_78 rfl (lv_at hl 1 rfl) ?_
      refine r_gr X I fl_X4_24 h5 dX4_lastRuleIn_79 ?_
      refine lv_iload hx hb dX4_lastRuleIn_82 (lv_at hl 4 rfl) ?_
      refine lv_iconst (v := 5) hx hb dX4_lastRuleIn_84 (by decide) ?_
      refine lv_imul hx hb dX4_lastRuleIn_85 ?_
      refine r_iald X I h6 dX4_lastRuleIn_86 ?_
      refine r_mmin X w_1363 w_765 w_179 w_766 hl.1 (Nat.le_of_ble_eq_true rfl) hn le3 dX4_lastRuleIn_87 ?_
      refine lv_istore_n (lv' := [(3, .int (if x3 < v3 then x3 else v3)), (5, .int w0), (0, .ref v0), (2, .int v2), (4, .int v4)]) hx hb dX4_lastRuleIn_90 rfl hl (by decide) rfl (fun ls hl => ?_)
      exact k.2 p e s m below meth c _ _ _ _ _ X I hn.1 hn.2 (lv_sub hl [2, 3, 0, 4] rfl)
    · refine lv_icmp_ne (tgt := 91) hx hb dX4_lastRuleIn_74 (by decide) (fun _ => ?_) (fun n => absurd n c4)
      cases hf
      have k : s_V G (d + 6) M_X4_lastRuleIn vs0 σ0 Y_X4_lastRuleIn (91, [.ref v0, .int v2, .int v3, .int v4], q1.2) (e_I r) := k
      exact k.2 p e s m below meth c _ _ _ _ _ X I hn.1 hn.2 (lv_sub hl [1, 2, 3, 4] rfl)
set_option maxRecDepth 100000 in
set_option maxHeartbeats 4000000 in
theorem v_X4_lastRuleIn_91 {G : sG} {d : Nat} {vs0 : List Value} {σ0 : sS} {v0 : Nat} {v2 : Int32} {v3 : Int32} {v4 : Int32} {σ : sS} {z : sZ Int32} {r : Int32 × sS} (hf : T_X4_lastRuleIn_91 v0 v2 v3 v4 σ = some z) (k : s_K G (d + 6) M_X4_lastRuleIn vs0 σ0 Y_X4_lastRuleIn e_I z r) : s_V G (d + 6) M_X4_lastRuleIn vs0 σ0 Y_X4_lastRuleIn (91, [.ref v0, .int v2, .int v3, .int v4], σ) (e_I r) := by
  have le0 : s_le σ (e_I r).2 := s_lek hem_I (l_X4_lastRuleIn_91 hf) k
  refine ⟨le0, ?_⟩
  intro p e s m below meth c H locs cells slots ls X I hn1 hn2 hl
  have hn : cells + σ0.2.1 ≤ σ.2.1 ∧ slots + σ0.2.2.1 ≤ σ.2.2.1 := ⟨hn1, hn2⟩
  have hl : lv_has ls 6 [(0, .ref v0), (2, .int v2), (3, .int v3), (4, .int v4)] := hl
  have hx := X.1
  have hb : c.code = cX4_lastRuleIn := X.2.1
  have hown : s.vm.findClass RX4 = some m.cls := X.2.2.2.2.2.1
  have hts := X.2.2.2.2.2.2.1
  refine W.eq (g2 := F0 m 91 ls []) rfl ?_
  unfold T_X4_lastRuleIn_91 at hf
  cases hf
  have k : s_V G (d + 6) M_X4_lastRuleIn vs0 σ0 Y_X4_lastRuleIn (31, [.ref v0, .int v2, .int v3, .int (v4 + 1)], σ) (e_I r) := k
  refine lv_iinc (v := (v4 + 1)) (lv' := [(4, .int (v4 + 1)), (0, .ref v0), (2, .int v2), (3, .int v3)]) hx hb dX4_lastRuleIn_91 hl (k := 3) rfl rfl (by decide) rfl (fun ls hl => ?_)
  refine lv_goto (tgt := 31) hx hb dX4_lastRuleIn_94 (by decide) ?_
  exact k.2 p e s m below meth c _ _ _ _ _ X I hn.1 hn.2 (lv_sub hl [1, 2, 3, 0] rfl)
theorem v_X4_lastRuleIn {G : sG} {d : Nat} {vs0 : List Value} {σ0 : sS} {x : sL} {z : sZ Int32} {r : Int32 × sS} (hs : S_X4_lastRuleIn x = some z) (k : s_K G (d + 6) M_X4_lastRuleIn vs0 σ0 Y_X4_lastRuleIn e_I z r) : s_V G (d + 6) M_X4_lastRuleIn vs0 σ0 Y_X4_lastRuleIn x (e_I r) := by
  obtain ⟨pc, vs, σ⟩ := x
  unfold S_X4_lastRuleIn at hs
  dsimp only at hs
  rcases s_ite hs with ⟨c, hs⟩ | ⟨-, hs⟩
  · subst c
    unfold U_X4_lastRuleIn_0 at hs
    obtain ⟨a0, g0, hs⟩ := s_bind hs
    obtain ⟨a1, g1, hs⟩ := s_bind hs
    obtain ⟨u9, ge, hs⟩ := s_bind hs
    rw [g_r_to g0, g_i_to g1, g_e_to ge]
    exact v_X4_lastRuleIn_0 hs k
  rcases s_ite hs with ⟨c, hs⟩ | ⟨-, hs⟩
  · subst c
    unfold U_X4_lastRuleIn_31 at hs
    obtain ⟨a0, g0, hs⟩ := s_bind hs
    obtain ⟨a1, g1, hs⟩ := s_bind hs
    obtain ⟨a2, g2, hs⟩ := s_bind hs
    obtain ⟨a3, g3, hs⟩ := s_bind hs
    obtain ⟨u9, ge, hs⟩ := s_bind hs
    rw [g_r_to g0, g_i_to g1, g_i_to g2, g_i_to g3, g_e_to ge]
    exact v_X4_lastRuleIn_31 hs k
  rcases s_ite hs with ⟨c, hs⟩ | ⟨-, hs⟩
  · subst c
    unfold U_X4_lastRuleIn_59 at hs
    obtain ⟨a0, g0, hs⟩ := s_bind hs
    obtain ⟨a1, g1, hs⟩ := s_bind hs
    obtain ⟨a2, g2, hs⟩ := s_bind hs
    obtain ⟨a3, g3, hs⟩ := s_bind hs
    obtain ⟨a4, g4, hs⟩ := s_bind hs
    obtain ⟨u9, ge, hs⟩ := s_bind hs
    rw [g_r_to g0, g_i_to g1, g_i_to g2, g_i_to g3, g_i_to g4, g_e_to ge]
    exact v_X4_lastRuleIn_59 hs k
  rcases s_ite hs with ⟨c, hs⟩ | ⟨-, hs⟩
  · subst c
    unfold U_X4_lastRuleIn_91 at hs
    obtain ⟨a0, g0, hs⟩ := s_bind hs
    obtain ⟨a1, g1, hs⟩ := s_bind hs
    obtain ⟨a2, g2, hs⟩ := s_bind hs
    obtain ⟨a3, g3, hs⟩ := s_bind hs
    obtain ⟨u9, ge, hs⟩ := s_bind hs
    rw [g_r_to g0, g_i_to g1, g_i_to g2, g_i_to g3, g_e_to ge]
    exact v_X4_lastRuleIn_91 hs k
  cases hs
theorem t_X4_lastRuleIn {G : sG} {d : Nat} {v0 : Nat} {v1 : Int32} {σ : sS} {q : Int32 × sS} (h : F_X4_lastRuleIn v0 v1 σ = some q) : s_T G (d + 6) M_X4_lastRuleIn [.ref v0, .int v1] σ (e_I q) := by
  unfold F_X4_lastRuleIn at h
  obtain ⟨-, -, h⟩ := s_bind h
  exact s_ofV rfl (by decide) (Nat.le_of_ble_eq_true rfl) rfl rfl (s_run_ind (V := fun x r => s_V G (d + 6) M_X4_lastRuleIn [.ref v0, .int v1] σ Y_X4_lastRuleIn x (e_I r)) (fun x z r hs hk => v_X4_lastRuleIn hs (by cases z <;> exact hk)) h)
/-! X7_lastly -/
noncomputable def T_X7_lastly_0 (v0 : Nat) (v1 : Int32) (v2 : Int32) (v3 : Int32) (σ : sS) : Option (sZ (Int32 ⊕ String)) :=
  (F_X7_needProof v0 v1 v2 v3 σ).bind fun q1 => s_sum q1.1 (fun x2 => (s_fr q1.2 v0 7 6).bind fun x4 =>
  (F_X4_lastRuleIn x4 v1 q1.2).bind fun q5 =>
  some (.inr (.inl q5.1, q5.2))) (fun E3 => some (.inr (.inr E3, q1.2)))
noncomputable def U_X7_lastly_0 (vs : List Value) (σ : sS) : Option (sZ (Int32 ⊕ String)) := (g_r vs).bind fun a0 => (g_i a0.2).bind fun a1 => (g_i a1.2).bind fun a2 => (g_i a2.2).bind fun a3 => (g_e a3.2).bind fun _ => T_X7_lastly_0 a0.1 a1.1 a2.1 a3.1 σ
noncomputable def S_X7_lastly (x : sL) : Option (sZ (Int32 ⊕ String)) := if x.1 = 0 then U_X7_lastly_0 x.2.1 x.2.2 else none
def Y_X7_lastly (pc : Nat) : List Nat := if pc = 0 then [0, 1, 2, 3] else []
noncomputable def F_X7_lastly (v0 : Nat) (v1 : Int32) (v2 : Int32) (v3 : Int32) (σ : sS) : Option ((Int32 ⊕ String) × sS) := (s_is σ v0 7).bind fun _ => s_run S_X7_lastly (0, [.ref v0, .int v1, .int v2, .int v3], σ)
theorem l_X7_lastly_0 {v0 : Nat} {v1 : Int32} {v2 : Int32} {v3 : Int32} {σ : sS} {z : sZ (Int32 ⊕ String)} (hf : T_X7_lastly_0 v0 v1 v2 v3 σ = some z) : s_lz σ z := by
  unfold T_X7_lastly_0 at hf
  obtain ⟨q1, hh, hf⟩ := s_bind hf
  refine s_lz.tr (l_X7_needProof hh) ?_
  rcases s_sum_some hf with ⟨x2, -, hf⟩ | ⟨E3, -, hf⟩
  · obtain ⟨x4, -, hf⟩ := s_bind hf
    obtain ⟨q5, hh, hf⟩ := s_bind hf
    refine s_lz.tr (l_X4_lastRuleIn hh) ?_
    cases hf
    exact s_le.rf
  · cases hf
    exact s_le.rf
theorem l_X7_lastly_s {x : sL} {z : sZ (Int32 ⊕ String)} (hs : S_X7_lastly x = some z) : s_lz x.2.2 z := by
  obtain ⟨pc, vs, σ⟩ := x
  unfold S_X7_lastly at hs
  dsimp only at hs ⊢
  rcases s_ite hs with ⟨c, hs⟩ | ⟨-, hs⟩
  · subst c
    unfold U_X7_lastly_0 at hs
    obtain ⟨a0, g0, hs⟩ := s_bind hs
    obtain ⟨a1, g1, hs⟩ := s_bind hs
    obtain ⟨a2, g2, hs⟩ := s_bind hs
    obtain ⟨a3, g3, hs⟩ := s_bind hs
    obtain ⟨u9, ge, hs⟩ := s_bind hs
    exact l_X7_lastly_0 hs
  cases hs
theorem l_X7_lastly {v0 : Nat} {v1 : Int32} {v2 : Int32} {v3 : Int32} {σ : sS} {q : (Int32 ⊕ String) × sS} (h : F_X7_lastly v0 v1 v2 v3 σ = some q) : s_le σ q.2 := by
  unfold F_X7_lastly at h
  obtain ⟨-, -, h⟩ := s_bind h
  exact s_run_ind (V := fun x r => s_le x.2.2 r.2) (fun x z r hs hk => by
    have h9 := l_X7_lastly_s hs
    cases z with
    | inl y => exact s_le.tr h9 hk
    | inr q => cases hk; exact h9) h
theorem b_X7_lastly {v0 : Nat} {v1 : Int32} {v2 : Int32} {v3 : Int32} {σ : sS} {q : (Int32 ⊕ String) × sS} (h : F_X7_lastly v0 v1 v2 v3 σ = some q) : ∃ fs, σ.1 v0 = some (.inr (7, fs)) := by
  unfold F_X7_lastly at h
  obtain ⟨u, hu, -⟩ := s_bind h
  exact s_is_to hu
set_option maxRecDepth 100000 in
set_option maxHeartbeats 4000000 in
theorem v_X7_lastly_0 {G : sG} {d : Nat} {vs0 : List Value} {σ0 : sS} {v0 : Nat} {v1 : Int32} {v2 : Int32} {v3 : Int32} {σ : sS} {z : sZ (Int32 ⊕ String)} {r : (Int32 ⊕ String) × sS} (hf : T_X7_lastly_0 v0 v1 v2 v3 σ = some z) (k : s_K G (d + 69) M_X7_lastly vs0 σ0 Y_X7_lastly e_IX z r) : s_V G (d + 69) M_X7_lastly vs0 σ0 Y_X7_lastly (0, [.ref v0, .int v1, .int v2, .int v3], σ) (e_IX r) := by
  have le0 : s_le σ (e_IX r).2 := s_lek hem_IX (l_X7_lastly_0 hf) k
  refine ⟨le0, ?_⟩
  intro p e s m below meth c H locs cells slots ls X I hn1 hn2 hl
  have hn : cells + σ0.2.1 ≤ σ.2.1 ∧ slots + σ0.2.2.1 ≤ σ.2.2.1 := ⟨hn1, hn2⟩
  have hl : lv_has ls 4 [(0, .ref v0), (1, .int v1), (2, .int v2), (3, .int v3)] := hl
  have hx := X.1
  have hb : c.code = cX7_lastly := X.2.1
  have hown : s.vm.findClass RX7 = some m.cls := X.2.2.2.2.2.1
  have hts := X.2.2.2.2.2.2.1
  refine W.eq (g2 := F0 m 0 ls []) rfl ?_
  unfold T_X7_lastly_0 at hf
  obtain ⟨q1, h1, hf⟩ := s_bind hf
  refine lv_aload_n hx hb dX7_lastly_0 rfl (lv_at hl 0 rfl) ?_
  refine lv_iload_n hx hb dX7_lastly_1 rfl (lv_at hl 1 rfl) ?_
  refine lv_iload_n hx hb dX7_lastly_2 rfl (lv_at hl 2 rfl) ?_
  refine lv_iload_n hx hb dX7_lastly_3 rfl (lv_at hl 3 rfl) ?_
  rcases s_sum_some hf with ⟨x2, hq2, hf⟩ | ⟨E3, hq2, hf⟩
  · have le3 : s_le q1.2 (e_IX r).2 := by
      refine s_lek hem_IX ?_ k
      obtain ⟨x4, -, hf⟩ := s_bind hf
      obtain ⟨q5, hh, hf⟩ := s_bind hf
      refine s_lz.tr (l_X4_lastRuleIn hh) ?_
      cases hf
      exact s_le.rf
    refine r_callV (Y := M_X7_needProof) (v := none) X I w_1279 my_X7_needProof (by omega) (t_X7_needProof (G := G) (d := d + 0) h1) (b_X7_needProof h1) (e_VX_l hq2) rfl hl.1 rfl (Nat.le_of_ble_eq_true rfl) hn le3 dX7_lastly_4 (fun H locs cells slots I hn1 hn2 => ?_)
    have I : s_I G q1.2 s H locs := I
    have hn : cells + σ0.2.1 ≤ q1.2.2.1 ∧ slots + σ0.2.2.1 ≤ q1.2.2.2.1 := ⟨hn1, hn2⟩
    obtain ⟨x4, h4, hf⟩ := s_bind hf
    obtain ⟨q5, h5, hf⟩ := s_bind hf
    cases hf
    have k : _ = r := k
    subst k
    have le6 : s_le q5.2 q5.2 := s_le.rf
    refine lv_aload_n hx hb dX7_lastly_7 rfl (lv_at hl 0 rfl) ?_
    refine r_gr X I fl_X7_56 h4 dX7_lastly_8 ?_
    refine lv_iload_n hx hb dX7_lastly_11 rfl (lv_at hl 1 rfl) ?_
    refine r_callV (Y := M_X4_lastRuleIn) (v := some (.int q5.1)) X I w_1395 my_X4_lastRuleIn (by omega) (t_X4_lastRuleIn (G := G) (d := d + 62) h5) (b_X4_lastRuleIn h5) rfl rfl hl.1 rfl (Nat.le_of_ble_eq_true rfl) hn le6 dX7_lastly_12 (fun H locs cells slots I hn1 hn2 => ?_)
    have I : s_I G q5.2 s H locs := I
    have hn : cells + σ0.2.1 ≤ q5.2.2.1 ∧ slots + σ0.2.2.1 ≤ q5.2.2.2.1 := ⟨hn1, hn2⟩
    exact r_iret X I rfl rfl rfl hn dX7_lastly_15
  · cases hf
    have k : _ = r := k
    subst k
    exact r_callVx (Y := M_X7_needProof) X I rfl w_1279 my_X7_needProof (by omega) (t_X7_needProof (G := G) (d := d + 0) h1) (b_X7_needProof h1) (e_VX_r hq2) rfl hl.1 rfl (Nat.le_of_ble_eq_true rfl) hn rfl dX7_lastly_4
theorem v_X7_lastly {G : sG} {d : Nat} {vs0 : List Value} {σ0 : sS} {x : sL} {z : sZ (Int32 ⊕ String)} {r : (Int32 ⊕ String) × sS} (hs : S_X7_lastly x = some z) (k : s_K G (d + 69) M_X7_lastly vs0 σ0 Y_X7_lastly e_IX z r) : s_V G (d + 69) M_X7_lastly vs0 σ0 Y_X7_lastly x (e_IX r) := by
  obtain ⟨pc, vs, σ⟩ := x
  unfold S_X7_lastly at hs
  dsimp only at hs
  rcases s_ite hs with ⟨c, hs⟩ | ⟨-, hs⟩
  · subst c
    unfold U_X7_lastly_0 at hs
    obtain ⟨a0, g0, hs⟩ := s_bind hs
    obtain ⟨a1, g1, hs⟩ := s_bind hs
    obtain ⟨a2, g2, hs⟩ := s_bind hs
    obtain ⟨a3, g3, hs⟩ := s_bind hs
    obtain ⟨u9, ge, hs⟩ := s_bind hs
    rw [g_r_to g0, g_i_to g1, g_i_to g2, g_i_to g3, g_e_to ge]
    exact v_X7_lastly_0 hs k
  cases hs
theorem t_X7_lastly {G : sG} {d : Nat} {v0 : Nat} {v1 : Int32} {v2 : Int32} {v3 : Int32} {σ : sS} {q : (Int32 ⊕ String) × sS} (h : F_X7_lastly v0 v1 v2 v3 σ = some q) : s_T G (d + 69) M_X7_lastly [.ref v0, .int v1, .int v2, .int v3] σ (e_IX q) := by
  unfold F_X7_lastly at h
  obtain ⟨-, -, h⟩ := s_bind h
  exact s_ofV rfl (by decide) (Nat.le_of_ble_eq_true rfl) rfl rfl (s_run_ind (V := fun x r => s_V G (d + 69) M_X7_lastly [.ref v0, .int v1, .int v2, .int v3] σ Y_X7_lastly x (e_IX r)) (fun x z r hs hk => v_X7_lastly hs (by cases z <;> exact hk)) h)
/-! L_lastly -/
noncomputable def T_L_lastly_0 (v0 : Nat) (v1 : Int32) (v2 : Int32) (v3 : Int32) (v4 : Nat) (σ : sS) : Option (sZ Int32) :=
  (F_X7_lastly v0 v1 v2 v3 σ).bind fun q1 => s_sum q1.1 (fun x2 => (s_sl q1.2 v4 0 ((x2 : Int32).toInt64)).bind fun σ4 =>
  some (.inr (0, σ4))) (fun E3 => if E3 = "java/lang/IndexOutOfBoundsException" then (some (.inr (1, q1.2))) else none)
noncomputable def U_L_lastly_0 (vs : List Value) (σ : sS) : Option (sZ Int32) := (g_r vs).bind fun a0 => (g_i a0.2).bind fun a1 => (g_i a1.2).bind fun a2 => (g_i a2.2).bind fun a3 => (g_r a3.2).bind fun a4 => (g_e a4.2).bind fun _ => T_L_lastly_0 a0.1 a1.1 a2.1 a3.1 a4.1 σ
noncomputable def S_L_lastly (x : sL) : Option (sZ Int32) := if x.1 = 0 then U_L_lastly_0 x.2.1 x.2.2 else none
def Y_L_lastly (pc : Nat) : List Nat := if pc = 0 then [0, 1, 2, 3, 4] else []
noncomputable def F_L_lastly (v0 : Nat) (v1 : Int32) (v2 : Int32) (v3 : Int32) (v4 : Nat) (σ : sS) : Option (Int32 × sS) := s_run S_L_lastly (0, [.ref v0, .int v1, .int v2, .int v3, .ref v4], σ)
theorem l_L_lastly_0 {v0 : Nat} {v1 : Int32} {v2 : Int32} {v3 : Int32} {v4 : Nat} {σ : sS} {z : sZ Int32} (hf : T_L_lastly_0 v0 v1 v2 v3 v4 σ = some z) : s_lz σ z := by
  unfold T_L_lastly_0 at hf
  obtain ⟨q1, hh, hf⟩ := s_bind hf
  refine s_lz.tr (l_X7_lastly hh) ?_
  rcases s_sum_some hf with ⟨x2, -, hf⟩ | ⟨E3, -, hf⟩
  · obtain ⟨σ4, hh, hf⟩ := s_bind hf
    refine s_lz.tr (s_le2 (s_sl_2 hh)) ?_
    cases hf
    exact s_le.rf
  · rcases s_ite hf with ⟨-, hf⟩ | ⟨-, hf⟩
    · cases hf
      exact s_le.rf
    cases hf
theorem l_L_lastly_s {x : sL} {z : sZ Int32} (hs : S_L_lastly x = some z) : s_lz x.2.2 z := by
  obtain ⟨pc, vs, σ⟩ := x
  unfold S_L_lastly at hs
  dsimp only at hs ⊢
  rcases s_ite hs with ⟨c, hs⟩ | ⟨-, hs⟩
  · subst c
    unfold U_L_lastly_0 at hs
    obtain ⟨a0, g0, hs⟩ := s_bind hs
    obtain ⟨a1, g1, hs⟩ := s_bind hs
    obtain ⟨a2, g2, hs⟩ := s_bind hs
    obtain ⟨a3, g3, hs⟩ := s_bind hs
    obtain ⟨a4, g4, hs⟩ := s_bind hs
    obtain ⟨u9, ge, hs⟩ := s_bind hs
    exact l_L_lastly_0 hs
  cases hs
theorem l_L_lastly {v0 : Nat} {v1 : Int32} {v2 : Int32} {v3 : Int32} {v4 : Nat} {σ : sS} {q : Int32 × sS} (h : F_L_lastly v0 v1 v2 v3 v4 σ = some q) : s_le σ q.2 := by
  unfold F_L_lastly at h
  exact s_run_ind (V := fun x r => s_le x.2.2 r.2) (fun x z r hs hk => by
    have h9 := l_L_lastly_s hs
    cases z with
    | inl y => exact s_le.tr h9 hk
    | inr q => cases hk; exact h9) h
set_option maxRecDepth 100000 in
set_option maxHeartbeats 4000000 in
theorem v_L_lastly_0 {G : sG} {d : Nat} {vs0 : List Value} {σ0 : sS} {v0 : Nat} {v1 : Int32} {v2 : Int32} {v3 : Int32} {v4 : Nat} {σ : sS} {z : sZ Int32} {r : Int32 × sS} (hf : T_L_lastly_0 v0 v1 v2 v3 v4 σ = some z) (k : s_K G (d + 70) M_L_lastly vs0 σ0 Y_L_lastly e_I z r) : s_V G (d + 70) M_L_lastly vs0 σ0 Y_L_lastly (0, [.ref v0, .int v1, .int v2, .int v3, .ref v4], σ) (e_I r) := by
  have le0 : s_le σ (e_I r).2 := s_lek hem_I (l_L_lastly_0 hf) k
  refine ⟨le0, ?_⟩
  intro p e s m below meth c H locs cells slots ls X I hn1 hn2 hl
  have hn : cells + σ0.2.1 ≤ σ.2.1 ∧ slots + σ0.2.2.1 ≤ σ.2.2.1 := ⟨hn1, hn2⟩
  have hl : lv_has ls 6 [(0, .ref v0), (1, .int v1), (2, .int v2), (3, .int v3), (4, .ref v4)] := hl
  have hx := X.1
  have hb : c.code = cL_lastly := X.2.1
  have hown : s.vm.findClass RL = some m.cls := X.2.2.2.2.2.1
  have hts := X.2.2.2.2.2.2.1
  refine W.eq (g2 := F0 m 0 ls []) rfl ?_
  unfold T_L_lastly_0 at hf
  obtain ⟨q1, h1, hf⟩ := s_bind hf
  refine lv_aload hx hb dL_lastly_0 (lv_at hl 4 rfl) ?_
  refine lv_iconst (v := 0) hx hb dL_lastly_2 (by decide) ?_
  refine lv_aload_n hx hb dL_lastly_3 rfl (lv_at hl 0 rfl) ?_
  refine lv_iload_n hx hb dL_lastly_4 rfl (lv_at hl 1 rfl) ?_
  refine lv_iload_n hx hb dL_lastly_5 rfl (lv_at hl 2 rfl) ?_
  refine lv_iload_n hx hb dL_lastly_6 rfl (lv_at hl 3 rfl) ?_
  rcases s_sum_some hf with ⟨x2, hq2, hf⟩ | ⟨E3, hq2, hf⟩
  · have le3 : s_le q1.2 (e_I r).2 := by
      refine s_lek hem_I ?_ k
      obtain ⟨σ4, hh, hf⟩ := s_bind hf
      refine s_lz.tr (s_le2 (s_sl_2 hh)) ?_
      cases hf
      exact s_le.rf
    refine r_callV (Y := M_X7_lastly) (v := some (.int x2)) X I w_1391 my_X7_lastly (by omega) (t_X7_lastly (G := G) (d := d + 0) h1) (b_X7_lastly h1) (e_IX_l hq2) rfl hl.1 rfl (Nat.le_of_ble_eq_true rfl) hn le3 dL_lastly_7 (fun H locs cells slots I hn1 hn2 => ?_)
    have I : s_I G q1.2 s H locs := I
    have hn : cells + σ0.2.1 ≤ q1.2.2.1 ∧ slots + σ0.2.2.1 ≤ q1.2.2.2.1 := ⟨hn1, hn2⟩
    obtain ⟨σ4, h4, hf⟩ := s_bind hf
    cases hf
    have k : _ = r := k
    subst k
    have le5 : s_le σ4 σ4 := s_le.rf
    refine lv_i2l hx hb dL_lastly_10 rfl ?_
    refine r_last X I h4 dL_lastly_11 (fun H locs I => ?_)
    have hn := s_k2 (s_sl_2 h4) hn
    refine lv_goto (tgt := 19) hx hb dL_lastly_12 (by decide) ?_
    refine lv_iconst (v := 0) hx hb dL_lastly_19 (by decide) ?_
    exact r_iret X I rfl rfl rfl hn dL_lastly_20
  · rcases s_ite hf with ⟨c6, hf⟩ | ⟨c6, hf⟩
    · subst c6
      have le7 : s_le q1.2 (e_I r).2 := by
        refine s_lek hem_I ?_ k
        cases hf
        exact s_le.rf
      refine r_callVh (x := (0, 12, 15, 27)) (Y := M_X7_lastly) (E := "java/lang/IndexOutOfBoundsException") (name := "java/lang/IndexOutOfBoundsException") X I [] [] rfl (fun z hz => by cases hz) rfl (by decide) w_1011 (by decide +kernel) w_1391 my_X7_lastly (by omega) (t_X7_lastly (G := G) (d := d + 0) h1) (b_X7_lastly h1) (e_IX_r hq2) rfl hl.1 rfl (Nat.le_of_ble_eq_true rfl) hn le7 dL_lastly_7 (fun a5 H locs cells slots I hn1 hn2 => ?_)
      have I : s_I G q1.2 s H locs := I
      have hn : cells + σ0.2.1 ≤ q1.2.2.1 ∧ slots + σ0.2.2.1 ≤ q1.2.2.2.1 := ⟨hn1, hn2⟩
      cases hf
      have k : _ = r := k
      subst k
      refine lv_astore (lv' := [(5, .ref a5), (0, .ref v0), (1, .int v1), (2, .int v2), (3, .int v3), (4, .ref v4)]) hx hb dL_lastly_15 hl (by decide) rfl (fun ls hl => ?_)
      refine lv_iconst (v := 1) hx hb dL_lastly_17 (by decide) ?_
      exact r_iret X I rfl rfl rfl hn dL_lastly_18
    cases hf
theorem v_L_lastly {G : sG} {d : Nat} {vs0 : List Value} {σ0 : sS} {x : sL} {z : sZ Int32} {r : Int32 × sS} (hs : S_L_lastly x = some z) (k : s_K G (d + 70) M_L_lastly vs0 σ0 Y_L_lastly e_I z r) : s_V G (d + 70) M_L_lastly vs0 σ0 Y_L_lastly x (e_I r) := by
  obtain ⟨pc, vs, σ⟩ := x
  unfold S_L_lastly at hs
  dsimp only at hs
  rcases s_ite hs with ⟨c, hs⟩ | ⟨-, hs⟩
  · subst c
    unfold U_L_lastly_0 at hs
    obtain ⟨a0, g0, hs⟩ := s_bind hs
    obtain ⟨a1, g1, hs⟩ := s_bind hs
    obtain ⟨a2, g2, hs⟩ := s_bind hs
    obtain ⟨a3, g3, hs⟩ := s_bind hs
    obtain ⟨a4, g4, hs⟩ := s_bind hs
    obtain ⟨u9, ge, hs⟩ := s_bind hs
    rw [g_r_to g0, g_i_to g1, g_i_to g2, g_i_to g3, g_r_to g4, g_e_to ge]
    exact v_L_lastly_0 hs k
  cases hs
theorem t_L_lastly {G : sG} {d : Nat} {v0 : Nat} {v1 : Int32} {v2 : Int32} {v3 : Int32} {v4 : Nat} {σ : sS} {q : Int32 × sS} (h : F_L_lastly v0 v1 v2 v3 v4 σ = some q) : s_T G (d + 70) M_L_lastly [.ref v0, .int v1, .int v2, .int v3, .ref v4] σ (e_I q) := by
  unfold F_L_lastly at h
  exact s_ofVH rfl (by decide) (Nat.le_of_ble_eq_true rfl) rfl rfl (s_run_ind (V := fun x r => s_V G (d + 70) M_L_lastly [.ref v0, .int v1, .int v2, .int v3, .ref v4] σ Y_L_lastly x (e_I r)) (fun x z r hs hk => v_L_lastly hs (by cases z <;> exact hk)) h)
/-! X2_init -/
noncomputable def T_X2_init_0 (v0 : Nat) (σ : sS) : Option (sZ Unit) :=
  (s_na σ 0 128).bind fun σ1 =>
  (s_pf σ1 v0 2 1 (.ref σ.2.1)).bind fun σ2 =>
  (s_na σ2 0 128).bind fun σ3 =>
  (s_pf σ3 v0 2 2 (.ref σ2.2.1)).bind fun σ4 =>
  (s_na σ4 0 128).bind fun σ5 =>
  (s_pf σ5 v0 2 3 (.ref σ4.2.1)).bind fun σ6 =>
  (s_na σ6 0 128).bind fun σ7 =>
  (s_pf σ7 v0 2 4 (.ref σ6.2.1)).bind fun σ8 =>
  (s_na σ8 0 128).bind fun σ9 =>
  (s_pf σ9 v0 2 5 (.ref σ8.2.1)).bind fun σ10 =>
  (s_na σ10 0 384).bind fun σ11 =>
  (s_pf σ11 v0 2 6 (.ref σ10.2.1)).bind fun σ12 =>
  (s_na σ12 0 128).bind fun σ13 =>
  (s_pf σ13 v0 2 7 (.ref σ12.2.1)).bind fun σ14 =>
  (s_fr σ14 v0 2 7).bind fun x15 =>
  (F_J7_fill_53178 x15 (-1) σ14).bind fun q16 =>
  some (.inr ((), q16.2))
noncomputable def U_X2_init_0 (vs : List Value) (σ : sS) : Option (sZ Unit) := (g_r vs).bind fun a0 => (g_e a0.2).bind fun _ => T_X2_init_0 a0.1 σ
noncomputable def S_X2_init (x : sL) : Option (sZ Unit) := if x.1 = 0 then U_X2_init_0 x.2.1 x.2.2 else none
def Y_X2_init (pc : Nat) : List Nat := if pc = 0 then [0] else []
noncomputable def F_X2_init (v0 : Nat) (σ : sS) : Option (Unit × sS) := s_run S_X2_init (0, [.ref v0], σ)
theorem l_X2_init_0 {v0 : Nat} {σ : sS} {z : sZ Unit} (hf : T_X2_init_0 v0 σ = some z) : s_lz σ z := by
  unfold T_X2_init_0 at hf
  obtain ⟨σ1, hh, hf⟩ := s_bind hf
  refine s_lz.tr (s_na_le hh) ?_
  obtain ⟨σ2, hh, hf⟩ := s_bind hf
  refine s_lz.tr (s_le2 (s_pf_2 hh)) ?_
  obtain ⟨σ3, hh, hf⟩ := s_bind hf
  refine s_lz.tr (s_na_le hh) ?_
  obtain ⟨σ4, hh, hf⟩ := s_bind hf
  refine s_lz.tr (s_le2 (s_pf_2 hh)) ?_
  obtain ⟨σ5, hh, hf⟩ := s_bind hf
  refine s_lz.tr (s_na_le hh) ?_
  obtain ⟨σ6, hh, hf⟩ := s_bind hf
  refine s_lz.tr (s_le2 (s_pf_2 hh)) ?_
  obtain ⟨σ7, hh, hf⟩ := s_bind hf
  refine s_lz.tr (s_na_le hh) ?_
  obtain ⟨σ8, hh, hf⟩ := s_bind hf
  refine s_lz.tr (s_le2 (s_pf_2 hh)) ?_
  obtain ⟨σ9, hh, hf⟩ := s_bind hf
  refine s_lz.tr (s_na_le hh) ?_
  obtain ⟨σ10, hh, hf⟩ := s_bind hf
  refine s_lz.tr (s_le2 (s_pf_2 hh)) ?_
  obtain ⟨σ11, hh, hf⟩ := s_bind hf
  refine s_lz.tr (s_na_le hh) ?_
  obtain ⟨σ12, hh, hf⟩ := s_bind hf
  refine s_lz.tr (s_le2 (s_pf_2 hh)) ?_
  obtain ⟨σ13, hh, hf⟩ := s_bind hf
  refine s_lz.tr (s_na_le hh) ?_
  obtain ⟨σ14, hh, hf⟩ := s_bind hf
  refine s_lz.tr (s_le2 (s_pf_2 hh)) ?_
  obtain ⟨x15, -, hf⟩ := s_bind hf
  obtain ⟨q16, hh, hf⟩ := s_bind hf
  refine s_lz.tr (l_J7_fill_53178 hh) ?_
  cases hf
  exact s_le.rf
theorem l_X2_init_s {x : sL} {z : sZ Unit} (hs : S_X2_init x = some z) : s_lz x.2.2 z := by
  obtain ⟨pc, vs, σ⟩ := x
  unfold S_X2_init at hs
  dsimp only at hs ⊢
  rcases s_ite hs with ⟨c, hs⟩ | ⟨-, hs⟩
  · subst c
    unfold U_X2_init_0 at hs
    obtain ⟨a0, g0, hs⟩ := s_bind hs
    obtain ⟨u9, ge, hs⟩ := s_bind hs
    exact l_X2_init_0 hs
  cases hs
theorem l_X2_init {v0 : Nat} {σ : sS} {q : Unit × sS} (h : F_X2_init v0 σ = some q) : s_le σ q.2 := by
  unfold F_X2_init at h
  exact s_run_ind (V := fun x r => s_le x.2.2 r.2) (fun x z r hs hk => by
    have h9 := l_X2_init_s hs
    cases z with
    | inl y => exact s_le.tr h9 hk
    | inr q => cases hk; exact h9) h
set_option maxRecDepth 100000 in
set_option maxHeartbeats 4000000 in
theorem v_X2_init_0 {G : sG} {d : Nat} {vs0 : List Value} {σ0 : sS} {v0 : Nat} {σ : sS} {z : sZ Unit} {r : Unit × sS} (hf : T_X2_init_0 v0 σ = some z) (k : s_K G (d + 2) M_X2_init vs0 σ0 Y_X2_init e_V z r) : s_V G (d + 2) M_X2_init vs0 σ0 Y_X2_init (0, [.ref v0], σ) (e_V r) := by
  have le0 : s_le σ (e_V r).2 := s_lek hem_V (l_X2_init_0 hf) k
  refine ⟨le0, ?_⟩
  intro p e s m below meth c H locs cells slots ls X I hn1 hn2 hl
  have hn : cells + σ0.2.1 ≤ σ.2.1 ∧ slots + σ0.2.2.1 ≤ σ.2.2.1 := ⟨hn1, hn2⟩
  have hl : lv_has ls 1 [(0, .ref v0)] := hl
  have hx := X.1
  have hb : c.code = cX2_init := X.2.1
  have hown : s.vm.findClass RX2 = some m.cls := X.2.2.2.2.2.1
  have hts := X.2.2.2.2.2.2.1
  refine W.eq (g2 := F0 m 0 ls []) rfl ?_
  unfold T_X2_init_0 at hf
  obtain ⟨σ1, h1, hf⟩ := s_bind hf
  obtain ⟨σ2, h2, hf⟩ := s_bind hf
  obtain ⟨σ3, h3, hf⟩ := s_bind hf
  obtain ⟨σ4, h4, hf⟩ := s_bind hf
  obtain ⟨σ5, h5, hf⟩ := s_bind hf
  obtain ⟨σ6, h6, hf⟩ := s_bind hf
  obtain ⟨σ7, h7, hf⟩ := s_bind hf
  obtain ⟨σ8, h8, hf⟩ := s_bind hf
  obtain ⟨σ9, h9, hf⟩ := s_bind hf
  obtain ⟨σ10, h10, hf⟩ := s_bind hf
  obtain ⟨σ11, h11, hf⟩ := s_bind hf
  obtain ⟨σ12, h12, hf⟩ := s_bind hf
  obtain ⟨σ13, h13, hf⟩ := s_bind hf
  obtain ⟨σ14, h14, hf⟩ := s_bind hf
  obtain ⟨x15, h15, hf⟩ := s_bind hf
  obtain ⟨q16, h16, hf⟩ := s_bind hf
  cases hf
  have k : _ = r := k
  subst k
  have le17 : s_le q16.2 q16.2 := s_le.rf
  have le18 := s_le.tr (l_J7_fill_53178 h16) le17
  have le19 := s_le.tr (s_le2 (s_pf_2 h14)) le18
  have le20 := s_le.tr (s_na_le h13) le19
  have le21 := s_le.tr (s_le2 (s_pf_2 h12)) le20
  have le22 := s_le.tr (s_na_le h11) le21
  have le23 := s_le.tr (s_le2 (s_pf_2 h10)) le22
  have le24 := s_le.tr (s_na_le h9) le23
  have le25 := s_le.tr (s_le2 (s_pf_2 h8)) le24
  have le26 := s_le.tr (s_na_le h7) le25
  have le27 := s_le.tr (s_le2 (s_pf_2 h6)) le26
  have le28 := s_le.tr (s_na_le h5) le27
  have le29 := s_le.tr (s_le2 (s_pf_2 h4)) le28
  have le30 := s_le.tr (s_na_le h3) le29
  have le31 := s_le.tr (s_le2 (s_pf_2 h2)) le30
  refine lv_aload_n hx hb dX2_init_0 rfl (lv_at hl 0 rfl) ?_
  refine r_objI X w_209 w_202 w_203 hl.1 (Nat.le_of_ble_eq_true rfl) dX2_init_1 ?_
  refine lv_aload_n hx hb dX2_init_4 rfl (lv_at hl 0 rfl) ?_
  refine lv_sipush (v := 128) hx hb dX2_init_5 (by decide) ?_
  refine r_newa X I at_int h1 hn le31 dX2_init_8 (fun H I => ?_)
  have hn := s_kna h1 hn
  refine r_put X I fp_X2_11 (fun h => by cases h) h2 rfl rfl dX2_init_10 (fun H locs I => ?_)
  have hn := s_k2 (s_pf_2 h2) hn
  refine lv_aload_n hx hb dX2_init_13 rfl (lv_at hl 0 rfl) ?_
  refine lv_sipush (v := 128) hx hb dX2_init_14 (by decide) ?_
  refine r_newa X I at_int h3 hn le29 dX2_init_17 (fun H I => ?_)
  have hn := s_kna h3 hn
  refine r_put X I fp_X2_15 (fun h => by cases h) h4 rfl rfl dX2_init_19 (fun H locs I => ?_)
  have hn := s_k2 (s_pf_2 h4) hn
  refine lv_aload_n hx hb dX2_init_22 rfl (lv_at hl 0 rfl) ?_
  refine lv_sipush (v := 128) hx hb dX2_init_23 (by decide) ?_
  refine r_newa X I at_int h5 hn le27 dX2_init_26 (fun H I => ?_)
  have hn := s_kna h5 hn
  refine r_put X I fp_X2_18 (fun h => by cases h) h6 rfl rfl dX2_init_28 (fun H locs I => ?_)
  have hn := s_k2 (s_pf_2 h6) hn
  refine lv_aload_n hx hb dX2_init_31 rfl (lv_at hl 0 rfl) ?_
  refine lv_sipush (v := 128) hx hb dX2_init_32 (by decide) ?_
  refine r_newa X I at_int h7 hn le25 dX2_init_35 (fun H I => ?_)
  have hn := s_kna h7 hn
  refine r_put X I fp_X2_21 (fun h => by cases h) h8 rfl rfl dX2_init_37 (fun H locs I => ?_)
  have hn := s_k2 (s_pf_2 h8) hn
  refine lv_aload_n hx hb dX2_init_40 rfl (lv_at hl 0 rfl) ?_
  refine lv_sipush (v := 128) hx hb dX2_init_41 (by decide) ?_
  refine r_newa X I at_int h9 hn le23 dX2_init_44 (fun H I => ?_)
  have hn := s_kna h9 hn
  refine r_put X I fp_X2_24 (fun h => by cases h) h10 rfl rfl dX2_init_46 (fun H locs I => ?_)
  have hn := s_k2 (s_pf_2 h10) hn
  refine lv_aload_n hx hb dX2_init_49 rfl (lv_at hl 0 rfl) ?_
  refine lv_sipush (v := 384) hx hb dX2_init_50 (by decide) ?_
  refine r_newa X I at_int h11 hn le21 dX2_init_53 (fun H I => ?_)
  have hn := s_kna h11 hn
  refine r_put X I fp_X2_27 (fun h => by cases h) h12 rfl rfl dX2_init_55 (fun H locs I => ?_)
  have hn := s_k2 (s_pf_2 h12) hn
  refine lv_aload_n hx hb dX2_init_58 rfl (lv_at hl 0 rfl) ?_
  refine lv_sipush (v := 128) hx hb dX2_init_59 (by decide) ?_
  refine r_newa X I at_int h13 hn le19 dX2_init_62 (fun H I => ?_)
  have hn := s_kna h13 hn
  refine r_put X I fp_X2_30 (fun _ => rfl) h14 rfl rfl dX2_init_64 (fun H locs I => ?_)
  have hn := s_k2 (s_pf_2 h14) hn
  refine lv_aload_n hx hb dX2_init_67 rfl (lv_at hl 0 rfl) ?_
  refine r_gr X I fl_X2_30 h15 dX2_init_68 ?_
  refine lv_iconst (v := (-1)) hx hb dX2_init_71 (by decide) ?_
  refine r_callS (Y := M_J7_fill_53178) (v := none) X I w_210 my_J7_fill_53178 (by omega) (t_J7_fill_53178 (G := G) (d := d + 0) h16) rfl rfl hl.1 rfl (Nat.le_of_ble_eq_true rfl) hn le17 dX2_init_72 (fun H locs cells slots I hn1 hn2 => ?_)
  have I : s_I G q16.2 s H locs := I
  have hn : cells + σ0.2.1 ≤ q16.2.2.1 ∧ slots + σ0.2.2.1 ≤ q16.2.2.2.1 := ⟨hn1, hn2⟩
  exact r_vret X I rfl rfl hn dX2_init_75
theorem v_X2_init {G : sG} {d : Nat} {vs0 : List Value} {σ0 : sS} {x : sL} {z : sZ Unit} {r : Unit × sS} (hs : S_X2_init x = some z) (k : s_K G (d + 2) M_X2_init vs0 σ0 Y_X2_init e_V z r) : s_V G (d + 2) M_X2_init vs0 σ0 Y_X2_init x (e_V r) := by
  obtain ⟨pc, vs, σ⟩ := x
  unfold S_X2_init at hs
  dsimp only at hs
  rcases s_ite hs with ⟨c, hs⟩ | ⟨-, hs⟩
  · subst c
    unfold U_X2_init_0 at hs
    obtain ⟨a0, g0, hs⟩ := s_bind hs
    obtain ⟨u9, ge, hs⟩ := s_bind hs
    rw [g_r_to g0, g_e_to ge]
    exact v_X2_init_0 hs k
  cases hs
theorem t_X2_init {G : sG} {d : Nat} {v0 : Nat} {σ : sS} {q : Unit × sS} (h : F_X2_init v0 σ = some q) : s_T G (d + 2) M_X2_init [.ref v0] σ (e_V q) := by
  unfold F_X2_init at h
  exact s_ofV rfl (by decide) (Nat.le_of_ble_eq_true rfl) rfl rfl (s_run_ind (V := fun x r => s_V G (d + 2) M_X2_init [.ref v0] σ Y_X2_init x (e_V r)) (fun x z r hs hk => v_X2_init hs (by cases z <;> exact hk)) h)
/-! X1_init -/
noncomputable def T_X1_init_0 (v0 : Nat) (σ : sS) : Option (sZ Unit) :=
  (s_pf σ v0 1 0 (.int 2)).bind fun σ1 =>
  (s_na σ1 1 480).bind fun σ2 =>
  (s_pf σ2 v0 1 3 (.ref σ1.2.1)).bind fun σ3 =>
  (s_na σ3 0 3).bind fun σ4 =>
  (s_pf σ4 v0 1 4 (.ref σ3.2.1)).bind fun σ5 =>
  (s_na σ5 0 4).bind fun σ6 =>
  (s_pf σ6 v0 1 5 (.ref σ5.2.1)).bind fun σ7 =>
  (s_na σ7 1 40).bind fun σ8 =>
  (s_pf σ8 v0 1 7 (.ref σ7.2.1)).bind fun σ9 =>
  (s_na σ9 1 40).bind fun σ10 =>
  (s_pf σ10 v0 1 8 (.ref σ9.2.1)).bind fun σ11 =>
  (s_na σ11 0 30).bind fun σ12 =>
  (s_pf σ12 v0 1 11 (.ref σ11.2.1)).bind fun σ13 =>
  (s_na σ13 0 51).bind fun σ14 =>
  (s_pf σ14 v0 1 12 (.ref σ13.2.1)).bind fun σ15 =>
  (s_na σ15 0 240).bind fun σ16 =>
  (s_pf σ16 v0 1 13 (.ref σ15.2.1)).bind fun σ17 =>
  (s_na σ17 0 120).bind fun σ18 =>
  (s_pf σ18 v0 1 14 (.ref σ17.2.1)).bind fun σ19 =>
  some (.inl (83, [.ref v0, .int 0], σ19))
noncomputable def U_X1_init_0 (vs : List Value) (σ : sS) : Option (sZ Unit) := (g_r vs).bind fun a0 => (g_e a0.2).bind fun _ => T_X1_init_0 a0.1 σ
noncomputable def T_X1_init_83 (v0 : Nat) (v1 : Int32) (σ : sS) : Option (sZ Unit) :=
  if (3 : Int32) ≤ v1 then (some (.inr ((), σ)))
  else ((s_fr σ v0 1 4).bind fun x1 =>
  (s_si σ x1 v1 65535).bind fun σ2 =>
  some (.inl (98, [.ref v0, .int v1, .int 0], σ2)))
noncomputable def U_X1_init_83 (vs : List Value) (σ : sS) : Option (sZ Unit) := (g_r vs).bind fun a0 => (g_i a0.2).bind fun a1 => (g_e a1.2).bind fun _ => T_X1_init_83 a0.1 a1.1 σ
noncomputable def T_X1_init_98 (v0 : Nat) (v1 : Int32) (v2 : Int32) (σ : sS) : Option (sZ Unit) :=
  if (17 : Int32) ≤ v2 then (some (.inl (83, [.ref v0, .int (v1 + 1)], σ)))
  else ((s_fr σ v0 1 12).bind fun x1 =>
  if v2 = 16 then (some (.inl (126, [.ref v0, .int v1, .int v2, .int 1, .int ((v1 * 17) + v2), .ref x1], σ)))
  else (some (.inl (126, [.ref v0, .int v1, .int v2, .int 10, .int ((v1 * 17) + v2), .ref x1], σ))))
noncomputable def U_X1_init_98 (vs : List Value) (σ : sS) : Option (sZ Unit) := (g_r vs).bind fun a0 => (g_i a0.2).bind fun a1 => (g_i a1.2).bind fun a2 => (g_e a2.2).bind fun _ => T_X1_init_98 a0.1 a1.1 a2.1 σ
noncomputable def T_X1_init_126 (v0 : Nat) (v1 : Int32) (v2 : Int32) (w0 : Int32) (w1 : Int32) (w2 : Nat) (σ : sS) : Option (sZ Unit) :=
  (s_si σ w2 w1 w0).bind fun σ1 =>
  some (.inl (98, [.ref v0, .int v1, .int (v2 + 1)], σ1))
noncomputable def U_X1_init_126 (vs : List Value) (σ : sS) : Option (sZ Unit) := (g_r vs).bind fun a0 => (g_i a0.2).bind fun a1 => (g_i a1.2).bind fun a2 => (g_i a2.2).bind fun a3 => (g_i a3.2).bind fun a4 => (g_r a4.2).bind fun a5 => (g_e a5.2).bind fun _ => T_X1_init_126 a0.1 a1.1 a2.1 a3.1 a4.1 a5.1 σ
noncomputable def S_X1_init (x : sL) : Option (sZ Unit) := if x.1 = 0 then U_X1_init_0 x.2.1 x.2.2 else if x.1 = 83 then U_X1_init_83 x.2.1 x.2.2 else if x.1 = 98 then U_X1_init_98 x.2.1 x.2.2 else if x.1 = 126 then U_X1_init_126 x.2.1 x.2.2 else none
def Y_X1_init (pc : Nat) : List Nat := if pc = 0 then [0] else if pc = 83 then [0, 1] else if pc = 98 then [0, 1, 2] else if pc = 126 then [0, 1, 2] else []
noncomputable def F_X1_init (v0 : Nat) (σ : sS) : Option (Unit × sS) := s_run S_X1_init (0, [.ref v0], σ)
theorem l_X1_init_0 {v0 : Nat} {σ : sS} {z : sZ Unit} (hf : T_X1_init_0 v0 σ = some z) : s_lz σ z := by
  unfold T_X1_init_0 at hf
  obtain ⟨σ1, hh, hf⟩ := s_bind hf
  refine s_lz.tr (s_le2 (s_pf_2 hh)) ?_
  obtain ⟨σ2, hh, hf⟩ := s_bind hf
  refine s_lz.tr (s_na_le hh) ?_
  obtain ⟨σ3, hh, hf⟩ := s_bind hf
  refine s_lz.tr (s_le2 (s_pf_2 hh)) ?_
  obtain ⟨σ4, hh, hf⟩ := s_bind hf
  refine s_lz.tr (s_na_le hh) ?_
  obtain ⟨σ5, hh, hf⟩ := s_bind hf
  refine s_lz.tr (s_le2 (s_pf_2 hh)) ?_
  obtain ⟨σ6, hh, hf⟩ := s_bind hf
  refine s_lz.tr (s_na_le hh) ?_
  obtain ⟨σ7, hh, hf⟩ := s_bind hf
  refine s_lz.tr (s_le2 (s_pf_2 hh)) ?_
  obtain ⟨σ8, hh, hf⟩ := s_bind hf
  refine s_lz.tr (s_na_le hh) ?_
  obtain ⟨σ9, hh, hf⟩ := s_bind hf
  refine s_lz.tr (s_le2 (s_pf_2 hh)) ?_
  obtain ⟨σ10, hh, hf⟩ := s_bind hf
  refine s_lz.tr (s_na_le hh) ?_
  obtain ⟨σ11, hh, hf⟩ := s_bind hf
  refine s_lz.tr (s_le2 (s_pf_2 hh)) ?_
  obtain ⟨σ12, hh, hf⟩ := s_bind hf
  refine s_lz.tr (s_na_le hh) ?_
  obtain ⟨σ13, hh, hf⟩ := s_bind hf
  refine s_lz.tr (s_le2 (s_pf_2 hh)) ?_
  obtain ⟨σ14, hh, hf⟩ := s_bind hf
  refine s_lz.tr (s_na_le hh) ?_
  obtain ⟨σ15, hh, hf⟩ := s_bind hf
  refine s_lz.tr (s_le2 (s_pf_2 hh)) ?_
  obtain ⟨σ16, hh, hf⟩ := s_bind hf
  refine s_lz.tr (s_na_le hh) ?_
  obtain ⟨σ17, hh, hf⟩ := s_bind hf
  refine s_lz.tr (s_le2 (s_pf_2 hh)) ?_
  obtain ⟨σ18, hh, hf⟩ := s_bind hf
  refine s_lz.tr (s_na_le hh) ?_
  obtain ⟨σ19, hh, hf⟩ := s_bind hf
  refine s_lz.tr (s_le2 (s_pf_2 hh)) ?_
  cases hf
  exact s_le.rf
theorem l_X1_init_83 {v0 : Nat} {v1 : Int32} {σ : sS} {z : sZ Unit} (hf : T_X1_init_83 v0 v1 σ = some z) : s_lz σ z := by
  unfold T_X1_init_83 at hf
  rcases s_ite hf with ⟨-, hf⟩ | ⟨-, hf⟩
  · cases hf
    exact s_le.rf
  · obtain ⟨x1, -, hf⟩ := s_bind hf
    obtain ⟨σ2, hh, hf⟩ := s_bind hf
    refine s_lz.tr (s_le2 (s_si_2 hh)) ?_
    cases hf
    exact s_le.rf
theorem l_X1_init_98 {v0 : Nat} {v1 : Int32} {v2 : Int32} {σ : sS} {z : sZ Unit} (hf : T_X1_init_98 v0 v1 v2 σ = some z) : s_lz σ z := by
  unfold T_X1_init_98 at hf
  rcases s_ite hf with ⟨-, hf⟩ | ⟨-, hf⟩
  · cases hf
    exact s_le.rf
  · obtain ⟨x1, -, hf⟩ := s_bind hf
    rcases s_ite hf with ⟨-, hf⟩ | ⟨-, hf⟩
    · cases hf
      exact s_le.rf
    · cases hf
      exact s_le.rf
theorem l_X1_init_126 {v0 : Nat} {v1 : Int32} {v2 : Int32} {w0 : Int32} {w1 : Int32} {w2 : Nat} {σ : sS} {z : sZ Unit} (hf : T_X1_init_126 v0 v1 v2 w0 w1 w2 σ = some z) : s_lz σ z := by
  unfold T_X1_init_126 at hf
  obtain ⟨σ1, hh, hf⟩ := s_bind hf
  refine s_lz.tr (s_le2 (s_si_2 hh)) ?_
  cases hf
  exact s_le.rf
theorem l_X1_init_s {x : sL} {z : sZ Unit} (hs : S_X1_init x = some z) : s_lz x.2.2 z := by
  obtain ⟨pc, vs, σ⟩ := x
  unfold S_X1_init at hs
  dsimp only at hs ⊢
  rcases s_ite hs with ⟨c, hs⟩ | ⟨-, hs⟩
  · subst c
    unfold U_X1_init_0 at hs
    obtain ⟨a0, g0, hs⟩ := s_bind hs
    obtain ⟨u9, ge, hs⟩ := s_bind hs
    exact l_X1_init_0 hs
  rcases s_ite hs with ⟨c, hs⟩ | ⟨-, hs⟩
  · subst c
    unfold U_X1_init_83 at hs
    obtain ⟨a0, g0, hs⟩ := s_bind hs
    obtain ⟨a1, g1, hs⟩ := s_bind hs
    obtain ⟨u9, ge, hs⟩ := s_bind hs
    exact l_X1_init_83 hs
  rcases s_ite hs with ⟨c, hs⟩ | ⟨-, hs⟩
  · subst c
    unfold U_X1_init_98 at hs
    obtain ⟨a0, g0, hs⟩ := s_bind hs
    obtain ⟨a1, g1, hs⟩ := s_bind hs
    obtain ⟨a2, g2, hs⟩ := s_bind hs
    obtain ⟨u9, ge, hs⟩ := s_bind hs
    exact l_X1_init_98 hs
  rcases s_ite hs with ⟨c, hs⟩ | ⟨-, hs⟩
  · subst c
    unfold U_X1_init_126 at hs
    obtain ⟨a0, g0, hs⟩ := s_bind hs
    obtain ⟨a1, g1, hs⟩ := s_bind hs
    obtain ⟨a2, g2, hs⟩ := s_bind hs
    obtain ⟨a3, g3, hs⟩ := s_bind hs
    obtain ⟨a4, g4, hs⟩ := s_bind hs
    obtain ⟨a5, g5, hs⟩ := s_bind hs
    obtain ⟨u9, ge, hs⟩ := s_bind hs
    exact l_X1_init_126 hs
  cases hs
theorem l_X1_init {v0 : Nat} {σ : sS} {q : Unit × sS} (h : F_X1_init v0 σ = some q) : s_le σ q.2 := by
  unfold F_X1_init at h
  exact s_run_ind (V := fun x r => s_le x.2.2 r.2) (fun x z r hs hk => by
    have h9 := l_X1_init_s hs
    cases z with
    | inl y => exact s_le.tr h9 hk
    | inr q => cases hk; exact h9) h
set_option maxRecDepth 100000 in
set_option maxHeartbeats 4000000 in
theorem v_X1_init_0 {G : sG} {d : Nat} {vs0 : List Value} {σ0 : sS} {v0 : Nat} {σ : sS} {z : sZ Unit} {r : Unit × sS} (hf : T_X1_init_0 v0 σ = some z) (k : s_K G (d + 1) M_X1_init vs0 σ0 Y_X1_init e_V z r) : s_V G (d + 1) M_X1_init vs0 σ0 Y_X1_init (0, [.ref v0], σ) (e_V r) := by
  have le0 : s_le σ (e_V r).2 := s_lek hem_V (l_X1_init_0 hf) k
  refine ⟨le0, ?_⟩
  intro p e s m below meth c H locs cells slots ls X I hn1 hn2 hl
  have hn : cells + σ0.2.1 ≤ σ.2.1 ∧ slots + σ0.2.2.1 ≤ σ.2.2.1 := ⟨hn1, hn2⟩
  have hl : lv_has ls 3 [(0, .ref v0)] := hl
  have hx := X.1
  have hb : c.code = cX1_init := X.2.1
  have hown : s.vm.findClass RX1 = some m.cls := X.2.2.2.2.2.1
  have hts := X.2.2.2.2.2.2.1
  refine W.eq (g2 := F0 m 0 ls []) rfl ?_
  unfold T_X1_init_0 at hf
  obtain ⟨σ1, h1, hf⟩ := s_bind hf
  obtain ⟨σ2, h2, hf⟩ := s_bind hf
  obtain ⟨σ3, h3, hf⟩ := s_bind hf
  obtain ⟨σ4, h4, hf⟩ := s_bind hf
  obtain ⟨σ5, h5, hf⟩ := s_bind hf
  obtain ⟨σ6, h6, hf⟩ := s_bind hf
  obtain ⟨σ7, h7, hf⟩ := s_bind hf
  obtain ⟨σ8, h8, hf⟩ := s_bind hf
  obtain ⟨σ9, h9, hf⟩ := s_bind hf
  obtain ⟨σ10, h10, hf⟩ := s_bind hf
  obtain ⟨σ11, h11, hf⟩ := s_bind hf
  obtain ⟨σ12, h12, hf⟩ := s_bind hf
  obtain ⟨σ13, h13, hf⟩ := s_bind hf
  obtain ⟨σ14, h14, hf⟩ := s_bind hf
  obtain ⟨σ15, h15, hf⟩ := s_bind hf
  obtain ⟨σ16, h16, hf⟩ := s_bind hf
  obtain ⟨σ17, h17, hf⟩ := s_bind hf
  obtain ⟨σ18, h18, hf⟩ := s_bind hf
  obtain ⟨σ19, h19, hf⟩ := s_bind hf
  cases hf
  have k : s_V G (d + 1) M_X1_init vs0 σ0 Y_X1_init (83, [.ref v0, .int 0], σ19) (e_V r) := k
  have le20 : s_le σ19 (e_V r).2 := k.1
  have le21 := s_le.tr (s_le2 (s_pf_2 h19)) le20
  have le22 := s_le.tr (s_na_le h18) le21
  have le23 := s_le.tr (s_le2 (s_pf_2 h17)) le22
  have le24 := s_le.tr (s_na_le h16) le23
  have le25 := s_le.tr (s_le2 (s_pf_2 h15)) le24
  have le26 := s_le.tr (s_na_le h14) le25
  have le27 := s_le.tr (s_le2 (s_pf_2 h13)) le26
  have le28 := s_le.tr (s_na_le h12) le27
  have le29 := s_le.tr (s_le2 (s_pf_2 h11)) le28
  have le30 := s_le.tr (s_na_le h10) le29
  have le31 := s_le.tr (s_le2 (s_pf_2 h9)) le30
  have le32 := s_le.tr (s_na_le h8) le31
  have le33 := s_le.tr (s_le2 (s_pf_2 h7)) le32
  have le34 := s_le.tr (s_na_le h6) le33
  have le35 := s_le.tr (s_le2 (s_pf_2 h5)) le34
  have le36 := s_le.tr (s_na_le h4) le35
  have le37 := s_le.tr (s_le2 (s_pf_2 h3)) le36
  have le38 := s_le.tr (s_na_le h2) le37
  refine lv_aload_n hx hb dX1_init_0 rfl (lv_at hl 0 rfl) ?_
  refine r_objI X w_245 w_202 w_203 hl.1 (Nat.le_of_ble_eq_true rfl) dX1_init_1 ?_
  refine lv_aload_n hx hb dX1_init_4 rfl (lv_at hl 0 rfl) ?_
  refine lv_iconst (v := 2) hx hb dX1_init_5 (by decide) ?_
  refine r_put X I fp_X1_9 (fun h => by cases h) h1 rfl rfl dX1_init_6 (fun H locs I => ?_)
  have hn := s_k2 (s_pf_2 h1) hn
  refine lv_aload_n hx hb dX1_init_9 rfl (lv_at hl 0 rfl) ?_
  refine lv_sipush (v := 480) hx hb dX1_init_10 (by decide) ?_
  refine r_newa X I at_long h2 hn le37 dX1_init_13 (fun H I => ?_)
  have hn := s_kna h2 hn
  refine r_put X I fp_X1_15 (fun _ => rfl) h3 rfl rfl dX1_init_15 (fun H locs I => ?_)
  have hn := s_k2 (s_pf_2 h3) hn
  refine lv_aload_n hx hb dX1_init_18 rfl (lv_at hl 0 rfl) ?_
  refine lv_iconst (v := 3) hx hb dX1_init_19 (by decide) ?_
  refine r_newa X I at_int h4 hn le35 dX1_init_20 (fun H I => ?_)
  have hn := s_kna h4 hn
  refine r_put X I fp_X1_19 (fun _ => rfl) h5 rfl rfl dX1_init_22 (fun H locs I => ?_)
  have hn := s_k2 (s_pf_2 h5) hn
  refine lv_aload_n hx hb dX1_init_25 rfl (lv_at hl 0 rfl) ?_
  refine lv_iconst (v := 4) hx hb dX1_init_26 (by decide) ?_
  refine r_newa X I at_int h6 hn le33 dX1_init_27 (fun H I => ?_)
  have hn := s_kna h6 hn
  refine r_put X I fp_X1_23 (fun _ => rfl) h7 rfl rfl dX1_init_29 (fun H locs I => ?_)
  have hn := s_k2 (s_pf_2 h7) hn
  refine lv_aload_n hx hb dX1_init_32 rfl (lv_at hl 0 rfl) ?_
  refine lv_bipush (v := 40) hx hb dX1_init_33 (by decide) ?_
  refine r_newa X I at_long h8 hn le31 dX1_init_35 (fun H I => ?_)
  have hn := s_kna h8 hn
  refine r_put X I fp_X1_26 (fun _ => rfl) h9 rfl rfl dX1_init_37 (fun H locs I => ?_)
  have hn := s_k2 (s_pf_2 h9) hn
  refine lv_aload_n hx hb dX1_init_40 rfl (lv_at hl 0 rfl) ?_
  refine lv_bipush (v := 40) hx hb dX1_init_41 (by decide) ?_
  refine r_newa X I at_long h10 hn le29 dX1_init_43 (fun H I => ?_)
  have hn := s_kna h10 hn
  refine r_put X I fp_X1_29 (fun _ => rfl) h11 rfl rfl dX1_init_45 (fun H locs I => ?_)
  have hn := s_k2 (s_pf_2 h11) hn
  refine lv_aload_n hx hb dX1_init_48 rfl (lv_at hl 0 rfl) ?_
  refine lv_bipush (v := 30) hx hb dX1_init_49 (by decide) ?_
  refine r_newa X I at_int h12 hn le27 dX1_init_51 (fun H I => ?_)
  have hn := s_kna h12 hn
  refine r_put X I fp_X1_32 (fun _ => rfl) h13 rfl rfl dX1_init_53 (fun H locs I => ?_)
  have hn := s_k2 (s_pf_2 h13) hn
  refine lv_aload_n hx hb dX1_init_56 rfl (lv_at hl 0 rfl) ?_
  refine lv_bipush (v := 51) hx hb dX1_init_57 (by decide) ?_
  refine r_newa X I at_int h14 hn le25 dX1_init_59 (fun H I => ?_)
  have hn := s_kna h14 hn
  refine r_put X I fp_X1_35 (fun _ => rfl) h15 rfl rfl dX1_init_61 (fun H locs I => ?_)
  have hn := s_k2 (s_pf_2 h15) hn
  refine lv_aload_n hx hb dX1_init_64 rfl (lv_at hl 0 rfl) ?_
  refine lv_sipush (v := 240) hx hb dX1_init_65 (by decide) ?_
  refine r_newa X I at_int h16 hn le23 dX1_init_68 (fun H I => ?_)
  have hn := s_kna h16 hn
  refine r_put X I fp_X1_38 (fun _ => rfl) h17 rfl rfl dX1_init_70 (fun H locs I => ?_)
  have hn := s_k2 (s_pf_2 h17) hn
  refine lv_aload_n hx hb dX1_init_73 rfl (lv_at hl 0 rfl) ?_
  refine lv_bipush (v := 120) hx hb dX1_init_74 (by decide) ?_
  refine r_newa X I at_int h18 hn le21 dX1_init_76 (fun H I => ?_)
  have hn := s_kna h18 hn
  refine r_put X I fp_X1_41 (fun _ => rfl) h19 rfl rfl dX1_init_78 (fun H locs I => ?_)
  have hn := s_k2 (s_pf_2 h19) hn
  refine lv_iconst (v := 0) hx hb dX1_init_81 (by decide) ?_
  refine lv_istore_n (lv' := [(1, .int 0), (0, .ref v0)]) hx hb dX1_init_82 rfl hl (by decide) rfl (fun ls hl => ?_)
  exact k.2 p e s m below meth c _ _ _ _ _ X I hn.1 hn.2 (lv_sub hl [1, 0] rfl)
set_option maxRecDepth 100000 in
set_option maxHeartbeats 4000000 in
theorem v_X1_init_83 {G : sG} {d : Nat} {vs0 : List Value} {σ0 : sS} {v0 : Nat} {v1 : Int32} {σ : sS} {z : sZ Unit} {r : Unit × sS} (hf : T_X1_init_83 v0 v1 σ = some z) (k : s_K G (d + 1) M_X1_init vs0 σ0 Y_X1_init e_V z r) : s_V G (d + 1) M_X1_init vs0 σ0 Y_X1_init (83, [.ref v0, .int v1], σ) (e_V r) := by
  have le0 : s_le σ (e_V r).2 := s_lek hem_V (l_X1_init_83 hf) k
  refine ⟨le0, ?_⟩
  intro p e s m below meth c H locs cells slots ls X I hn1 hn2 hl
  have hn : cells + σ0.2.1 ≤ σ.2.1 ∧ slots + σ0.2.2.1 ≤ σ.2.2.1 := ⟨hn1, hn2⟩
  have hl : lv_has ls 3 [(0, .ref v0), (1, .int v1)] := hl
  have hx := X.1
  have hb : c.code = cX1_init := X.2.1
  have hown : s.vm.findClass RX1 = some m.cls := X.2.2.2.2.2.1
  have hts := X.2.2.2.2.2.2.1
  refine W.eq (g2 := F0 m 83 ls []) rfl ?_
  unfold T_X1_init_83 at hf
  refine lv_iload_n hx hb dX1_init_83 rfl (lv_at hl 1 rfl) ?_
  refine lv_iconst (v := 3) hx hb dX1_init_84 (by decide) ?_
  rcases s_ite hf with ⟨c1, hf⟩ | ⟨c1, hf⟩
  · refine lv_icmp_ge (tgt := 139) hx hb dX1_init_85 (by decide) (fun _ => ?_) (fun n => absurd c1 n)
    cases hf
    have k : _ = r := k
    subst k
    exact r_vret X I rfl rfl hn dX1_init_139
  · refine lv_icmp_ge (tgt := 139) hx hb dX1_init_85 (by decide) (fun n => absurd n c1) (fun _ => ?_)
    obtain ⟨x1, h2, hf⟩ := s_bind hf
    obtain ⟨σ2, h3, hf⟩ := s_bind hf
    cases hf
    have k : s_V G (d + 1) M_X1_init vs0 σ0 Y_X1_init (98, [.ref v0, .int v1, .int 0], σ2) (e_V r) := k
    have le4 : s_le σ2 (e_V r).2 := k.1
    refine lv_aload_n hx hb dX1_init_88 rfl (lv_at hl 0 rfl) ?_
    refine r_gr X I fl_X1_19 h2 dX1_init_89 ?_
    refine lv_iload_n hx hb dX1_init_92 rfl (lv_at hl 1 rfl) ?_
    refine lv_ldc (own := RX1) hx hb hown (hts _ w_246) dX1_init_93 ?_
    refine r_iast X I h3 dX1_init_95 (fun H locs I => ?_)
    have hn := s_k2 (s_si_2 h3) hn
    refine lv_iconst (v := 0) hx hb dX1_init_96 (by decide) ?_
    refine lv_istore_n (lv' := [(2, .int 0), (0, .ref v0), (1, .int v1)]) hx hb dX1_init_97 rfl hl (by decide) rfl (fun ls hl => ?_)
    exact k.2 p e s m below meth c _ _ _ _ _ X I hn.1 hn.2 (lv_sub hl [1, 2, 0] rfl)
set_option maxRecDepth 100000 in
set_option maxHeartbeats 4000000 in
theorem v_X1_init_98 {G : sG} {d : Nat} {vs0 : List Value} {σ0 : sS} {v0 : Nat} {v1 : Int32} {v2 : Int32} {σ : sS} {z : sZ Unit} {r : Unit × sS} (hf : T_X1_init_98 v0 v1 v2 σ = some z) (k : s_K G (d + 1) M_X1_init vs0 σ0 Y_X1_init e_V z r) : s_V G (d + 1) M_X1_init vs0 σ0 Y_X1_init (98, [.ref v0, .int v1, .int v2], σ) (e_V r) := by
  have le0 : s_le σ (e_V r).2 := s_lek hem_V (l_X1_init_98 hf) k
  refine ⟨le0, ?_⟩
  intro p e s m below meth c H locs cells slots ls X I hn1 hn2 hl
  have hn : cells + σ0.2.1 ≤ σ.2.1 ∧ slots + σ0.2.2.1 ≤ σ.2.2.1 := ⟨hn1, hn2⟩
  have hl : lv_has ls 3 [(0, .ref v0), (1, .int v1), (2, .int v2)] := hl
  have hx := X.1
  have hb : c.code = cX1_init := X.2.1
  have hown : s.vm.findClass RX1 = some m.cls := X.2.2.2.2.2.1
  have hts := X.2.2.2.2.2.2.1
  refine W.eq (g2 := F0 m 98 ls []) rfl ?_
  unfold T_X1_init_98 at hf
  refine lv_iload_n hx hb dX1_init_98 rfl (lv_at hl 2 rfl) ?_
  refine lv_bipush (v := 17) hx hb dX1_init_99 (by decide) ?_
  rcases s_ite hf with ⟨c1, hf⟩ | ⟨c1, hf⟩
  · refine lv_icmp_ge (tgt := 133) hx hb dX1_init_101 (by decide) (fun _ => ?_) (fun n => absurd c1 n)
    cases hf
    have k : s_V G (d + 1) M_X1_init vs0 σ0 Y_X1_init (83, [.ref v0, .int (v1 + 1)], σ) (e_V r) := k
    refine lv_iinc (v := (v1 + 1)) (lv' := [(1, .int (v1 + 1)), (0, .ref v0), (2, .int v2)]) hx hb dX1_init_133 hl (k := 1) rfl rfl (by decide) rfl (fun ls hl => ?_)
    refine lv_goto (tgt := 83) hx hb dX1_init_136 (by decide) ?_
    exact k.2 p e s m below meth c _ _ _ _ _ X I hn.1 hn.2 (lv_sub hl [1, 0] rfl)
  · refine lv_icmp_ge (tgt := 133) hx hb dX1_init_101 (by decide) (fun n => absurd n c1) (fun _ => ?_)
    obtain ⟨x1, h2, hf⟩ := s_bind hf
    refine lv_aload_n hx hb dX1_init_104 rfl (lv_at hl 0 rfl) ?_
    refine r_gr X I fl_X1_35 h2 dX1_init_105 ?_
    refine lv_iload_n hx hb dX1_init_108 rfl (lv_at hl 1 rfl) ?_
    refine lv_bipush (v := 17) hx hb dX1_init_109 (by decide) ?_
    refine lv_imul hx hb dX1_init_111 ?_
    refine lv_iload_n hx hb dX1_init_112 rfl (lv_at hl 2 rfl) ?_
    refine lv_iadd hx hb dX1_init_113 ?_
    refine lv_iload_n hx hb dX1_init_114 rfl (lv_at hl 2 rfl) ?_
    refine lv_bipush (v := 16) hx hb dX1_init_115 (by decide) ?_
    rcases s_ite hf with ⟨c3, hf⟩ | ⟨c3, hf⟩
    · refine lv_icmp_ne (tgt := 124) hx hb dX1_init_117 (by decide) (fun n => absurd c3 n) (fun _ => ?_)
      cases hf
      have k : s_V G (d + 1) M_X1_init vs0 σ0 Y_X1_init (126, [.ref v0, .int v1, .int v2, .int 1, .int ((v1 * 17) + v2), .ref x1], σ) (e_V r) := k
      refine lv_iconst (v := 1) hx hb dX1_init_120 (by decide) ?_
      refine lv_goto (tgt := 126) hx hb dX1_init_121 (by decide) ?_
      exact k.2 p e s m below meth c _ _ _ _ _ X I hn.1 hn.2 (lv_sub hl [0, 1, 2] rfl)
    · refine lv_icmp_ne (tgt := 124) hx hb dX1_init_117 (by decide) (fun _ => ?_) (fun n => absurd n c3)
      cases hf
      have k : s_V G (d + 1) M_X1_init vs0 σ0 Y_X1_init (126, [.ref v0, .int v1, .int v2, .int 10, .int ((v1 * 17) + v2), .ref x1], σ) (e_V r) := k
      refine lv_bipush (v := 10) hx hb dX1_init_124 (by decide) ?_
      exact k.2 p e s m below meth c _ _ _ _ _ X I hn.1 hn.2 (lv_sub hl [0, 1, 2] rfl)
set_option maxRecDepth 100000 in
set_option maxHeartbeats 4000000 in
theorem v_X1_init_126 {G : sG} {d : Nat} {vs0 : List Value} {σ0 : sS} {v0 : Nat} {v1 : Int32} {v2 : Int32} {w0 : Int32} {w1 : Int32} {w2 : Nat} {σ : sS} {z : sZ Unit} {r : Unit × sS} (hf : T_X1_init_126 v0 v1 v2 w0 w1 w2 σ = some z) (k : s_K G (d + 1) M_X1_init vs0 σ0 Y_X1_init e_V z r) : s_V G (d + 1) M_X1_init vs0 σ0 Y_X1_init (126, [.ref v0, .int v1, .int v2, .int w0, .int w1, .ref w2], σ) (e_V r) := by
  have le0 : s_le σ (e_V r).2 := s_lek hem_V (l_X1_init_126 hf) k
  refine ⟨le0, ?_⟩
  intro p e s m below meth c H locs cells slots ls X I hn1 hn2 hl
  have hn : cells + σ0.2.1 ≤ σ.2.1 ∧ slots + σ0.2.2.1 ≤ σ.2.2.1 := ⟨hn1, hn2⟩
  have hl : lv_has ls 3 [(0, .ref v0), (1, .int v1), (2, .int v2)] := hl
  have hx := X.1
  have hb : c.code = cX1_init := X.2.1
  have hown : s.vm.findClass RX1 = some m.cls := X.2.2.2.2.2.1
  have hts := X.2.2.2.2.2.2.1
  refine W.eq (g2 := F0 m 126 ls [.int w0, .int w1, .ref w2]) rfl ?_
  unfold T_X1_init_126 at hf
  obtain ⟨σ1, h1, hf⟩ := s_bind hf
  cases hf
  have k : s_V G (d + 1) M_X1_init vs0 σ0 Y_X1_init (98, [.ref v0, .int v1, .int (v2 + 1)], σ1) (e_V r) := k
  have le2 : s_le σ1 (e_V r).2 := k.1
  refine r_iast X I h1 dX1_init_126 (fun H locs I => ?_)
  have hn := s_k2 (s_si_2 h1) hn
  refine lv_iinc (v := (v2 + 1)) (lv' := [(2, .int (v2 + 1)), (0, .ref v0), (1, .int v1)]) hx hb dX1_init_127 hl (k := 2) rfl rfl (by decide) rfl (fun ls hl => ?_)
  refine lv_goto (tgt := 98) hx hb dX1_init_130 (by decide) ?_
  exact k.2 p e s m below meth c _ _ _ _ _ X I hn.1 hn.2 (lv_sub hl [1, 2, 0] rfl)
theorem v_X1_init {G : sG} {d : Nat} {vs0 : List Value} {σ0 : sS} {x : sL} {z : sZ Unit} {r : Unit × sS} (hs : S_X1_init x = some z) (k : s_K G (d + 1) M_X1_init vs0 σ0 Y_X1_init e_V z r) : s_V G (d + 1) M_X1_init vs0 σ0 Y_X1_init x (e_V r) := by
  obtain ⟨pc, vs, σ⟩ := x
  unfold S_X1_init at hs
  dsimp only at hs
  rcases s_ite hs with ⟨c, hs⟩ | ⟨-, hs⟩
  · subst c
    unfold U_X1_init_0 at hs
    obtain ⟨a0, g0, hs⟩ := s_bind hs
    obtain ⟨u9, ge, hs⟩ := s_bind hs
    rw [g_r_to g0, g_e_to ge]
    exact v_X1_init_0 hs k
  rcases s_ite hs with ⟨c, hs⟩ | ⟨-, hs⟩
  · subst c
    unfold U_X1_init_83 at hs
    obtain ⟨a0, g0, hs⟩ := s_bind hs
    obtain ⟨a1, g1, hs⟩ := s_bind hs
    obtain ⟨u9, ge, hs⟩ := s_bind hs
    rw [g_r_to g0, g_i_to g1, g_e_to ge]
    exact v_X1_init_83 hs k
  rcases s_ite hs with ⟨c, hs⟩ | ⟨-, hs⟩
  · subst c
    unfold U_X1_init_98 at hs
    obtain ⟨a0, g0, hs⟩ := s_bind hs
    obtain ⟨a1, g1, hs⟩ := s_bind hs
    obtain ⟨a2, g2, hs⟩ := s_bind hs
    obtain ⟨u9, ge, hs⟩ := s_bind hs
    rw [g_r_to g0, g_i_to g1, g_i_to g2, g_e_to ge]
    exact v_X1_init_98 hs k
  rcases s_ite hs with ⟨c, hs⟩ | ⟨-, hs⟩
  · subst c
    unfold U_X1_init_126 at hs
    obtain ⟨a0, g0, hs⟩ := s_bind hs
    obtain ⟨a1, g1, hs⟩ := s_bind hs
    obtain ⟨a2, g2, hs⟩ := s_bind hs
    obtain ⟨a3, g3, hs⟩ := s_bind hs
    obtain ⟨a4, g4, hs⟩ := s_bind hs
    obtain ⟨a5, g5, hs⟩ := s_bind hs
    obtain ⟨u9, ge, hs⟩ := s_bind hs
    rw [g_r_to g0, g_i_to g1, g_i_to g2, g_i_to g3, g_i_to g4, g_r_to g5, g_e_to ge]
    exact v_X1_init_126 hs k
  cases hs
theorem t_X1_init {G : sG} {d : Nat} {v0 : Nat} {σ : sS} {q : Unit × sS} (h : F_X1_init v0 σ = some q) : s_T G (d + 1) M_X1_init [.ref v0] σ (e_V q) := by
  unfold F_X1_init at h
  exact s_ofV rfl (by decide) (Nat.le_of_ble_eq_true rfl) rfl rfl (s_run_ind (V := fun x r => s_V G (d + 1) M_X1_init [.ref v0] σ Y_X1_init x (e_V r)) (fun x z r hs hk => v_X1_init hs (by cases z <;> exact hk)) h)
/-! X5_init -/
noncomputable def T_X5_init_0 (v0 : Nat) (v1 : Nat) (σ : sS) : Option (sZ Unit) :=
  (s_pf σ v0 5 1 (.int (-1))).bind fun σ1 =>
  (s_na σ1 2 400).bind fun σ2 =>
  (s_pf σ2 v0 5 3 (.ref σ1.2.1)).bind fun σ3 =>
  (s_pf σ3 v0 5 2 (.ref v1)).bind fun σ4 =>
  some (.inr ((), σ4))
noncomputable def U_X5_init_0 (vs : List Value) (σ : sS) : Option (sZ Unit) := (g_r vs).bind fun a0 => (g_r a0.2).bind fun a1 => (g_e a1.2).bind fun _ => T_X5_init_0 a0.1 a1.1 σ
noncomputable def S_X5_init (x : sL) : Option (sZ Unit) := if x.1 = 0 then U_X5_init_0 x.2.1 x.2.2 else none
def Y_X5_init (pc : Nat) : List Nat := if pc = 0 then [0, 1] else []
noncomputable def F_X5_init (v0 : Nat) (v1 : Nat) (σ : sS) : Option (Unit × sS) := s_run S_X5_init (0, [.ref v0, .ref v1], σ)
theorem l_X5_init_0 {v0 : Nat} {v1 : Nat} {σ : sS} {z : sZ Unit} (hf : T_X5_init_0 v0 v1 σ = some z) : s_lz σ z := by
  unfold T_X5_init_0 at hf
  obtain ⟨σ1, hh, hf⟩ := s_bind hf
  refine s_lz.tr (s_le2 (s_pf_2 hh)) ?_
  obtain ⟨σ2, hh, hf⟩ := s_bind hf
  refine s_lz.tr (s_na_le hh) ?_
  obtain ⟨σ3, hh, hf⟩ := s_bind hf
  refine s_lz.tr (s_le2 (s_pf_2 hh)) ?_
  obtain ⟨σ4, hh, hf⟩ := s_bind hf
  refine s_lz.tr (s_le2 (s_pf_2 hh)) ?_
  cases hf
  exact s_le.rf
theorem l_X5_init_s {x : sL} {z : sZ Unit} (hs : S_X5_init x = some z) : s_lz x.2.2 z := by
  obtain ⟨pc, vs, σ⟩ := x
  unfold S_X5_init at hs
  dsimp only at hs ⊢
  rcases s_ite hs with ⟨c, hs⟩ | ⟨-, hs⟩
  · subst c
    unfold U_X5_init_0 at hs
    obtain ⟨a0, g0, hs⟩ := s_bind hs
    obtain ⟨a1, g1, hs⟩ := s_bind hs
    obtain ⟨u9, ge, hs⟩ := s_bind hs
    exact l_X5_init_0 hs
  cases hs
theorem l_X5_init {v0 : Nat} {v1 : Nat} {σ : sS} {q : Unit × sS} (h : F_X5_init v0 v1 σ = some q) : s_le σ q.2 := by
  unfold F_X5_init at h
  exact s_run_ind (V := fun x r => s_le x.2.2 r.2) (fun x z r hs hk => by
    have h9 := l_X5_init_s hs
    cases z with
    | inl y => exact s_le.tr h9 hk
    | inr q => cases hk; exact h9) h
set_option maxRecDepth 100000 in
set_option maxHeartbeats 4000000 in
theorem v_X5_init_0 {G : sG} {d : Nat} {vs0 : List Value} {σ0 : sS} {v0 : Nat} {v1 : Nat} {σ : sS} {z : sZ Unit} {r : Unit × sS} (hf : T_X5_init_0 v0 v1 σ = some z) (k : s_K G (d + 1) M_X5_init vs0 σ0 Y_X5_init e_V z r) : s_V G (d + 1) M_X5_init vs0 σ0 Y_X5_init (0, [.ref v0, .ref v1], σ) (e_V r) := by
  have le0 : s_le σ (e_V r).2 := s_lek hem_V (l_X5_init_0 hf) k
  refine ⟨le0, ?_⟩
  intro p e s m below meth c H locs cells slots ls X I hn1 hn2 hl
  have hn : cells + σ0.2.1 ≤ σ.2.1 ∧ slots + σ0.2.2.1 ≤ σ.2.2.1 := ⟨hn1, hn2⟩
  have hl : lv_has ls 2 [(0, .ref v0), (1, .ref v1)] := hl
  have hx := X.1
  have hb : c.code = cX5_init := X.2.1
  have hown : s.vm.findClass RX5 = some m.cls := X.2.2.2.2.2.1
  have hts := X.2.2.2.2.2.2.1
  refine W.eq (g2 := F0 m 0 ls []) rfl ?_
  unfold T_X5_init_0 at hf
  obtain ⟨σ1, h1, hf⟩ := s_bind hf
  obtain ⟨σ2, h2, hf⟩ := s_bind hf
  obtain ⟨σ3, h3, hf⟩ := s_bind hf
  obtain ⟨σ4, h4, hf⟩ := s_bind hf
  cases hf
  have k : _ = r := k
  subst k
  have le5 : s_le σ4 σ4 := s_le.rf
  have le6 := s_le.tr (s_le2 (s_pf_2 h4)) le5
  have le7 := s_le.tr (s_le2 (s_pf_2 h3)) le6
  have le8 := s_le.tr (s_na_le h2) le7
  refine lv_aload_n hx hb dX5_init_0 rfl (lv_at hl 0 rfl) ?_
  refine r_objI X w_317 w_202 w_203 hl.1 (Nat.le_of_ble_eq_true rfl) dX5_init_1 ?_
  refine lv_aload_n hx hb dX5_init_4 rfl (lv_at hl 0 rfl) ?_
  refine lv_iconst (v := (-1)) hx hb dX5_init_5 (by decide) ?_
  refine r_put X I fp_X5_9 (fun h => by cases h) h1 rfl rfl dX5_init_6 (fun H locs I => ?_)
  have hn := s_k2 (s_pf_2 h1) hn
  refine lv_aload_n hx hb dX5_init_9 rfl (lv_at hl 0 rfl) ?_
  refine lv_sipush (v := 400) hx hb dX5_init_10 (by decide) ?_
  refine r_newa X I at_byte h2 hn le7 dX5_init_13 (fun H I => ?_)
  have hn := s_kna h2 hn
  refine r_put X I fp_X5_15 (fun _ => rfl) h3 rfl rfl dX5_init_15 (fun H locs I => ?_)
  have hn := s_k2 (s_pf_2 h3) hn
  refine lv_aload_n hx hb dX5_init_18 rfl (lv_at hl 0 rfl) ?_
  refine lv_aload_n hx hb dX5_init_19 rfl (lv_at hl 1 rfl) ?_
  refine r_put X I fp_X5_19 (fun _ => rfl) h4 rfl rfl dX5_init_20 (fun H locs I => ?_)
  have hn := s_k2 (s_pf_2 h4) hn
  exact r_vret X I rfl rfl hn dX5_init_23
theorem v_X5_init {G : sG} {d : Nat} {vs0 : List Value} {σ0 : sS} {x : sL} {z : sZ Unit} {r : Unit × sS} (hs : S_X5_init x = some z) (k : s_K G (d + 1) M_X5_init vs0 σ0 Y_X5_init e_V z r) : s_V G (d + 1) M_X5_init vs0 σ0 Y_X5_init x (e_V r) := by
  obtain ⟨pc, vs, σ⟩ := x
  unfold S_X5_init at hs
  dsimp only at hs
  rcases s_ite hs with ⟨c, hs⟩ | ⟨-, hs⟩
  · subst c
    unfold U_X5_init_0 at hs
    obtain ⟨a0, g0, hs⟩ := s_bind hs
    obtain ⟨a1, g1, hs⟩ := s_bind hs
    obtain ⟨u9, ge, hs⟩ := s_bind hs
    rw [g_r_to g0, g_r_to g1, g_e_to ge]
    exact v_X5_init_0 hs k
  cases hs
theorem t_X5_init {G : sG} {d : Nat} {v0 : Nat} {v1 : Nat} {σ : sS} {q : Unit × sS} (h : F_X5_init v0 v1 σ = some q) : s_T G (d + 1) M_X5_init [.ref v0, .ref v1] σ (e_V q) := by
  unfold F_X5_init at h
  exact s_ofV rfl (by decide) (Nat.le_of_ble_eq_true rfl) rfl rfl (s_run_ind (V := fun x r => s_V G (d + 1) M_X5_init [.ref v0, .ref v1] σ Y_X5_init x (e_V r)) (fun x z r hs hk => v_X5_init hs (by cases z <;> exact hk)) h)
