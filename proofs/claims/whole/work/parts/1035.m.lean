/-! X8_isAgainst -/
noncomputable def T_X8_isAgainst_0 (v0 : Nat) (v1 : Int32) (σ : sS) : Option (sZ Int32) :=
  some (.inl (4, [.ref v0, .int v1, .int 1, .int 0], σ))
noncomputable def U_X8_isAgainst_0 (vs : List Value) (σ : sS) : Option (sZ Int32) := (g_r vs).bind fun a0 => (g_i a0.2).bind fun a1 => (g_e a1.2).bind fun _ => T_X8_isAgainst_0 a0.1 a1.1 σ
noncomputable def T_X8_isAgainst_4 (v0 : Nat) (v1 : Int32) (v2 : Int32) (v3 : Int32) (σ : sS) : Option (sZ Int32) :=
  (F_X8_worldsMany v0 σ).bind fun q1 =>
  if q1.1 ≤ v3 then (if (v2 = 0 ∨ v2 = 1) then (some (.inr (v2, q1.2))) else none)
  else (if v2 = 0 then (if (v2 = 0 ∨ v2 = 1) then (some (.inr (v2, q1.2))) else none)
  else ((s_fr q1.2 v0 8 20).bind fun x2 =>
  (s_ai q1.2 x2 v3).bind fun x3 =>
  if (x3 &&& v1) = 0 then (some (.inl (32, [.ref v0, .int v1, .int v3, .int 0], q1.2)))
  else (some (.inl (32, [.ref v0, .int v1, .int v3, .int 1], q1.2)))))
noncomputable def U_X8_isAgainst_4 (vs : List Value) (σ : sS) : Option (sZ Int32) := (g_r vs).bind fun a0 => (g_i a0.2).bind fun a1 => (g_i a1.2).bind fun a2 => (g_i a2.2).bind fun a3 => (g_e a3.2).bind fun _ => T_X8_isAgainst_4 a0.1 a1.1 a2.1 a3.1 σ
noncomputable def T_X8_isAgainst_32 (v0 : Nat) (v1 : Int32) (v3 : Int32) (w0 : Int32) (σ : sS) : Option (sZ Int32) :=
  some (.inl (4, [.ref v0, .int v1, .int w0, .int (v3 + 1)], σ))
noncomputable def U_X8_isAgainst_32 (vs : List Value) (σ : sS) : Option (sZ Int32) := (g_r vs).bind fun a0 => (g_i a0.2).bind fun a1 => (g_i a1.2).bind fun a2 => (g_i a2.2).bind fun a3 => (g_e a3.2).bind fun _ => T_X8_isAgainst_32 a0.1 a1.1 a2.1 a3.1 σ
noncomputable def S_X8_isAgainst (x : sL) : Option (sZ Int32) := if x.1 = 0 then U_X8_isAgainst_0 x.2.1 x.2.2 else if x.1 = 4 then U_X8_isAgainst_4 x.2.1 x.2.2 else if x.1 = 32 then U_X8_isAgainst_32 x.2.1 x.2.2 else none
def Y_X8_isAgainst (pc : Nat) : List Nat := if pc = 0 then [0, 1] else if pc = 4 then [0, 1, 2, 3] else if pc = 32 then [0, 1, 3] else []
noncomputable def F_X8_isAgainst (v0 : Nat) (v1 : Int32) (σ : sS) : Option (Int32 × sS) := (s_is σ v0 8).bind fun _ => s_run S_X8_isAgainst (0, [.ref v0, .int v1], σ)
theorem l_X8_isAgainst_0 {v0 : Nat} {v1 : Int32} {σ : sS} {z : sZ Int32} (hf : T_X8_isAgainst_0 v0 v1 σ = some z) : s_lz σ z := by
  unfold T_X8_isAgainst_0 at hf
  cases hf
  exact s_le.rf
theorem l_X8_isAgainst_4 {v0 : Nat} {v1 : Int32} {v2 : Int32} {v3 : Int32} {σ : sS} {z : sZ Int32} (hf : T_X8_isAgainst_4 v0 v1 v2 v3 σ = some z) : s_lz σ z := by
  unfold T_X8_isAgainst_4 at hf
  obtain ⟨q1, hh, hf⟩ := s_bind hf
  refine s_lz.tr (l_X8_worldsMany hh) ?_
  rcases s_ite hf with ⟨-, hf⟩ | ⟨-, hf⟩
  · rcases s_ite hf with ⟨-, hf⟩ | ⟨-, hf⟩
    · cases hf
      exact s_le.rf
    · cases hf
  · rcases s_ite hf with ⟨-, hf⟩ | ⟨-, hf⟩
    · rcases s_ite hf with ⟨-, hf⟩ | ⟨-, hf⟩
      · cases hf
        exact s_le.rf
      · cases hf
    · obtain ⟨x2, -, hf⟩ := s_bind hf
      obtain ⟨x3, -, hf⟩ := s_bind hf
      rcases s_ite hf with ⟨-, hf⟩ | ⟨-, hf⟩
      · cases hf
        exact s_le.rf
      · cases hf
        exact s_le.rf
theorem l_X8_isAgainst_32 {v0 : Nat} {v1 : Int32} {v3 : Int32} {w0 : Int32} {σ : sS} {z : sZ Int32} (hf : T_X8_isAgainst_32 v0 v1 v3 w0 σ = some z) : s_lz σ z := by
  unfold T_X8_isAgainst_32 at hf
  cases hf
  exact s_le.rf
theorem l_X8_isAgainst_s {x : sL} {z : sZ Int32} (hs : S_X8_isAgainst x = some z) : s_lz x.2.2 z := by
  obtain ⟨pc, vs, σ⟩ := x
  unfold S_X8_isAgainst at hs
  dsimp only at hs ⊢
  rcases s_ite hs with ⟨c, hs⟩ | ⟨-, hs⟩
  · subst c
    unfold U_X8_isAgainst_0 at hs
    obtain ⟨a0, g0, hs⟩ := s_bind hs
    obtain ⟨a1, g1, hs⟩ := s_bind hs
    obtain ⟨u9, ge, hs⟩ := s_bind hs
    exact l_X8_isAgainst_0 hs
  rcases s_ite hs with ⟨c, hs⟩ | ⟨-, hs⟩
  · subst c
    unfold U_X8_isAgainst_4 at hs
    obtain ⟨a0, g0, hs⟩ := s_bind hs
    obtain ⟨a1, g1, hs⟩ := s_bind hs
    obtain ⟨a2, g2, hs⟩ := s_bind hs
    obtain ⟨a3, g3, hs⟩ := s_bind hs
    obtain ⟨u9, ge, hs⟩ := s_bind hs
    exact l_X8_isAgainst_4 hs
  rcases s_ite hs with ⟨c, hs⟩ | ⟨-, hs⟩
  · subst c
    unfold U_X8_isAgainst_32 at hs
    obtain ⟨a0, g0, hs⟩ := s_bind hs
    obtain ⟨a1, g1, hs⟩ := s_bind hs
    obtain ⟨a2, g2, hs⟩ := s_bind hs
    obtain ⟨a3, g3, hs⟩ := s_bind hs
    obtain ⟨u9, ge, hs⟩ := s_bind hs
    exact l_X8_isAgainst_32 hs
  cases hs
theorem l_X8_isAgainst {v0 : Nat} {v1 : Int32} {σ : sS} {q : Int32 × sS} (h : F_X8_isAgainst v0 v1 σ = some q) : s_le σ q.2 := by
  unfold F_X8_isAgainst at h
  obtain ⟨-, -, h⟩ := s_bind h
  exact s_run_ind (V := fun x r => s_le x.2.2 r.2) (fun x z r hs hk => by
    have h9 := l_X8_isAgainst_s hs
    cases z with
    | inl y => exact s_le.tr h9 hk
    | inr q => cases hk; exact h9) h
theorem b_X8_isAgainst {v0 : Nat} {v1 : Int32} {σ : sS} {q : Int32 × sS} (h : F_X8_isAgainst v0 v1 σ = some q) : ∃ fs, σ.1 v0 = some (.inr (8, fs)) := by
  unfold F_X8_isAgainst at h
  obtain ⟨u, hu, -⟩ := s_bind h
  exact s_is_to hu
set_option maxRecDepth 100000 in
set_option maxHeartbeats 4000000 in
theorem v_X8_isAgainst_0 {G : sG} {d : Nat} {vs0 : List Value} {σ0 : sS} {v0 : Nat} {v1 : Int32} {σ : sS} {z : sZ Int32} {r : Int32 × sS} (hf : T_X8_isAgainst_0 v0 v1 σ = some z) (k : s_K G (d + 3) M_X8_isAgainst vs0 σ0 Y_X8_isAgainst e_I z r) : s_V G (d + 3) M_X8_isAgainst vs0 σ0 Y_X8_isAgainst (0, [.ref v0, .int v1], σ) (e_I r) := by
  have le0 : s_le σ (e_I r).2 := s_lek hem_I (l_X8_isAgainst_0 hf) k
  refine ⟨le0, ?_⟩
  intro p e s m below meth c H locs cells slots ls X I hn1 hn2 hl
  have hn : cells + σ0.2.1 ≤ σ.2.1 ∧ slots + σ0.2.2.1 ≤ σ.2.2.1 := ⟨hn1, hn2⟩
  have hl : lv_has ls 4 [(0, .ref v0), (1, .int v1)] := hl
  have hx := X.1
  have hb : c.code = cX8_isAgainst := X.2.1
  have hown : s.vm.findClass RX8 = some m.cls := X.2.2.2.2.2.1
  have hts := X.2.2.2.2.2.2.1
  refine W.eq (g2 := F0 m 0 ls []) rfl ?_
  unfold T_X8_isAgainst_0 at hf
  cases hf
  have k : s_V G (d + 3) M_X8_isAgainst vs0 σ0 Y_X8_isAgainst (4, [.ref v0, .int v1, .int 1, .int 0], σ) (e_I r) := k
  refine lv_iconst (v := 1) hx hb dX8_isAgainst_0 (by decide) ?_
  refine lv_istore_n (lv' := [(2, .int 1), (0, .ref v0), (1, .int v1)]) hx hb dX8_isAgainst_1 rfl hl (by decide) rfl (fun ls hl => ?_)
  refine lv_iconst (v := 0) hx hb dX8_isAgainst_2 (by decide) ?_
  refine lv_istore_n (lv' := [(3, .int 0), (2, .int 1), (0, .ref v0), (1, .int v1)]) hx hb dX8_isAgainst_3 rfl hl (by decide) rfl (fun ls hl => ?_)
  exact k.2 p e s m below meth c _ _ _ _ _ X I hn.1 hn.2 (lv_sub hl [2, 3, 1, 0] rfl)
set_option maxRecDepth 100000 in
set_option maxHeartbeats 4000000 in
theorem v_X8_isAgainst_4 {G : sG} {d : Nat} {vs0 : List Value} {σ0 : sS} {v0 : Nat} {v1 : Int32} {v2 : Int32} {v3 : Int32} {σ : sS} {z : sZ Int32} {r : Int32 × sS} (hf : T_X8_isAgainst_4 v0 v1 v2 v3 σ = some z) (k : s_K G (d + 3) M_X8_isAgainst vs0 σ0 Y_X8_isAgainst e_I z r) : s_V G (d + 3) M_X8_isAgainst vs0 σ0 Y_X8_isAgainst (4, [.ref v0, .int v1, .int v2, .int v3], σ) (e_I r) := by
  have le0 : s_le σ (e_I r).2 := s_lek hem_I (l_X8_isAgainst_4 hf) k
  refine ⟨le0, ?_⟩
  intro p e s m below meth c H locs cells slots ls X I hn1 hn2 hl
  have hn : cells + σ0.2.1 ≤ σ.2.1 ∧ slots + σ0.2.2.1 ≤ σ.2.2.1 := ⟨hn1, hn2⟩
  have hl : lv_has ls 4 [(0, .ref v0), (1, .int v1), (2, .int v2), (3, .int v3)] := hl
  have hx := X.1
  have hb : c.code = cX8_isAgainst := X.2.1
  have hown : s.vm.findClass RX8 = some m.cls := X.2.2.2.2.2.1
  have hts := X.2.2.2.2.2.2.1
  refine W.eq (g2 := F0 m 4 ls []) rfl ?_
  unfold T_X8_isAgainst_4 at hf
  obtain ⟨q1, h1, hf⟩ := s_bind hf
  have le2 : s_le q1.2 (e_I r).2 := by
    refine s_lek hem_I ?_ k
    rcases s_ite hf with ⟨-, hf⟩ | ⟨-, hf⟩
    · rcases s_ite hf with ⟨-, hf⟩ | ⟨-, hf⟩
      · cases hf
        exact s_le.rf
      · cases hf
    · rcases s_ite hf with ⟨-, hf⟩ | ⟨-, hf⟩
      · rcases s_ite hf with ⟨-, hf⟩ | ⟨-, hf⟩
        · cases hf
          exact s_le.rf
        · cases hf
      · obtain ⟨x2, -, hf⟩ := s_bind hf
        obtain ⟨x3, -, hf⟩ := s_bind hf
        rcases s_ite hf with ⟨-, hf⟩ | ⟨-, hf⟩
        · cases hf
          exact s_le.rf
        · cases hf
          exact s_le.rf
  refine lv_iload_n hx hb dX8_isAgainst_4 rfl (lv_at hl 3 rfl) ?_
  refine lv_aload_n hx hb dX8_isAgainst_5 rfl (lv_at hl 0 rfl) ?_
  refine r_callV (Y := M_X8_worldsMany) (v := some (.int q1.1)) X I w_1943 my_X8_worldsMany (by omega) (t_X8_worldsMany (G := G) (d := d + 0) h1) (b_X8_worldsMany h1) rfl rfl hl.1 rfl (Nat.le_of_ble_eq_true rfl) hn le2 dX8_isAgainst_6 (fun H locs cells slots I hn1 hn2 => ?_)
  have I : s_I G q1.2 s H locs := I
  have hn : cells + σ0.2.1 ≤ q1.2.2.1 ∧ slots + σ0.2.2.1 ≤ q1.2.2.2.1 := ⟨hn1, hn2⟩
  rcases s_ite hf with ⟨c3, hf⟩ | ⟨c3, hf⟩
  · refine lv_icmp_ge (tgt := 39) hx hb dX8_isAgainst_9 (by decide) (fun _ => ?_) (fun n => absurd c3 n)
    refine lv_iload_n hx hb dX8_isAgainst_39 rfl (lv_at hl 2 rfl) ?_
    rcases s_ite hf with ⟨hchk, hf⟩ | ⟨-, hf⟩
    · cases hf
      have k : _ = r := k
      subst k
      exact r_iret X I rfl (s_nb hchk) rfl hn dX8_isAgainst_40
    · cases hf
  · refine lv_icmp_ge (tgt := 39) hx hb dX8_isAgainst_9 (by decide) (fun n => absurd n c3) (fun _ => ?_)
    refine lv_iload_n hx hb dX8_isAgainst_12 rfl (lv_at hl 2 rfl) ?_
    rcases s_ite hf with ⟨c4, hf⟩ | ⟨c4, hf⟩
    · refine lv_if_eq (tgt := 39) hx hb dX8_isAgainst_13 (by decide) (fun _ => ?_) (fun n => absurd c4 n)
      refine lv_iload_n hx hb dX8_isAgainst_39 rfl (lv_at hl 2 rfl) ?_
      rcases s_ite hf with ⟨hchk, hf⟩ | ⟨-, hf⟩
      · cases hf
        have k : _ = r := k
        subst k
        exact r_iret X I rfl (s_nb hchk) rfl hn dX8_isAgainst_40
      · cases hf
    · refine lv_if_eq (tgt := 39) hx hb dX8_isAgainst_13 (by decide) (fun n => absurd n c4) (fun _ => ?_)
      obtain ⟨x2, h5, hf⟩ := s_bind hf
      obtain ⟨x3, h6, hf⟩ := s_bind hf
      refine lv_aload_n hx hb dX8_isAgainst_16 rfl (lv_at hl 0 rfl) ?_
      refine r_gr X I fl_X8_50 h5 dX8_isAgainst_17 ?_
      refine lv_iload_n hx hb dX8_isAgainst_20 rfl (lv_at hl 3 rfl) ?_
      refine r_iald X I h6 dX8_isAgainst_21 ?_
      refine lv_iload_n hx hb dX8_isAgainst_22 rfl (lv_at hl 1 rfl) ?_
      refine lv_iand hx hb dX8_isAgainst_23 ?_
      rcases s_ite hf with ⟨c7, hf⟩ | ⟨c7, hf⟩
      · refine lv_if_eq (tgt := 31) hx hb dX8_isAgainst_24 (by decide) (fun _ => ?_) (fun n => absurd c7 n)
        cases hf
        have k : s_V G (d + 3) M_X8_isAgainst vs0 σ0 Y_X8_isAgainst (32, [.ref v0, .int v1, .int v3, .int 0], q1.2) (e_I r) := k
        refine lv_iconst (v := 0) hx hb dX8_isAgainst_31 (by decide) ?_
        exact k.2 p e s m below meth c _ _ _ _ _ X I hn.1 hn.2 (lv_sub hl [0, 1, 3] rfl)
      · refine lv_if_eq (tgt := 31) hx hb dX8_isAgainst_24 (by decide) (fun n => absurd n c7) (fun _ => ?_)
        cases hf
        have k : s_V G (d + 3) M_X8_isAgainst vs0 σ0 Y_X8_isAgainst (32, [.ref v0, .int v1, .int v3, .int 1], q1.2) (e_I r) := k
        refine lv_iconst (v := 1) hx hb dX8_isAgainst_27 (by decide) ?_
        refine lv_goto (tgt := 32) hx hb dX8_isAgainst_28 (by decide) ?_
        exact k.2 p e s m below meth c _ _ _ _ _ X I hn.1 hn.2 (lv_sub hl [0, 1, 3] rfl)
set_option maxRecDepth 100000 in
set_option maxHeartbeats 4000000 in
theorem v_X8_isAgainst_32 {G : sG} {d : Nat} {vs0 : List Value} {σ0 : sS} {v0 : Nat} {v1 : Int32} {v3 : Int32} {w0 : Int32} {σ : sS} {z : sZ Int32} {r : Int32 × sS} (hf : T_X8_isAgainst_32 v0 v1 v3 w0 σ = some z) (k : s_K G (d + 3) M_X8_isAgainst vs0 σ0 Y_X8_isAgainst e_I z r) : s_V G (d + 3) M_X8_isAgainst vs0 σ0 Y_X8_isAgainst (32, [.ref v0, .int v1, .int v3, .int w0], σ) (e_I r) := by
  have le0 : s_le σ (e_I r).2 := s_lek hem_I (l_X8_isAgainst_32 hf) k
  refine ⟨le0, ?_⟩
  intro p e s m below meth c H locs cells slots ls X I hn1 hn2 hl
  have hn : cells + σ0.2.1 ≤ σ.2.1 ∧ slots + σ0.2.2.1 ≤ σ.2.2.1 := ⟨hn1, hn2⟩
  have hl : lv_has ls 4 [(0, .ref v0), (1, .int v1), (3, .int v3)] := hl
  have hx := X.1
  have hb : c.code = cX8_isAgainst := X.2.1
  have hown : s.vm.findClass RX8 = some m.cls := X.2.2.2.2.2.1
  have hts := X.2.2.2.2.2.2.1
  refine W.eq (g2 := F0 m 32 ls [.int w0]) rfl ?_
  unfold T_X8_isAgainst_32 at hf
  cases hf
  have k : s_V G (d + 3) M_X8_isAgainst vs0 σ0 Y_X8_isAgainst (4, [.ref v0, .int v1, .int w0, .int (v3 + 1)], σ) (e_I r) := k
  refine lv_istore_n (lv' := [(2, .int w0), (0, .ref v0), (1, .int v1), (3, .int v3)]) hx hb dX8_isAgainst_32 rfl hl (by decide) rfl (fun ls hl => ?_)
  refine lv_iinc (v := (v3 + 1)) (lv' := [(3, .int (v3 + 1)), (2, .int w0), (0, .ref v0), (1, .int v1)]) hx hb dX8_isAgainst_33 hl (k := 3) rfl rfl (by decide) rfl (fun ls hl => ?_)
  refine lv_goto (tgt := 4) hx hb dX8_isAgainst_36 (by decide) ?_
  exact k.2 p e s m below meth c _ _ _ _ _ X I hn.1 hn.2 (lv_sub hl [2, 3, 1, 0] rfl)
theorem v_X8_isAgainst {G : sG} {d : Nat} {vs0 : List Value} {σ0 : sS} {x : sL} {z : sZ Int32} {r : Int32 × sS} (hs : S_X8_isAgainst x = some z) (k : s_K G (d + 3) M_X8_isAgainst vs0 σ0 Y_X8_isAgainst e_I z r) : s_V G (d + 3) M_X8_isAgainst vs0 σ0 Y_X8_isAgainst x (e_I r) := by
  obtain ⟨pc, vs, σ⟩ := x
  unfold S_X8_isAgainst at hs
  dsimp only at hs
  rcases s_ite hs with ⟨c, hs⟩ | ⟨-, hs⟩
  · subst c
    unfold U_X8_isAgainst_0 at hs
    obtain ⟨a0, g0, hs⟩ := s_bind hs
    obtain ⟨a1, g1, hs⟩ := s_bind hs
    obtain ⟨u9, ge, hs⟩ := s_bind hs
    rw [g_r_to g0, g_i_to g1, g_e_to ge]
    exact v_X8_isAgainst_0 hs k
  rcases s_ite hs with ⟨c, hs⟩ | ⟨-, hs⟩
  · subst c
    unfold U_X8_isAgainst_4 at hs
    obtain ⟨a0, g0, hs⟩ := s_bind hs
    obtain ⟨a1, g1, hs⟩ := s_bind hs
    obtain ⟨a2, g2, hs⟩ := s_bind hs
    obtain ⟨a3, g3, hs⟩ := s_bind hs
    obtain ⟨u9, ge, hs⟩ := s_bind hs
    rw [g_r_to g0, g_i_to g1, g_i_to g2, g_i_to g3, g_e_to ge]
    exact v_X8_isAgainst_4 hs k
  rcases s_ite hs with ⟨c, hs⟩ | ⟨-, hs⟩
  · subst c
    unfold U_X8_isAgainst_32 at hs
    obtain ⟨a0, g0, hs⟩ := s_bind hs
    obtain ⟨a1, g1, hs⟩ := s_bind hs
    obtain ⟨a2, g2, hs⟩ := s_bind hs
    obtain ⟨a3, g3, hs⟩ := s_bind hs
    obtain ⟨u9, ge, hs⟩ := s_bind hs
    rw [g_r_to g0, g_i_to g1, g_i_to g2, g_i_to g3, g_e_to ge]
    exact v_X8_isAgainst_32 hs k
  cases hs
theorem t_X8_isAgainst {G : sG} {d : Nat} {v0 : Nat} {v1 : Int32} {σ : sS} {q : Int32 × sS} (h : F_X8_isAgainst v0 v1 σ = some q) : s_T G (d + 3) M_X8_isAgainst [.ref v0, .int v1] σ (e_I q) := by
  unfold F_X8_isAgainst at h
  obtain ⟨-, -, h⟩ := s_bind h
  exact s_ofV rfl (by decide) (Nat.le_of_ble_eq_true rfl) rfl rfl (s_run_ind (V := fun x r => s_V G (d + 3) M_X8_isAgainst [.ref v0, .int v1] σ Y_X8_isAgainst x (e_I r)) (fun x z r hs hk => v_X8_isAgainst hs (by cases z <;> exact hk)) h)
/-! X8_core -/
noncomputable def T_X8_core_0 (v0 : Nat) (v1 : Int32) (σ : sS) : Option (sZ Int32) :=
  (s_pf σ v0 8 0 (.int 0)).bind fun σ1 =>
  (F_X8_fails v0 v1 σ1).bind fun q2 =>
  (F_J6_bitCount_0f7a4 q2.1 q2.2).bind fun q3 =>
  if q3.1 ≤ 14 then (some (.inl (26, [.ref v0, .int q2.1, .int 0, .ref v0], q3.2)))
  else (some (.inl (26, [.ref v0, .int q2.1, .int 1, .ref v0], q3.2)))
noncomputable def U_X8_core_0 (vs : List Value) (σ : sS) : Option (sZ Int32) := (g_r vs).bind fun a0 => (g_i a0.2).bind fun a1 => (g_e a1.2).bind fun _ => T_X8_core_0 a0.1 a1.1 σ
noncomputable def T_X8_core_26 (v0 : Nat) (v2 : Int32) (w0 : Int32) (w1 : Nat) (σ : sS) : Option (sZ Int32) :=
  (F_X8_throwsIf w1 w0 1 σ).bind fun q1 =>
  if q1.1 = 0 then ((F_X8_isAgainst v0 v2 q1.2).bind fun q2 =>
  if q2.1 = 0 then (some (.inr (0, q2.2)))
  else (some (.inl (48, [.ref v0, .int v2, .int v2, .int v2], q2.2))))
  else (some (.inr (0, q1.2)))
noncomputable def U_X8_core_26 (vs : List Value) (σ : sS) : Option (sZ Int32) := (g_r vs).bind fun a0 => (g_i a0.2).bind fun a1 => (g_i a1.2).bind fun a2 => (g_r a2.2).bind fun a3 => (g_e a3.2).bind fun _ => T_X8_core_26 a0.1 a1.1 a2.1 a3.1 σ
noncomputable def T_X8_core_48 (v0 : Nat) (v2 : Int32) (v3 : Int32) (v4 : Int32) (σ : sS) : Option (sZ Int32) :=
  if v4 ≤ 0 then (some (.inr (v3, σ)))
  else ((F_X8_isFewer v4 v3 σ).bind fun q1 =>
  if q1.1 = 0 then (some (.inl (76, [.ref v0, .int v2, .int v3, .int v4], q1.2)))
  else ((F_X8_isAgainst v0 v4 q1.2).bind fun q2 =>
  if q2.1 = 0 then (some (.inl (76, [.ref v0, .int v2, .int v3, .int v4], q2.2)))
  else (some (.inl (77, [.ref v0, .int v2, .int v4, .int v4], q2.2)))))
noncomputable def U_X8_core_48 (vs : List Value) (σ : sS) : Option (sZ Int32) := (g_r vs).bind fun a0 => (g_i a0.2).bind fun a1 => (g_i a1.2).bind fun a2 => (g_i a2.2).bind fun a3 => (g_e a3.2).bind fun _ => T_X8_core_48 a0.1 a1.1 a2.1 a3.1 σ
noncomputable def T_X8_core_76 (v0 : Nat) (v2 : Int32) (v3 : Int32) (v4 : Int32) (σ : sS) : Option (sZ Int32) :=
  some (.inl (77, [.ref v0, .int v2, .int v4, .int v3], σ))
noncomputable def U_X8_core_76 (vs : List Value) (σ : sS) : Option (sZ Int32) := (g_r vs).bind fun a0 => (g_i a0.2).bind fun a1 => (g_i a1.2).bind fun a2 => (g_i a2.2).bind fun a3 => (g_e a3.2).bind fun _ => T_X8_core_76 a0.1 a1.1 a2.1 a3.1 σ
noncomputable def T_X8_core_77 (v0 : Nat) (v2 : Int32) (v4 : Int32) (w0 : Int32) (σ : sS) : Option (sZ Int32) :=
  some (.inl (48, [.ref v0, .int v2, .int w0, .int ((v4 - 1) &&& v2)], σ))
noncomputable def U_X8_core_77 (vs : List Value) (σ : sS) : Option (sZ Int32) := (g_r vs).bind fun a0 => (g_i a0.2).bind fun a1 => (g_i a1.2).bind fun a2 => (g_i a2.2).bind fun a3 => (g_e a3.2).bind fun _ => T_X8_core_77 a0.1 a1.1 a2.1 a3.1 σ
noncomputable def S_X8_core (x : sL) : Option (sZ Int32) := if x.1 = 0 then U_X8_core_0 x.2.1 x.2.2 else if x.1 = 26 then U_X8_core_26 x.2.1 x.2.2 else if x.1 = 48 then U_X8_core_48 x.2.1 x.2.2 else if x.1 = 76 then U_X8_core_76 x.2.1 x.2.2 else if x.1 = 77 then U_X8_core_77 x.2.1 x.2.2 else none
def Y_X8_core (pc : Nat) : List Nat := if pc = 0 then [0, 1] else if pc = 26 then [0, 2] else if pc = 48 then [0, 2, 3, 4] else if pc = 76 then [0, 2, 3, 4] else if pc = 77 then [0, 2, 4] else []
noncomputable def F_X8_core (v0 : Nat) (v1 : Int32) (σ : sS) : Option (Int32 × sS) := (s_is σ v0 8).bind fun _ => s_run S_X8_core (0, [.ref v0, .int v1], σ)
theorem l_X8_core_0 {v0 : Nat} {v1 : Int32} {σ : sS} {z : sZ Int32} (hf : T_X8_core_0 v0 v1 σ = some z) : s_lz σ z := by
  unfold T_X8_core_0 at hf
  obtain ⟨σ1, hh, hf⟩ := s_bind hf
  refine s_lz.tr (s_le2 (s_pf_2 hh)) ?_
  obtain ⟨q2, hh, hf⟩ := s_bind hf
  refine s_lz.tr (l_X8_fails hh) ?_
  obtain ⟨q3, hh, hf⟩ := s_bind hf
  refine s_lz.tr (l_J6_bitCount_0f7a4 hh) ?_
  rcases s_ite hf with ⟨-, hf⟩ | ⟨-, hf⟩
  · cases hf
    exact s_le.rf
  · cases hf
    exact s_le.rf
theorem l_X8_core_26 {v0 : Nat} {v2 : Int32} {w0 : Int32} {w1 : Nat} {σ : sS} {z : sZ Int32} (hf : T_X8_core_26 v0 v2 w0 w1 σ = some z) : s_lz σ z := by
  unfold T_X8_core_26 at hf
  obtain ⟨q1, hh, hf⟩ := s_bind hf
  refine s_lz.tr (l_X8_throwsIf hh) ?_
  rcases s_ite hf with ⟨-, hf⟩ | ⟨-, hf⟩
  · obtain ⟨q2, hh, hf⟩ := s_bind hf
    refine s_lz.tr (l_X8_isAgainst hh) ?_
    rcases s_ite hf with ⟨-, hf⟩ | ⟨-, hf⟩
    · cases hf
      exact s_le.rf
    · cases hf
      exact s_le.rf
  · cases hf
    exact s_le.rf
theorem l_X8_core_48 {v0 : Nat} {v2 : Int32} {v3 : Int32} {v4 : Int32} {σ : sS} {z : sZ Int32} (hf : T_X8_core_48 v0 v2 v3 v4 σ = some z) : s_lz σ z := by
  unfold T_X8_core_48 at hf
  rcases s_ite hf with ⟨-, hf⟩ | ⟨-, hf⟩
  · cases hf
    exact s_le.rf
  · obtain ⟨q1, hh, hf⟩ := s_bind hf
    refine s_lz.tr (l_X8_isFewer hh) ?_
    rcases s_ite hf with ⟨-, hf⟩ | ⟨-, hf⟩
    · cases hf
      exact s_le.rf
    · obtain ⟨q2, hh, hf⟩ := s_bind hf
      refine s_lz.tr (l_X8_isAgainst hh) ?_
      rcases s_ite hf with ⟨-, hf⟩ | ⟨-, hf⟩
      · cases hf
        exact s_le.rf
      · cases hf
        exact s_le.rf
theorem l_X8_core_76 {v0 : Nat} {v2 : Int32} {v3 : Int32} {v4 : Int32} {σ : sS} {z : sZ Int32} (hf : T_X8_core_76 v0 v2 v3 v4 σ = some z) : s_lz σ z := by
  unfold T_X8_core_76 at hf
  cases hf
  exact s_le.rf
theorem l_X8_core_77 {v0 : Nat} {v2 : Int32} {v4 : Int32} {w0 : Int32} {σ : sS} {z : sZ Int32} (hf : T_X8_core_77 v0 v2 v4 w0 σ = some z) : s_lz σ z := by
  unfold T_X8_core_77 at hf
  cases hf
  exact s_le.rf
theorem l_X8_core_s {x : sL} {z : sZ Int32} (hs : S_X8_core x = some z) : s_lz x.2.2 z := by
  obtain ⟨pc, vs, σ⟩ := x
  unfold S_X8_core at hs
  dsimp only at hs ⊢
  rcases s_ite hs with ⟨c, hs⟩ | ⟨-, hs⟩
  · subst c
    unfold U_X8_core_0 at hs
    obtain ⟨a0, g0, hs⟩ := s_bind hs
    obtain ⟨a1, g1, hs⟩ := s_bind hs
    obtain ⟨u9, ge, hs⟩ := s_bind hs
    exact l_X8_core_0 hs
  rcases s_ite hs with ⟨c, hs⟩ | ⟨-, hs⟩
  · subst c
    unfold U_X8_core_26 at hs
    obtain ⟨a0, g0, hs⟩ := s_bind hs
    obtain ⟨a1, g1, hs⟩ := s_bind hs
    obtain ⟨a2, g2, hs⟩ := s_bind hs
    obtain ⟨a3, g3, hs⟩ := s_bind hs
    obtain ⟨u9, ge, hs⟩ := s_bind hs
    exact l_X8_core_26 hs
  rcases s_ite hs with ⟨c, hs⟩ | ⟨-, hs⟩
  · subst c
    unfold U_X8_core_48 at hs
    obtain ⟨a0, g0, hs⟩ := s_bind hs
    obtain ⟨a1, g1, hs⟩ := s_bind hs
    obtain ⟨a2, g2, hs⟩ := s_bind hs
    obtain ⟨a3, g3, hs⟩ := s_bind hs
    obtain ⟨u9, ge, hs⟩ := s_bind hs
    exact l_X8_core_48 hs
  rcases s_ite hs with ⟨c, hs⟩ | ⟨-, hs⟩
  · subst c
    unfold U_X8_core_76 at hs
    obtain ⟨a0, g0, hs⟩ := s_bind hs
    obtain ⟨a1, g1, hs⟩ := s_bind hs
    obtain ⟨a2, g2, hs⟩ := s_bind hs
    obtain ⟨a3, g3, hs⟩ := s_bind hs
    obtain ⟨u9, ge, hs⟩ := s_bind hs
    exact l_X8_core_76 hs
  rcases s_ite hs with ⟨c, hs⟩ | ⟨-, hs⟩
  · subst c
    unfold U_X8_core_77 at hs
    obtain ⟨a0, g0, hs⟩ := s_bind hs
    obtain ⟨a1, g1, hs⟩ := s_bind hs
    obtain ⟨a2, g2, hs⟩ := s_bind hs
    obtain ⟨a3, g3, hs⟩ := s_bind hs
    obtain ⟨u9, ge, hs⟩ := s_bind hs
    exact l_X8_core_77 hs
  cases hs
theorem l_X8_core {v0 : Nat} {v1 : Int32} {σ : sS} {q : Int32 × sS} (h : F_X8_core v0 v1 σ = some q) : s_le σ q.2 := by
  unfold F_X8_core at h
  obtain ⟨-, -, h⟩ := s_bind h
  exact s_run_ind (V := fun x r => s_le x.2.2 r.2) (fun x z r hs hk => by
    have h9 := l_X8_core_s hs
    cases z with
    | inl y => exact s_le.tr h9 hk
    | inr q => cases hk; exact h9) h
theorem b_X8_core {v0 : Nat} {v1 : Int32} {σ : sS} {q : Int32 × sS} (h : F_X8_core v0 v1 σ = some q) : ∃ fs, σ.1 v0 = some (.inr (8, fs)) := by
  unfold F_X8_core at h
  obtain ⟨u, hu, -⟩ := s_bind h
  exact s_is_to hu
set_option maxRecDepth 100000 in
set_option maxHeartbeats 4000000 in
theorem v_X8_core_0 {G : sG} {d : Nat} {vs0 : List Value} {σ0 : sS} {v0 : Nat} {v1 : Int32} {σ : sS} {z : sZ Int32} {r : Int32 × sS} (hf : T_X8_core_0 v0 v1 σ = some z) (k : s_K G (d + 5) M_X8_core vs0 σ0 Y_X8_core e_I z r) : s_V G (d + 5) M_X8_core vs0 σ0 Y_X8_core (0, [.ref v0, .int v1], σ) (e_I r) := by
  have le0 : s_le σ (e_I r).2 := s_lek hem_I (l_X8_core_0 hf) k
  refine ⟨le0, ?_⟩
  intro p e s m below meth c H locs cells slots ls X I hn1 hn2 hl
  have hn : cells + σ0.2.1 ≤ σ.2.1 ∧ slots + σ0.2.2.1 ≤ σ.2.2.1 := ⟨hn1, hn2⟩
  have hl : lv_has ls 5 [(0, .ref v0), (1, .int v1)] := hl
  have hx := X.1
  have hb : c.code = cX8_core := X.2.1
  have hown : s.vm.findClass RX8 = some m.cls := X.2.2.2.2.2.1
  have hts := X.2.2.2.2.2.2.1
  refine W.eq (g2 := F0 m 0 ls []) rfl ?_
  unfold T_X8_core_0 at hf
  obtain ⟨σ1, h1, hf⟩ := s_bind hf
  obtain ⟨q2, h2, hf⟩ := s_bind hf
  obtain ⟨q3, h3, hf⟩ := s_bind hf
  have le4 : s_le q3.2 (e_I r).2 := by
    refine s_lek hem_I ?_ k
    rcases s_ite hf with ⟨-, hf⟩ | ⟨-, hf⟩
    · cases hf
      exact s_le.rf
    · cases hf
      exact s_le.rf
  have le5 := s_le.tr (l_J6_bitCount_0f7a4 h3) le4
  have le6 := s_le.tr (l_X8_fails h2) le5
  refine lv_aload_n hx hb dX8_core_0 rfl (lv_at hl 0 rfl) ?_
  refine lv_iconst (v := 0) hx hb dX8_core_1 (by decide) ?_
  refine r_put X I fp_X8_3 (fun h => by cases h) h1 rfl rfl dX8_core_2 (fun H locs I => ?_)
  have hn := s_k2 (s_pf_2 h1) hn
  refine lv_aload_n hx hb dX8_core_5 rfl (lv_at hl 0 rfl) ?_
  refine lv_iload_n hx hb dX8_core_6 rfl (lv_at hl 1 rfl) ?_
  refine r_callV (Y := M_X8_fails) (v := some (.int q2.1)) X I w_2164 my_X8_fails (by omega) (t_X8_fails (G := G) (d := d + 0) h2) (b_X8_fails h2) rfl rfl hl.1 rfl (Nat.le_of_ble_eq_true rfl) hn le5 dX8_core_7 (fun H locs cells slots I hn1 hn2 => ?_)
  have I : s_I G q2.2 s H locs := I
  have hn : cells + σ0.2.1 ≤ q2.2.2.1 ∧ slots + σ0.2.2.1 ≤ q2.2.2.2.1 := ⟨hn1, hn2⟩
  refine lv_istore_n (lv' := [(2, .int q2.1), (0, .ref v0), (1, .int v1)]) hx hb dX8_core_10 rfl hl (by decide) rfl (fun ls hl => ?_)
  refine lv_aload_n hx hb dX8_core_11 rfl (lv_at hl 1 rfl) ?_
  refine lv_iload_n hx hb dX8_core_12 rfl (lv_at hl 0 rfl) ?_
  refine r_callS (Y := M_J6_bitCount_0f7a4) (v := some (.int q3.1)) X I w_2168 my_J6_bitCount_0f7a4 (by omega) (t_J6_bitCount_0f7a4 (G := G) (d := d + 3) h3) rfl rfl hl.1 rfl (Nat.le_of_ble_eq_true rfl) hn le4 dX8_core_13 (fun H locs cells slots I hn1 hn2 => ?_)
  have I : s_I G q3.2 s H locs := I
  have hn : cells + σ0.2.1 ≤ q3.2.2.1 ∧ slots + σ0.2.2.1 ≤ q3.2.2.2.1 := ⟨hn1, hn2⟩
  refine lv_bipush (v := 14) hx hb dX8_core_16 (by decide) ?_
  rcases s_ite hf with ⟨c7, hf⟩ | ⟨c7, hf⟩
  · refine lv_icmp_le (tgt := 25) hx hb dX8_core_18 (by decide) (fun _ => ?_) (fun n => absurd c7 n)
    cases hf
    have k : s_V G (d + 5) M_X8_core vs0 σ0 Y_X8_core (26, [.ref v0, .int q2.1, .int 0, .ref v0], q3.2) (e_I r) := k
    refine lv_iconst (v := 0) hx hb dX8_core_25 (by decide) ?_
    exact k.2 p e s m below meth c _ _ _ _ _ X I hn.1 hn.2 (lv_sub hl [1, 0] rfl)
  · refine lv_icmp_le (tgt := 25) hx hb dX8_core_18 (by decide) (fun n => absurd n c7) (fun _ => ?_)
    cases hf
    have k : s_V G (d + 5) M_X8_core vs0 σ0 Y_X8_core (26, [.ref v0, .int q2.1, .int 1, .ref v0], q3.2) (e_I r) := k
    refine lv_iconst (v := 1) hx hb dX8_core_21 (by decide) ?_
    refine lv_goto (tgt := 26) hx hb dX8_core_22 (by decide) ?_
    exact k.2 p e s m below meth c _ _ _ _ _ X I hn.1 hn.2 (lv_sub hl [1, 0] rfl)
set_option maxRecDepth 100000 in
set_option maxHeartbeats 4000000 in
theorem v_X8_core_26 {G : sG} {d : Nat} {vs0 : List Value} {σ0 : sS} {v0 : Nat} {v2 : Int32} {w0 : Int32} {w1 : Nat} {σ : sS} {z : sZ Int32} {r : Int32 × sS} (hf : T_X8_core_26 v0 v2 w0 w1 σ = some z) (k : s_K G (d + 5) M_X8_core vs0 σ0 Y_X8_core e_I z r) : s_V G (d + 5) M_X8_core vs0 σ0 Y_X8_core (26, [.ref v0, .int v2, .int w0, .ref w1], σ) (e_I r) := by
  have le0 : s_le σ (e_I r).2 := s_lek hem_I (l_X8_core_26 hf) k
  refine ⟨le0, ?_⟩
  intro p e s m below meth c H locs cells slots ls X I hn1 hn2 hl
  have hn : cells + σ0.2.1 ≤ σ.2.1 ∧ slots + σ0.2.2.1 ≤ σ.2.2.1 := ⟨hn1, hn2⟩
  have hl : lv_has ls 5 [(0, .ref v0), (2, .int v2)] := hl
  have hx := X.1
  have hb : c.code = cX8_core := X.2.1
  have hown : s.vm.findClass RX8 = some m.cls := X.2.2.2.2.2.1
  have hts := X.2.2.2.2.2.2.1
  refine W.eq (g2 := F0 m 26 ls [.int w0, .ref w1]) rfl ?_
  unfold T_X8_core_26 at hf
  obtain ⟨q1, h1, hf⟩ := s_bind hf
  have le2 : s_le q1.2 (e_I r).2 := by
    refine s_lek hem_I ?_ k
    rcases s_ite hf with ⟨-, hf⟩ | ⟨-, hf⟩
    · obtain ⟨q2, hh, hf⟩ := s_bind hf
      refine s_lz.tr (l_X8_isAgainst hh) ?_
      rcases s_ite hf with ⟨-, hf⟩ | ⟨-, hf⟩
      · cases hf
        exact s_le.rf
      · cases hf
        exact s_le.rf
    · cases hf
      exact s_le.rf
  refine lv_iconst (v := 1) hx hb dX8_core_26 (by decide) ?_
  refine r_callV (Y := M_X8_throwsIf) (v := some (.int q1.1)) X I w_1897 my_X8_throwsIf (by omega) (t_X8_throwsIf (G := G) (d := d + 3) h1) (b_X8_throwsIf h1) rfl rfl hl.1 rfl (Nat.le_of_ble_eq_true rfl) hn le2 dX8_core_27 (fun H locs cells slots I hn1 hn2 => ?_)
  have I : s_I G q1.2 s H locs := I
  have hn : cells + σ0.2.1 ≤ q1.2.2.1 ∧ slots + σ0.2.2.1 ≤ q1.2.2.2.1 := ⟨hn1, hn2⟩
  rcases s_ite hf with ⟨c3, hf⟩ | ⟨c3, hf⟩
  · refine lv_if_ne (tgt := 41) hx hb dX8_core_30 (by decide) (fun n => absurd c3 n) (fun _ => ?_)
    obtain ⟨q2, h4, hf⟩ := s_bind hf
    have le5 : s_le q2.2 (e_I r).2 := by
      refine s_lek hem_I ?_ k
      rcases s_ite hf with ⟨-, hf⟩ | ⟨-, hf⟩
      · cases hf
        exact s_le.rf
      · cases hf
        exact s_le.rf
    refine lv_aload_n hx hb dX8_core_33 rfl (lv_at hl 0 rfl) ?_
    refine lv_iload_n hx hb dX8_core_34 rfl (lv_at hl 1 rfl) ?_
    refine r_callV (Y := M_X8_isAgainst) (v := some (.int q2.1)) X I w_2176 my_X8_isAgainst (by omega) (t_X8_isAgainst (G := G) (d := d + 1) h4) (b_X8_isAgainst h4) rfl rfl hl.1 rfl (Nat.le_of_ble_eq_true rfl) hn le5 dX8_core_35 (fun H locs cells slots I hn1 hn2 => ?_)
    have I : s_I G q2.2 s H locs := I
    have hn : cells + σ0.2.1 ≤ q2.2.2.1 ∧ slots + σ0.2.2.1 ≤ q2.2.2.2.1 := ⟨hn1, hn2⟩
    rcases s_ite hf with ⟨c6, hf⟩ | ⟨c6, hf⟩
    · refine lv_if_ne (tgt := 43) hx hb dX8_core_38 (by decide) (fun n => absurd c6 n) (fun _ => ?_)
      cases hf
      have k : _ = r := k
      subst k
      refine lv_iconst (v := 0) hx hb dX8_core_41 (by decide) ?_
      exact r_iret X I rfl rfl rfl hn dX8_core_42
    · refine lv_if_ne (tgt := 43) hx hb dX8_core_38 (by decide) (fun _ => ?_) (fun n => absurd n c6)
      cases hf
      have k : s_V G (d + 5) M_X8_core vs0 σ0 Y_X8_core (48, [.ref v0, .int v2, .int v2, .int v2], q2.2) (e_I r) := k
      refine lv_iload_n hx hb dX8_core_43 rfl (lv_at hl 1 rfl) ?_
      refine lv_istore_n (lv' := [(3, .int v2), (0, .ref v0), (2, .int v2)]) hx hb dX8_core_44 rfl hl (by decide) rfl (fun ls hl => ?_)
      refine lv_iload_n hx hb dX8_core_45 rfl (lv_at hl 2 rfl) ?_
      refine lv_istore (lv' := [(4, .int v2), (3, .int v2), (0, .ref v0), (2, .int v2)]) hx hb dX8_core_46 hl (by decide) rfl (fun ls hl => ?_)
      exact k.2 p e s m below meth c _ _ _ _ _ X I hn.1 hn.2 (lv_sub hl [2, 3, 1, 0] rfl)
  · refine lv_if_ne (tgt := 41) hx hb dX8_core_30 (by decide) (fun _ => ?_) (fun n => absurd n c3)
    cases hf
    have k : _ = r := k
    subst k
    refine lv_iconst (v := 0) hx hb dX8_core_41 (by decide) ?_
    exact r_iret X I rfl rfl rfl hn dX8_core_42
set_option maxRecDepth 100000 in
set_option maxHeartbeats 4000000 in
theorem v_X8_core_48 {G : sG} {d : Nat} {vs0 : List Value} {σ0 : sS} {v0 : Nat} {v2 : Int32} {v3 : Int32} {v4 : Int32} {σ : sS} {z : sZ Int32} {r : Int32 × sS} (hf : T_X8_core_48 v0 v2 v3 v4 σ = some z) (k : s_K G (d + 5) M_X8_core vs0 σ0 Y_X8_core e_I z r) : s_V G (d + 5) M_X8_core vs0 σ0 Y_X8_core (48, [.ref v0, .int v2, .int v3, .int v4], σ) (e_I r) := by
  have le0 : s_le σ (e_I r).2 := s_lek hem_I (l_X8_core_48 hf) k
  refine ⟨le0, ?_⟩
  intro p e s m below meth c H locs cells slots ls X I hn1 hn2 hl
  have hn : cells + σ0.2.1 ≤ σ.2.1 ∧ slots + σ0.2.2.1 ≤ σ.2.2.1 := ⟨hn1, hn2⟩
  have hl : lv_has ls 5 [(0, .ref v0), (2, .int v2), (3, .int v3), (4, .int v4)] := hl
  have hx := X.1
  have hb : c.code = cX8_core := X.2.1
  have hown : s.vm.findClass RX8 = some m.cls := X.2.2.2.2.2.1
  have hts := X.2.2.2.2.2.2.1
  refine W.eq (g2 := F0 m 48 ls []) rfl ?_
  unfold T_X8_core_48 at hf
  refine lv_iload hx hb dX8_core_48 (lv_at hl 3 rfl) ?_
  rcases s_ite hf with ⟨c1, hf⟩ | ⟨c1, hf⟩
  · refine lv_if_le (tgt := 89) hx hb dX8_core_50 (by decide) (fun _ => ?_) (fun n => absurd c1 n)
    cases hf
    have k : _ = r := k
    subst k
    refine lv_iload_n hx hb dX8_core_89 rfl (lv_at hl 2 rfl) ?_
    exact r_iret X I rfl rfl rfl hn dX8_core_90
  · refine lv_if_le (tgt := 89) hx hb dX8_core_50 (by decide) (fun n => absurd n c1) (fun _ => ?_)
    obtain ⟨q1, h2, hf⟩ := s_bind hf
    have le3 : s_le q1.2 (e_I r).2 := by
      refine s_lek hem_I ?_ k
      rcases s_ite hf with ⟨-, hf⟩ | ⟨-, hf⟩
      · cases hf
        exact s_le.rf
      · obtain ⟨q2, hh, hf⟩ := s_bind hf
        refine s_lz.tr (l_X8_isAgainst hh) ?_
        rcases s_ite hf with ⟨-, hf⟩ | ⟨-, hf⟩
        · cases hf
          exact s_le.rf
        · cases hf
          exact s_le.rf
    refine lv_iload hx hb dX8_core_53 (lv_at hl 3 rfl) ?_
    refine lv_iload_n hx hb dX8_core_55 rfl (lv_at hl 2 rfl) ?_
    refine r_callS (Y := M_X8_isFewer) (v := some (.int q1.1)) X I w_2169 my_X8_isFewer (by omega) (t_X8_isFewer (G := G) (d := d + 2) h2) rfl rfl hl.1 rfl (Nat.le_of_ble_eq_true rfl) hn le3 dX8_core_56 (fun H locs cells slots I hn1 hn2 => ?_)
    have I : s_I G q1.2 s H locs := I
    have hn : cells + σ0.2.1 ≤ q1.2.2.1 ∧ slots + σ0.2.2.1 ≤ q1.2.2.2.1 := ⟨hn1, hn2⟩
    rcases s_ite hf with ⟨c4, hf⟩ | ⟨c4, hf⟩
    · refine lv_if_eq (tgt := 76) hx hb dX8_core_59 (by decide) (fun _ => ?_) (fun n => absurd c4 n)
      cases hf
      have k : s_V G (d + 5) M_X8_core vs0 σ0 Y_X8_core (76, [.ref v0, .int v2, .int v3, .int v4], q1.2) (e_I r) := k
      exact k.2 p e s m below meth c _ _ _ _ _ X I hn.1 hn.2 (lv_sub hl [0, 1, 2, 3] rfl)
    · refine lv_if_eq (tgt := 76) hx hb dX8_core_59 (by decide) (fun n => absurd n c4) (fun _ => ?_)
      obtain ⟨q2, h5, hf⟩ := s_bind hf
      have le6 : s_le q2.2 (e_I r).2 := by
        refine s_lek hem_I ?_ k
        rcases s_ite hf with ⟨-, hf⟩ | ⟨-, hf⟩
        · cases hf
          exact s_le.rf
        · cases hf
          exact s_le.rf
      refine lv_aload_n hx hb dX8_core_62 rfl (lv_at hl 0 rfl) ?_
      refine lv_iload hx hb dX8_core_63 (lv_at hl 3 rfl) ?_
      refine r_callV (Y := M_X8_isAgainst) (v := some (.int q2.1)) X I w_2176 my_X8_isAgainst (by omega) (t_X8_isAgainst (G := G) (d := d + 1) h5) (b_X8_isAgainst h5) rfl rfl hl.1 rfl (Nat.le_of_ble_eq_true rfl) hn le6 dX8_core_65 (fun H locs cells slots I hn1 hn2 => ?_)
      have I : s_I G q2.2 s H locs := I
      have hn : cells + σ0.2.1 ≤ q2.2.2.1 ∧ slots + σ0.2.2.1 ≤ q2.2.2.2.1 := ⟨hn1, hn2⟩
      rcases s_ite hf with ⟨c7, hf⟩ | ⟨c7, hf⟩
      · refine lv_if_eq (tgt := 76) hx hb dX8_core_68 (by decide) (fun _ => ?_) (fun n => absurd c7 n)
        cases hf
        have k : s_V G (d + 5) M_X8_core vs0 σ0 Y_X8_core (76, [.ref v0, .int v2, .int v3, .int v4], q2.2) (e_I r) := k
        exact k.2 p e s m below meth c _ _ _ _ _ X I hn.1 hn.2 (lv_sub hl [0, 1, 2, 3] rfl)
      · refine lv_if_eq (tgt := 76) hx hb dX8_core_68 (by decide) (fun n => absurd n c7) (fun _ => ?_)
        cases hf
        have k : s_V G (d + 5) M_X8_core vs0 σ0 Y_X8_core (77, [.ref v0, .int v2, .int v4, .int v4], q2.2) (e_I r) := k
        refine lv_iload hx hb dX8_core_71 (lv_at hl 3 rfl) ?_
        refine lv_goto (tgt := 77) hx hb dX8_core_73 (by decide) ?_
        exact k.2 p e s m below meth c _ _ _ _ _ X I hn.1 hn.2 (lv_sub hl [0, 1, 3] rfl)
set_option maxRecDepth 100000 in
set_option maxHeartbeats 4000000 in
theorem v_X8_core_76 {G : sG} {d : Nat} {vs0 : List Value} {σ0 : sS} {v0 : Nat} {v2 : Int32} {v3 : Int32} {v4 : Int32} {σ : sS} {z : sZ Int32} {r : Int32 × sS} (hf : T_X8_core_76 v0 v2 v3 v4 σ = some z) (k : s_K G (d + 5) M_X8_core vs0 σ0 Y_X8_core e_I z r) : s_V G (d + 5) M_X8_core vs0 σ0 Y_X8_core (76, [.ref v0, .int v2, .int v3, .int v4], σ) (e_I r) := by
  have le0 : s_le σ (e_I r).2 := s_lek hem_I (l_X8_core_76 hf) k
  refine ⟨le0, ?_⟩
  intro p e s m below meth c H locs cells slots ls X I hn1 hn2 hl
  have hn : cells + σ0.2.1 ≤ σ.2.1 ∧ slots + σ0.2.2.1 ≤ σ.2.2.1 := ⟨hn1, hn2⟩
  have hl : lv_has ls 5 [(0, .ref v0), (2, .int v2), (3, .int v3), (4, .int v4)] := hl
  have hx := X.1
  have hb : c.code = cX8_core := X.2.1
  have hown : s.vm.findClass RX8 = some m.cls := X.2.2.2.2.2.1
  have hts := X.2.2.2.2.2.2.1
  refine W.eq (g2 := F0 m 76 ls []) rfl ?_
  unfold T_X8_core_76 at hf
  cases hf
  have k : s_V G (d + 5) M_X8_core vs0 σ0 Y_X8_core (77, [.ref v0, .int v2, .int v4, .int v3], σ) (e_I r) := k
  refine lv_iload_n hx hb dX8_core_76 rfl (lv_at hl 2 rfl) ?_
  exact k.2 p e s m below meth c _ _ _ _ _ X I hn.1 hn.2 (lv_sub hl [0, 1, 3] rfl)
set_option maxRecDepth 100000 in
set_option maxHeartbeats 4000000 in
theorem v_X8_core_77 {G : sG} {d : Nat} {vs0 : List Value} {σ0 : sS} {v0 : Nat} {v2 : Int32} {v4 : Int32} {w0 : Int32} {σ : sS} {z : sZ Int32} {r : Int32 × sS} (hf : T_X8_core_77 v0 v2 v4 w0 σ = some z) (k : s_K G (d + 5) M_X8_core vs0 σ0 Y_X8_core e_I z r) : s_V G (d + 5) M_X8_core vs0 σ0 Y_X8_core (77, [.ref v0, .int v2, .int v4, .int w0], σ) (e_I r) := by
  have le0 : s_le σ (e_I r).2 := s_lek hem_I (l_X8_core_77 hf) k
  refine ⟨le0, ?_⟩
  intro p e s m below meth c H locs cells slots ls X I hn1 hn2 hl
  have hn : cells + σ0.2.1 ≤ σ.2.1 ∧ slots + σ0.2.2.1 ≤ σ.2.2.1 := ⟨hn1, hn2⟩
  have hl : lv_has ls 5 [(0, .ref v0), (2, .int v2), (4, .int v4)] := hl
  have hx := X.1
  have hb : c.code = cX8_core := X.2.1
  have hown : s.vm.findClass RX8 = some m.cls := X.2.2.2.2.2.1
  have hts := X.2.2.2.2.2.2.1
  refine W.eq (g2 := F0 m 77 ls [.int w0]) rfl ?_
  unfold T_X8_core_77 at hf
  cases hf
  have k : s_V G (d + 5) M_X8_core vs0 σ0 Y_X8_core (48, [.ref v0, .int v2, .int w0, .int ((v4 - 1) &&& v2)], σ) (e_I r) := k
  refine lv_istore_n (lv' := [(3, .int w0), (0, .ref v0), (2, .int v2), (4, .int v4)]) hx hb dX8_core_77 rfl hl (by decide) rfl (fun ls hl => ?_)
  refine lv_iload hx hb dX8_core_78 (lv_at hl 3 rfl) ?_
  refine lv_iconst (v := 1) hx hb dX8_core_80 (by decide) ?_
  refine lv_isub hx hb dX8_core_81 ?_
  refine lv_iload_n hx hb dX8_core_82 rfl (lv_at hl 2 rfl) ?_
  refine lv_iand hx hb dX8_core_83 ?_
  refine lv_istore (lv' := [(4, .int ((v4 - 1) &&& v2)), (3, .int w0), (0, .ref v0), (2, .int v2)]) hx hb dX8_core_84 hl (by decide) rfl (fun ls hl => ?_)
  refine lv_goto (tgt := 48) hx hb dX8_core_86 (by decide) ?_
  exact k.2 p e s m below meth c _ _ _ _ _ X I hn.1 hn.2 (lv_sub hl [2, 3, 1, 0] rfl)
theorem v_X8_core {G : sG} {d : Nat} {vs0 : List Value} {σ0 : sS} {x : sL} {z : sZ Int32} {r : Int32 × sS} (hs : S_X8_core x = some z) (k : s_K G (d + 5) M_X8_core vs0 σ0 Y_X8_core e_I z r) : s_V G (d + 5) M_X8_core vs0 σ0 Y_X8_core x (e_I r) := by
  obtain ⟨pc, vs, σ⟩ := x
  unfold S_X8_core at hs
  dsimp only at hs
  rcases s_ite hs with ⟨c, hs⟩ | ⟨-, hs⟩
  · subst c
    unfold U_X8_core_0 at hs
    obtain ⟨a0, g0, hs⟩ := s_bind hs
    obtain ⟨a1, g1, hs⟩ := s_bind hs
    obtain ⟨u9, ge, hs⟩ := s_bind hs
    rw [g_r_to g0, g_i_to g1, g_e_to ge]
    exact v_X8_core_0 hs k
  rcases s_ite hs with ⟨c, hs⟩ | ⟨-, hs⟩
  · subst c
    unfold U_X8_core_26 at hs
    obtain ⟨a0, g0, hs⟩ := s_bind hs
    obtain ⟨a1, g1, hs⟩ := s_bind hs
    obtain ⟨a2, g2, hs⟩ := s_bind hs
    obtain ⟨a3, g3, hs⟩ := s_bind hs
    obtain ⟨u9, ge, hs⟩ := s_bind hs
    rw [g_r_to g0, g_i_to g1, g_i_to g2, g_r_to g3, g_e_to ge]
    exact v_X8_core_26 hs k
  rcases s_ite hs with ⟨c, hs⟩ | ⟨-, hs⟩
  · subst c
    unfold U_X8_core_48 at hs
    obtain ⟨a0, g0, hs⟩ := s_bind hs
    obtain ⟨a1, g1, hs⟩ := s_bind hs
    obtain ⟨a2, g2, hs⟩ := s_bind hs
    obtain ⟨a3, g3, hs⟩ := s_bind hs
    obtain ⟨u9, ge, hs⟩ := s_bind hs
    rw [g_r_to g0, g_i_to g1, g_i_to g2, g_i_to g3, g_e_to ge]
    exact v_X8_core_48 hs k
  rcases s_ite hs with ⟨c, hs⟩ | ⟨-, hs⟩
  · subst c
    unfold U_X8_core_76 at hs
    obtain ⟨a0, g0, hs⟩ := s_bind hs
    obtain ⟨a1, g1, hs⟩ := s_bind hs
    obtain ⟨a2, g2, hs⟩ := s_bind hs
    obtain ⟨a3, g3, hs⟩ := s_bind hs
    obtain ⟨u9, ge, hs⟩ := s_bind hs
    rw [g_r_to g0, g_i_to g1, g_i_to g2, g_i_to g3, g_e_to ge]
    exact v_X8_core_76 hs k
  rcases s_ite hs with ⟨c, hs⟩ | ⟨-, hs⟩
  · subst c
    unfold U_X8_core_77 at hs
    obtain ⟨a0, g0, hs⟩ := s_bind hs
    obtain ⟨a1, g1, hs⟩ := s_bind hs
    obtain ⟨a2, g2, hs⟩ := s_bind hs
    obtain ⟨a3, g3, hs⟩ := s_bind hs
    obtain ⟨u9, ge, hs⟩ := s_bind hs
    rw [g_r_to g0, g_i_to g1, g_i_to g2, g_i_to g3, g_e_to ge]
    exact v_X8_core_77 hs k
  cases hs
theorem t_X8_core {G : sG} {d : Nat} {v0 : Nat} {v1 : Int32} {σ : sS} {q : Int32 × sS} (h : F_X8_core v0 v1 σ = some q) : s_T G (d + 5) M_X8_core [.ref v0, .int v1] σ (e_I q) := by
  unfold F_X8_core at h
  obtain ⟨-, -, h⟩ := s_bind h
  exact s_ofV rfl (by decide) (Nat.le_of_ble_eq_true rfl) rfl rfl (s_run_ind (V := fun x r => s_V G (d + 5) M_X8_core [.ref v0, .int v1] σ Y_X8_core x (e_I r)) (fun x z r hs hk => v_X8_core hs (by cases z <;> exact hk)) h)
/-! X3_isEmpty -/
noncomputable def T_X3_isEmpty_0 (v0 : Nat) (v1 : Nat) (σ : sS) : Option (sZ Int32) :=
  (F_X3_leastOf v0 v1 σ).bind fun q1 =>
  if q1.1 = (-1) then (some (.inr (1, q1.2)))
  else (some (.inr (0, q1.2)))
noncomputable def U_X3_isEmpty_0 (vs : List Value) (σ : sS) : Option (sZ Int32) := (g_r vs).bind fun a0 => (g_r a0.2).bind fun a1 => (g_e a1.2).bind fun _ => T_X3_isEmpty_0 a0.1 a1.1 σ
noncomputable def S_X3_isEmpty (x : sL) : Option (sZ Int32) := if x.1 = 0 then U_X3_isEmpty_0 x.2.1 x.2.2 else none
def Y_X3_isEmpty (pc : Nat) : List Nat := if pc = 0 then [0, 1] else []
noncomputable def F_X3_isEmpty (v0 : Nat) (v1 : Nat) (σ : sS) : Option (Int32 × sS) := (s_is σ v0 3).bind fun _ => s_run S_X3_isEmpty (0, [.ref v0, .ref v1], σ)
theorem l_X3_isEmpty_0 {v0 : Nat} {v1 : Nat} {σ : sS} {z : sZ Int32} (hf : T_X3_isEmpty_0 v0 v1 σ = some z) : s_lz σ z := by
  unfold T_X3_isEmpty_0 at hf
  obtain ⟨q1, hh, hf⟩ := s_bind hf
  refine s_lz.tr (l_X3_leastOf hh) ?_
  rcases s_ite hf with ⟨-, hf⟩ | ⟨-, hf⟩
  · cases hf
    exact s_le.rf
  · cases hf
    exact s_le.rf
theorem l_X3_isEmpty_s {x : sL} {z : sZ Int32} (hs : S_X3_isEmpty x = some z) : s_lz x.2.2 z := by
  obtain ⟨pc, vs, σ⟩ := x
  unfold S_X3_isEmpty at hs
  dsimp only at hs ⊢
  rcases s_ite hs with ⟨c, hs⟩ | ⟨-, hs⟩
  · subst c
    unfold U_X3_isEmpty_0 at hs
    obtain ⟨a0, g0, hs⟩ := s_bind hs
    obtain ⟨a1, g1, hs⟩ := s_bind hs
    obtain ⟨u9, ge, hs⟩ := s_bind hs
    exact l_X3_isEmpty_0 hs
  cases hs
theorem l_X3_isEmpty {v0 : Nat} {v1 : Nat} {σ : sS} {q : Int32 × sS} (h : F_X3_isEmpty v0 v1 σ = some q) : s_le σ q.2 := by
  unfold F_X3_isEmpty at h
  obtain ⟨-, -, h⟩ := s_bind h
  exact s_run_ind (V := fun x r => s_le x.2.2 r.2) (fun x z r hs hk => by
    have h9 := l_X3_isEmpty_s hs
    cases z with
    | inl y => exact s_le.tr h9 hk
    | inr q => cases hk; exact h9) h
theorem b_X3_isEmpty {v0 : Nat} {v1 : Nat} {σ : sS} {q : Int32 × sS} (h : F_X3_isEmpty v0 v1 σ = some q) : ∃ fs, σ.1 v0 = some (.inr (3, fs)) := by
  unfold F_X3_isEmpty at h
  obtain ⟨u, hu, -⟩ := s_bind h
  exact s_is_to hu
set_option maxRecDepth 100000 in
set_option maxHeartbeats 4000000 in
theorem v_X3_isEmpty_0 {G : sG} {d : Nat} {vs0 : List Value} {σ0 : sS} {v0 : Nat} {v1 : Nat} {σ : sS} {z : sZ Int32} {r : Int32 × sS} (hf : T_X3_isEmpty_0 v0 v1 σ = some z) (k : s_K G (d + 4) M_X3_isEmpty vs0 σ0 Y_X3_isEmpty e_I z r) : s_V G (d + 4) M_X3_isEmpty vs0 σ0 Y_X3_isEmpty (0, [.ref v0, .ref v1], σ) (e_I r) := by
  have le0 : s_le σ (e_I r).2 := s_lek hem_I (l_X3_isEmpty_0 hf) k
  refine ⟨le0, ?_⟩
  intro p e s m below meth c H locs cells slots ls X I hn1 hn2 hl
  have hn : cells + σ0.2.1 ≤ σ.2.1 ∧ slots + σ0.2.2.1 ≤ σ.2.2.1 := ⟨hn1, hn2⟩
  have hl : lv_has ls 2 [(0, .ref v0), (1, .ref v1)] := hl
  have hx := X.1
  have hb : c.code = cX3_isEmpty := X.2.1
  have hown : s.vm.findClass RX3 = some m.cls := X.2.2.2.2.2.1
  have hts := X.2.2.2.2.2.2.1
  refine W.eq (g2 := F0 m 0 ls []) rfl ?_
  unfold T_X3_isEmpty_0 at hf
  obtain ⟨q1, h1, hf⟩ := s_bind hf
  have le2 : s_le q1.2 (e_I r).2 := by
    refine s_lek hem_I ?_ k
    rcases s_ite hf with ⟨-, hf⟩ | ⟨-, hf⟩
    · cases hf
      exact s_le.rf
    · cases hf
      exact s_le.rf
  refine lv_aload_n hx hb dX3_isEmpty_0 rfl (lv_at hl 0 rfl) ?_
  refine lv_aload_n hx hb dX3_isEmpty_1 rfl (lv_at hl 1 rfl) ?_
  refine r_callV (Y := M_X3_leastOf) (v := some (.int q1.1)) X I w_1456 my_X3_leastOf (by omega) (t_X3_leastOf (G := G) (d := d + 0) h1) (b_X3_leastOf h1) rfl rfl hl.1 rfl (Nat.le_of_ble_eq_true rfl) hn le2 dX3_isEmpty_2 (fun H locs cells slots I hn1 hn2 => ?_)
  have I : s_I G q1.2 s H locs := I
  have hn : cells + σ0.2.1 ≤ q1.2.2.1 ∧ slots + σ0.2.2.1 ≤ q1.2.2.2.1 := ⟨hn1, hn2⟩
  refine lv_iconst (v := (-1)) hx hb dX3_isEmpty_5 (by decide) ?_
  rcases s_ite hf with ⟨c3, hf⟩ | ⟨c3, hf⟩
  · refine lv_icmp_ne (tgt := 13) hx hb dX3_isEmpty_6 (by decide) (fun n => absurd c3 n) (fun _ => ?_)
    cases hf
    have k : _ = r := k
    subst k
    refine lv_iconst (v := 1) hx hb dX3_isEmpty_9 (by decide) ?_
    refine lv_goto (tgt := 14) hx hb dX3_isEmpty_10 (by decide) ?_
    exact r_iret X I rfl rfl rfl hn dX3_isEmpty_14
  · refine lv_icmp_ne (tgt := 13) hx hb dX3_isEmpty_6 (by decide) (fun _ => ?_) (fun n => absurd n c3)
    cases hf
    have k : _ = r := k
    subst k
    refine lv_iconst (v := 0) hx hb dX3_isEmpty_13 (by decide) ?_
    exact r_iret X I rfl rfl rfl hn dX3_isEmpty_14
theorem v_X3_isEmpty {G : sG} {d : Nat} {vs0 : List Value} {σ0 : sS} {x : sL} {z : sZ Int32} {r : Int32 × sS} (hs : S_X3_isEmpty x = some z) (k : s_K G (d + 4) M_X3_isEmpty vs0 σ0 Y_X3_isEmpty e_I z r) : s_V G (d + 4) M_X3_isEmpty vs0 σ0 Y_X3_isEmpty x (e_I r) := by
  obtain ⟨pc, vs, σ⟩ := x
  unfold S_X3_isEmpty at hs
  dsimp only at hs
  rcases s_ite hs with ⟨c, hs⟩ | ⟨-, hs⟩
  · subst c
    unfold U_X3_isEmpty_0 at hs
    obtain ⟨a0, g0, hs⟩ := s_bind hs
    obtain ⟨a1, g1, hs⟩ := s_bind hs
    obtain ⟨u9, ge, hs⟩ := s_bind hs
    rw [g_r_to g0, g_r_to g1, g_e_to ge]
    exact v_X3_isEmpty_0 hs k
  cases hs
theorem t_X3_isEmpty {G : sG} {d : Nat} {v0 : Nat} {v1 : Nat} {σ : sS} {q : Int32 × sS} (h : F_X3_isEmpty v0 v1 σ = some q) : s_T G (d + 4) M_X3_isEmpty [.ref v0, .ref v1] σ (e_I q) := by
  unfold F_X3_isEmpty at h
  obtain ⟨-, -, h⟩ := s_bind h
  exact s_ofV rfl (by decide) (Nat.le_of_ble_eq_true rfl) rfl rfl (s_run_ind (V := fun x r => s_V G (d + 4) M_X3_isEmpty [.ref v0, .ref v1] σ Y_X3_isEmpty x (e_I r)) (fun x z r hs hk => v_X3_isEmpty hs (by cases z <;> exact hk)) h)
/-! X3_isOpenTo -/
noncomputable def T_X3_isOpenTo_0 (v0 : Nat) (v1 : Int32) (v2 : Int32) (σ : sS) : Option (sZ Int32) :=
  (s_fr σ v0 3 0).bind fun x1 =>
  (F_X1_nodeOf x1 v1 σ).bind fun q2 =>
  (s_fr q2.2 v0 3 0).bind fun x3 =>
  (F_X1_nodeOf x3 v2 q2.2).bind fun q4 =>
  if q2.1 = q4.1 then (some (.inr (0, q4.2)))
  else (some (.inr (1, q4.2)))
noncomputable def U_X3_isOpenTo_0 (vs : List Value) (σ : sS) : Option (sZ Int32) := (g_r vs).bind fun a0 => (g_i a0.2).bind fun a1 => (g_i a1.2).bind fun a2 => (g_e a2.2).bind fun _ => T_X3_isOpenTo_0 a0.1 a1.1 a2.1 σ
noncomputable def S_X3_isOpenTo (x : sL) : Option (sZ Int32) := if x.1 = 0 then U_X3_isOpenTo_0 x.2.1 x.2.2 else none
def Y_X3_isOpenTo (pc : Nat) : List Nat := if pc = 0 then [0, 1, 2] else []
noncomputable def F_X3_isOpenTo (v0 : Nat) (v1 : Int32) (v2 : Int32) (σ : sS) : Option (Int32 × sS) := (s_is σ v0 3).bind fun _ => s_run S_X3_isOpenTo (0, [.ref v0, .int v1, .int v2], σ)
theorem l_X3_isOpenTo_0 {v0 : Nat} {v1 : Int32} {v2 : Int32} {σ : sS} {z : sZ Int32} (hf : T_X3_isOpenTo_0 v0 v1 v2 σ = some z) : s_lz σ z := by
  unfold T_X3_isOpenTo_0 at hf
  obtain ⟨x1, -, hf⟩ := s_bind hf
  obtain ⟨q2, hh, hf⟩ := s_bind hf
  refine s_lz.tr (l_X1_nodeOf hh) ?_
  obtain ⟨x3, -, hf⟩ := s_bind hf
  obtain ⟨q4, hh, hf⟩ := s_bind hf
  refine s_lz.tr (l_X1_nodeOf hh) ?_
  rcases s_ite hf with ⟨-, hf⟩ | ⟨-, hf⟩
  · cases hf
    exact s_le.rf
  · cases hf
    exact s_le.rf
theorem l_X3_isOpenTo_s {x : sL} {z : sZ Int32} (hs : S_X3_isOpenTo x = some z) : s_lz x.2.2 z := by
  obtain ⟨pc, vs, σ⟩ := x
  unfold S_X3_isOpenTo at hs
  dsimp only at hs ⊢
  rcases s_ite hs with ⟨c, hs⟩ | ⟨-, hs⟩
  · subst c
    unfold U_X3_isOpenTo_0 at hs
    obtain ⟨a0, g0, hs⟩ := s_bind hs
    obtain ⟨a1, g1, hs⟩ := s_bind hs
    obtain ⟨a2, g2, hs⟩ := s_bind hs
    obtain ⟨u9, ge, hs⟩ := s_bind hs
    exact l_X3_isOpenTo_0 hs
  cases hs
theorem l_X3_isOpenTo {v0 : Nat} {v1 : Int32} {v2 : Int32} {σ : sS} {q : Int32 × sS} (h : F_X3_isOpenTo v0 v1 v2 σ = some q) : s_le σ q.2 := by
  unfold F_X3_isOpenTo at h
  obtain ⟨-, -, h⟩ := s_bind h
  exact s_run_ind (V := fun x r => s_le x.2.2 r.2) (fun x z r hs hk => by
    have h9 := l_X3_isOpenTo_s hs
    cases z with
    | inl y => exact s_le.tr h9 hk
    | inr q => cases hk; exact h9) h
theorem b_X3_isOpenTo {v0 : Nat} {v1 : Int32} {v2 : Int32} {σ : sS} {q : Int32 × sS} (h : F_X3_isOpenTo v0 v1 v2 σ = some q) : ∃ fs, σ.1 v0 = some (.inr (3, fs)) := by
  unfold F_X3_isOpenTo at h
  obtain ⟨u, hu, -⟩ := s_bind h
  exact s_is_to hu
set_option maxRecDepth 100000 in
set_option maxHeartbeats 4000000 in
theorem v_X3_isOpenTo_0 {G : sG} {d : Nat} {vs0 : List Value} {σ0 : sS} {v0 : Nat} {v1 : Int32} {v2 : Int32} {σ : sS} {z : sZ Int32} {r : Int32 × sS} (hf : T_X3_isOpenTo_0 v0 v1 v2 σ = some z) (k : s_K G (d + 2) M_X3_isOpenTo vs0 σ0 Y_X3_isOpenTo e_I z r) : s_V G (d + 2) M_X3_isOpenTo vs0 σ0 Y_X3_isOpenTo (0, [.ref v0, .int v1, .int v2], σ) (e_I r) := by
  have le0 : s_le σ (e_I r).2 := s_lek hem_I (l_X3_isOpenTo_0 hf) k
  refine ⟨le0, ?_⟩
  intro p e s m below meth c H locs cells slots ls X I hn1 hn2 hl
  have hn : cells + σ0.2.1 ≤ σ.2.1 ∧ slots + σ0.2.2.1 ≤ σ.2.2.1 := ⟨hn1, hn2⟩
  have hl : lv_has ls 3 [(0, .ref v0), (1, .int v1), (2, .int v2)] := hl
  have hx := X.1
  have hb : c.code = cX3_isOpenTo := X.2.1
  have hown : s.vm.findClass RX3 = some m.cls := X.2.2.2.2.2.1
  have hts := X.2.2.2.2.2.2.1
  refine W.eq (g2 := F0 m 0 ls []) rfl ?_
  unfold T_X3_isOpenTo_0 at hf
  obtain ⟨x1, h1, hf⟩ := s_bind hf
  obtain ⟨q2, h2, hf⟩ := s_bind hf
  obtain ⟨x3, h3, hf⟩ := s_bind hf
  obtain ⟨q4, h4, hf⟩ := s_bind hf
  have le5 : s_le q4.2 (e_I r).2 := by
    refine s_lek hem_I ?_ k
    rcases s_ite hf with ⟨-, hf⟩ | ⟨-, hf⟩
    · cases hf
      exact s_le.rf
    · cases hf
      exact s_le.rf
  have le6 := s_le.tr (l_X1_nodeOf h4) le5
  refine lv_aload_n hx hb dX3_isOpenTo_0 rfl (lv_at hl 0 rfl) ?_
  refine r_gr X I fl_X3_30 h1 dX3_isOpenTo_1 ?_
  refine lv_iload_n hx hb dX3_isOpenTo_4 rfl (lv_at hl 1 rfl) ?_
  refine r_callV (Y := M_X1_nodeOf) (v := some (.int q2.1)) X I w_1567 my_X1_nodeOf (by omega) (t_X1_nodeOf (G := G) (d := d + 0) h2) (b_X1_nodeOf h2) rfl rfl hl.1 rfl (Nat.le_of_ble_eq_true rfl) hn le6 dX3_isOpenTo_5 (fun H locs cells slots I hn1 hn2 => ?_)
  have I : s_I G q2.2 s H locs := I
  have hn : cells + σ0.2.1 ≤ q2.2.2.1 ∧ slots + σ0.2.2.1 ≤ q2.2.2.2.1 := ⟨hn1, hn2⟩
  refine lv_aload_n hx hb dX3_isOpenTo_8 rfl (lv_at hl 0 rfl) ?_
  refine r_gr X I fl_X3_30 h3 dX3_isOpenTo_9 ?_
  refine lv_iload_n hx hb dX3_isOpenTo_12 rfl (lv_at hl 2 rfl) ?_
  refine r_callV (Y := M_X1_nodeOf) (v := some (.int q4.1)) X I w_1567 my_X1_nodeOf (by omega) (t_X1_nodeOf (G := G) (d := d + 0) h4) (b_X1_nodeOf h4) rfl rfl hl.1 rfl (Nat.le_of_ble_eq_true rfl) hn le5 dX3_isOpenTo_13 (fun H locs cells slots I hn1 hn2 => ?_)
  have I : s_I G q4.2 s H locs := I
  have hn : cells + σ0.2.1 ≤ q4.2.2.1 ∧ slots + σ0.2.2.1 ≤ q4.2.2.2.1 := ⟨hn1, hn2⟩
  rcases s_ite hf with ⟨c7, hf⟩ | ⟨c7, hf⟩
  · refine lv_icmp_eq (tgt := 23) hx hb dX3_isOpenTo_16 (by decide) (fun _ => ?_) (fun n => absurd c7 n)
    cases hf
    have k : _ = r := k
    subst k
    refine lv_iconst (v := 0) hx hb dX3_isOpenTo_23 (by decide) ?_
    exact r_iret X I rfl rfl rfl hn dX3_isOpenTo_24
  · refine lv_icmp_eq (tgt := 23) hx hb dX3_isOpenTo_16 (by decide) (fun n => absurd n c7) (fun _ => ?_)
    cases hf
    have k : _ = r := k
    subst k
    refine lv_iconst (v := 1) hx hb dX3_isOpenTo_19 (by decide) ?_
    refine lv_goto (tgt := 24) hx hb dX3_isOpenTo_20 (by decide) ?_
    exact r_iret X I rfl rfl rfl hn dX3_isOpenTo_24
theorem v_X3_isOpenTo {G : sG} {d : Nat} {vs0 : List Value} {σ0 : sS} {x : sL} {z : sZ Int32} {r : Int32 × sS} (hs : S_X3_isOpenTo x = some z) (k : s_K G (d + 2) M_X3_isOpenTo vs0 σ0 Y_X3_isOpenTo e_I z r) : s_V G (d + 2) M_X3_isOpenTo vs0 σ0 Y_X3_isOpenTo x (e_I r) := by
  obtain ⟨pc, vs, σ⟩ := x
  unfold S_X3_isOpenTo at hs
  dsimp only at hs
  rcases s_ite hs with ⟨c, hs⟩ | ⟨-, hs⟩
  · subst c
    unfold U_X3_isOpenTo_0 at hs
    obtain ⟨a0, g0, hs⟩ := s_bind hs
    obtain ⟨a1, g1, hs⟩ := s_bind hs
    obtain ⟨a2, g2, hs⟩ := s_bind hs
    obtain ⟨u9, ge, hs⟩ := s_bind hs
    rw [g_r_to g0, g_i_to g1, g_i_to g2, g_e_to ge]
    exact v_X3_isOpenTo_0 hs k
  cases hs
theorem t_X3_isOpenTo {G : sG} {d : Nat} {v0 : Nat} {v1 : Int32} {v2 : Int32} {σ : sS} {q : Int32 × sS} (h : F_X3_isOpenTo v0 v1 v2 σ = some q) : s_T G (d + 2) M_X3_isOpenTo [.ref v0, .int v1, .int v2] σ (e_I q) := by
  unfold F_X3_isOpenTo at h
  obtain ⟨-, -, h⟩ := s_bind h
  exact s_ofV rfl (by decide) (Nat.le_of_ble_eq_true rfl) rfl rfl (s_run_ind (V := fun x r => s_V G (d + 2) M_X3_isOpenTo [.ref v0, .int v1, .int v2] σ Y_X3_isOpenTo x (e_I r)) (fun x z r hs hk => v_X3_isOpenTo hs (by cases z <;> exact hk)) h)
/-! X3_provesWith -/
noncomputable def T_X3_provesWith_0 (v0 : Nat) (v1 : Nat) (v2 : Int32) (v3 : Int32) (σ : sS) : Option (sZ Int32) :=
  some (.inl (6, [.ref v0, .ref v1, .int v2, .int v3, .long 0, .int 0], σ))
noncomputable def U_X3_provesWith_0 (vs : List Value) (σ : sS) : Option (sZ Int32) := (g_r vs).bind fun a0 => (g_r a0.2).bind fun a1 => (g_i a1.2).bind fun a2 => (g_i a2.2).bind fun a3 => (g_e a3.2).bind fun _ => T_X3_provesWith_0 a0.1 a1.1 a2.1 a3.1 σ
noncomputable def T_X3_provesWith_6 (v0 : Nat) (v1 : Nat) (v2 : Int32) (v3 : Int32) (v4 : Int64) (v6 : Int32) (σ : sS) : Option (sZ Int32) :=
  (s_fr σ v0 3 0).bind fun x1 =>
  (F_X1_words x1 σ).bind fun q2 =>
  if q2.1 ≤ v6 then (if (lg_cmp v4 0) = 0 then (some (.inr (0, q2.2)))
  else (some (.inr (1, q2.2))))
  else ((s_al q2.2 v1 v6).bind fun x3 =>
  (s_fr q2.2 v0 3 0).bind fun x4 =>
  (F_X1_truthOf x4 v2 v6 q2.2).bind fun q5 =>
  (s_fr q5.2 v0 3 0).bind fun x6 =>
  (F_X1_truthOf x6 v3 v6 q5.2).bind fun q7 =>
  if (lg_cmp ((x3 &&& q5.1) &&& (q7.1 ^^^ (-1))) 0) = 0 then (some (.inl (6, [.ref v0, .ref v1, .int v2, .int v3, .long (v4 ||| (x3 &&& q5.1)), .int (v6 + 1)], q7.2)))
  else (some (.inr (0, q7.2))))
noncomputable def U_X3_provesWith_6 (vs : List Value) (σ : sS) : Option (sZ Int32) := (g_r vs).bind fun a0 => (g_r a0.2).bind fun a1 => (g_i a1.2).bind fun a2 => (g_i a2.2).bind fun a3 => (g_l a3.2).bind fun a4 => (g_i a4.2).bind fun a5 => (g_e a5.2).bind fun _ => T_X3_provesWith_6 a0.1 a1.1 a2.1 a3.1 a4.1 a5.1 σ
noncomputable def S_X3_provesWith (x : sL) : Option (sZ Int32) := if x.1 = 0 then U_X3_provesWith_0 x.2.1 x.2.2 else if x.1 = 6 then U_X3_provesWith_6 x.2.1 x.2.2 else none
def Y_X3_provesWith (pc : Nat) : List Nat := if pc = 0 then [0, 1, 2, 3] else if pc = 6 then [0, 1, 2, 3, 4, 6] else []
noncomputable def F_X3_provesWith (v0 : Nat) (v1 : Nat) (v2 : Int32) (v3 : Int32) (σ : sS) : Option (Int32 × sS) := (s_is σ v0 3).bind fun _ => s_run S_X3_provesWith (0, [.ref v0, .ref v1, .int v2, .int v3], σ)
theorem l_X3_provesWith_0 {v0 : Nat} {v1 : Nat} {v2 : Int32} {v3 : Int32} {σ : sS} {z : sZ Int32} (hf : T_X3_provesWith_0 v0 v1 v2 v3 σ = some z) : s_lz σ z := by
  unfold T_X3_provesWith_0 at hf
  cases hf
  exact s_le.rf
theorem l_X3_provesWith_6 {v0 : Nat} {v1 : Nat} {v2 : Int32} {v3 : Int32} {v4 : Int64} {v6 : Int32} {σ : sS} {z : sZ Int32} (hf : T_X3_provesWith_6 v0 v1 v2 v3 v4 v6 σ = some z) : s_lz σ z := by
  unfold T_X3_provesWith_6 at hf
  obtain ⟨x1, -, hf⟩ := s_bind hf
  obtain ⟨q2, hh, hf⟩ := s_bind hf
  refine s_lz.tr (l_X1_words hh) ?_
  rcases s_ite hf with ⟨-, hf⟩ | ⟨-, hf⟩
  · rcases s_ite hf with ⟨-, hf⟩ | ⟨-, hf⟩
    · cases hf
      exact s_le.rf
    · cases hf
      exact s_le.rf
  · obtain ⟨x3, -, hf⟩ := s_bind hf
    obtain ⟨x4, -, hf⟩ := s_bind hf
    obtain ⟨q5, hh, hf⟩ := s_bind hf
    refine s_lz.tr (l_X1_truthOf hh) ?_
    obtain ⟨x6, -, hf⟩ := s_bind hf
    obtain ⟨q7, hh, hf⟩ := s_bind hf
    refine s_lz.tr (l_X1_truthOf hh) ?_
    rcases s_ite hf with ⟨-, hf⟩ | ⟨-, hf⟩
    · cases hf
      exact s_le.rf
    · cases hf
      exact s_le.rf
theorem l_X3_provesWith_s {x : sL} {z : sZ Int32} (hs : S_X3_provesWith x = some z) : s_lz x.2.2 z := by
  obtain ⟨pc, vs, σ⟩ := x
  unfold S_X3_provesWith at hs
  dsimp only at hs ⊢
  rcases s_ite hs with ⟨c, hs⟩ | ⟨-, hs⟩
  · subst c
    unfold U_X3_provesWith_0 at hs
    obtain ⟨a0, g0, hs⟩ := s_bind hs
    obtain ⟨a1, g1, hs⟩ := s_bind hs
    obtain ⟨a2, g2, hs⟩ := s_bind hs
    obtain ⟨a3, g3, hs⟩ := s_bind hs
    obtain ⟨u9, ge, hs⟩ := s_bind hs
    exact l_X3_provesWith_0 hs
  rcases s_ite hs with ⟨c, hs⟩ | ⟨-, hs⟩
  · subst c
    unfold U_X3_provesWith_6 at hs
    obtain ⟨a0, g0, hs⟩ := s_bind hs
    obtain ⟨a1, g1, hs⟩ := s_bind hs
    obtain ⟨a2, g2, hs⟩ := s_bind hs
    obtain ⟨a3, g3, hs⟩ := s_bind hs
    obtain ⟨a4, g4, hs⟩ := s_bind hs
    obtain ⟨a5, g5, hs⟩ := s_bind hs
    obtain ⟨u9, ge, hs⟩ := s_bind hs
    exact l_X3_provesWith_6 hs
  cases hs
theorem l_X3_provesWith {v0 : Nat} {v1 : Nat} {v2 : Int32} {v3 : Int32} {σ : sS} {q : Int32 × sS} (h : F_X3_provesWith v0 v1 v2 v3 σ = some q) : s_le σ q.2 := by
  unfold F_X3_provesWith at h
  obtain ⟨-, -, h⟩ := s_bind h
  exact s_run_ind (V := fun x r => s_le x.2.2 r.2) (fun x z r hs hk => by
    have h9 := l_X3_provesWith_s hs
    cases z with
    | inl y => exact s_le.tr h9 hk
    | inr q => cases hk; exact h9) h
theorem b_X3_provesWith {v0 : Nat} {v1 : Nat} {v2 : Int32} {v3 : Int32} {σ : sS} {q : Int32 × sS} (h : F_X3_provesWith v0 v1 v2 v3 σ = some q) : ∃ fs, σ.1 v0 = some (.inr (3, fs)) := by
  unfold F_X3_provesWith at h
  obtain ⟨u, hu, -⟩ := s_bind h
  exact s_is_to hu
set_option maxRecDepth 100000 in
set_option maxHeartbeats 4000000 in
theorem v_X3_provesWith_0 {G : sG} {d : Nat} {vs0 : List Value} {σ0 : sS} {v0 : Nat} {v1 : Nat} {v2 : Int32} {v3 : Int32} {σ : sS} {z : sZ Int32} {r : Int32 × sS} (hf : T_X3_provesWith_0 v0 v1 v2 v3 σ = some z) (k : s_K G (d + 3) M_X3_provesWith vs0 σ0 Y_X3_provesWith e_I z r) : s_V G (d + 3) M_X3_provesWith vs0 σ0 Y_X3_provesWith (0, [.ref v0, .ref v1, .int v2, .int v3], σ) (e_I r) := by
  have le0 : s_le σ (e_I r).2 := s_lek hem_I (l_X3_provesWith_0 hf) k
  refine ⟨le0, ?_⟩
  intro p e s m below meth c H locs cells slots ls X I hn1 hn2 hl
  have hn : cells + σ0.2.1 ≤ σ.2.1 ∧ slots + σ0.2.2.1 ≤ σ.2.2.1 := ⟨hn1, hn2⟩
  have hl : lv_has ls 9 [(0, .ref v0), (1, .ref v1), (2, .int v2), (3, .int v3)] := hl
  have hx := X.1
  have hb : c.code = cX3_provesWith := X.2.1
  have hown : s.vm.findClass RX3 = some m.cls := X.2.2.2.2.2.1
  have hts := X.2.2.2.2.2.2.1
  refine W.eq (g2 := F0 m 0 ls []) rfl ?_
  unfold T_X3_provesWith_0 at hf
  cases hf
  have k : s_V G (d + 3) M_X3_provesWith vs0 σ0 Y_X3_provesWith (6, [.ref v0, .ref v1, .int v2, .int v3, .long 0, .int 0], σ) (e_I r) := k
  refine lv_lconst (v := 0) hx hb dX3_provesWith_0 (by decide) ?_
  refine lv_lstore (lv' := [(4, .long 0), (0, .ref v0), (1, .ref v1), (2, .int v2), (3, .int v3)]) hx hb dX3_provesWith_1 hl (by decide) rfl (fun ls hl => ?_)
  refine lv_iconst (v := 0) hx hb dX3_provesWith_3 (by decide) ?_
  refine lv_istore (lv' := [(6, .int 0), (4, .long 0), (0, .ref v0), (1, .ref v1), (2, .int v2), (3, .int v3)]) hx hb dX3_provesWith_4 hl (by decide) rfl (fun ls hl => ?_)
  exact k.2 p e s m below meth c _ _ _ _ _ X I hn.1 hn.2 (lv_sub hl [2, 3, 4, 5, 1, 0] rfl)
set_option maxRecDepth 100000 in
set_option maxHeartbeats 4000000 in
theorem v_X3_provesWith_6 {G : sG} {d : Nat} {vs0 : List Value} {σ0 : sS} {v0 : Nat} {v1 : Nat} {v2 : Int32} {v3 : Int32} {v4 : Int64} {v6 : Int32} {σ : sS} {z : sZ Int32} {r : Int32 × sS} (hf : T_X3_provesWith_6 v0 v1 v2 v3 v4 v6 σ = some z) (k : s_K G (d + 3) M_X3_provesWith vs0 σ0 Y_X3_provesWith e_I z r) : s_V G (d + 3) M_X3_provesWith vs0 σ0 Y_X3_provesWith (6, [.ref v0, .ref v1, .int v2, .int v3, .long v4, .int v6], σ) (e_I r) := by
  have le0 : s_le σ (e_I r).2 := s_lek hem_I (l_X3_provesWith_6 hf) k
  refine ⟨le0, ?_⟩
  intro p e s m below meth c H locs cells slots ls X I hn1 hn2 hl
  have hn : cells + σ0.2.1 ≤ σ.2.1 ∧ slots + σ0.2.2.1 ≤ σ.2.2.1 := ⟨hn1, hn2⟩
  have hl : lv_has ls 9 [(0, .ref v0), (1, .ref v1), (2, .int v2), (3, .int v3), (4, .long v4), (6, .int v6)] := hl
  have hx := X.1
  have hb : c.code = cX3_provesWith := X.2.1
  have hown : s.vm.findClass RX3 = some m.cls := X.2.2.2.2.2.1
  have hts := X.2.2.2.2.2.2.1
  refine W.eq (g2 := F0 m 6 ls []) rfl ?_
  unfold T_X3_provesWith_6 at hf
  obtain ⟨x1, h1, hf⟩ := s_bind hf
  obtain ⟨q2, h2, hf⟩ := s_bind hf
  have le3 : s_le q2.2 (e_I r).2 := by
    refine s_lek hem_I ?_ k
    rcases s_ite hf with ⟨-, hf⟩ | ⟨-, hf⟩
    · rcases s_ite hf with ⟨-, hf⟩ | ⟨-, hf⟩
      · cases hf
        exact s_le.rf
      · cases hf
        exact s_le.rf
    · obtain ⟨x3, -, hf⟩ := s_bind hf
      obtain ⟨x4, -, hf⟩ := s_bind hf
      obtain ⟨q5, hh, hf⟩ := s_bind hf
      refine s_lz.tr (l_X1_truthOf hh) ?_
      obtain ⟨x6, -, hf⟩ := s_bind hf
      obtain ⟨q7, hh, hf⟩ := s_bind hf
      refine s_lz.tr (l_X1_truthOf hh) ?_
      rcases s_ite hf with ⟨-, hf⟩ | ⟨-, hf⟩
      · cases hf
        exact s_le.rf
      · cases hf
        exact s_le.rf
  refine lv_iload hx hb dX3_provesWith_6 (lv_at hl 5 rfl) ?_
  refine lv_aload_n hx hb dX3_provesWith_8 rfl (lv_at hl 0 rfl) ?_
  refine r_gr X I fl_X3_30 h1 dX3_provesWith_9 ?_
  refine r_callV (Y := M_X1_words) (v := some (.int q2.1)) X I w_1077 my_X1_words (by omega) (t_X1_words (G := G) (d := d + 0) h2) (b_X1_words h2) rfl rfl hl.1 rfl (Nat.le_of_ble_eq_true rfl) hn le3 dX3_provesWith_12 (fun H locs cells slots I hn1 hn2 => ?_)
  have I : s_I G q2.2 s H locs := I
  have hn : cells + σ0.2.1 ≤ q2.2.2.1 ∧ slots + σ0.2.2.1 ≤ q2.2.2.2.1 := ⟨hn1, hn2⟩
  rcases s_ite hf with ⟨c4, hf⟩ | ⟨c4, hf⟩
  · refine lv_icmp_ge (tgt := 72) hx hb dX3_provesWith_15 (by decide) (fun _ => ?_) (fun n => absurd c4 n)
    refine lv_lload hx hb dX3_provesWith_72 (lv_at hl 4 rfl) ?_
    refine lv_lconst (v := 0) hx hb dX3_provesWith_74 (by decide) ?_
    refine W.lcmp hx hb dX3_provesWith_75 ?_
    rcases s_ite hf with ⟨c5, hf⟩ | ⟨c5, hf⟩
    · refine lv_if_eq (tgt := 83) hx hb dX3_provesWith_76 (by decide) (fun _ => ?_) (fun n => absurd c5 n)
      cases hf
      have k : _ = r := k
      subst k
      refine lv_iconst (v := 0) hx hb dX3_provesWith_83 (by decide) ?_
      exact r_iret X I rfl rfl rfl hn dX3_provesWith_84
    · refine lv_if_eq (tgt := 83) hx hb dX3_provesWith_76 (by decide) (fun n => absurd n c5) (fun _ => ?_)
      cases hf
      have k : _ = r := k
      subst k
      refine lv_iconst (v := 1) hx hb dX3_provesWith_79 (by decide) ?_
      refine lv_goto (tgt := 84) hx hb dX3_provesWith_80 (by decide) ?_
      exact r_iret X I rfl rfl rfl hn dX3_provesWith_84
  · refine lv_icmp_ge (tgt := 72) hx hb dX3_provesWith_15 (by decide) (fun n => absurd n c4) (fun _ => ?_)
    obtain ⟨x3, h6, hf⟩ := s_bind hf
    obtain ⟨x4, h7, hf⟩ := s_bind hf
    obtain ⟨q5, h8, hf⟩ := s_bind hf
    obtain ⟨x6, h9, hf⟩ := s_bind hf
    obtain ⟨q7, h10, hf⟩ := s_bind hf
    have le11 : s_le q7.2 (e_I r).2 := by
      refine s_lek hem_I ?_ k
      rcases s_ite hf with ⟨-, hf⟩ | ⟨-, hf⟩
      · cases hf
        exact s_le.rf
      · cases hf
        exact s_le.rf
    have le12 := s_le.tr (l_X1_truthOf h10) le11
    refine lv_aload_n hx hb dX3_provesWith_18 rfl (lv_at hl 1 rfl) ?_
    refine lv_iload hx hb dX3_provesWith_19 (lv_at hl 5 rfl) ?_
    refine r_lald X I h6 dX3_provesWith_21 ?_
    refine lv_aload_n hx hb dX3_provesWith_22 rfl (lv_at hl 0 rfl) ?_
    refine r_gr X I fl_X3_30 h7 dX3_provesWith_23 ?_
    refine lv_iload_n hx hb dX3_provesWith_26 rfl (lv_at hl 2 rfl) ?_
    refine lv_iload hx hb dX3_provesWith_27 (lv_at hl 5 rfl) ?_
    refine r_callV (Y := M_X1_truthOf) (v := some (.long q5.1)) X I w_1078 my_X1_truthOf (by omega) (t_X1_truthOf (G := G) (d := d + 1) h8) (b_X1_truthOf h8) rfl rfl hl.1 rfl (Nat.le_of_ble_eq_true rfl) hn le12 dX3_provesWith_29 (fun H locs cells slots I hn1 hn2 => ?_)
    have I : s_I G q5.2 s H locs := I
    have hn : cells + σ0.2.1 ≤ q5.2.2.1 ∧ slots + σ0.2.2.1 ≤ q5.2.2.2.1 := ⟨hn1, hn2⟩
    refine lv_land hx hb dX3_provesWith_32 ?_
    refine lv_lstore (lv' := [(7, .long (x3 &&& q5.1)), (0, .ref v0), (1, .ref v1), (2, .int v2), (3, .int v3), (4, .long v4), (6, .int v6)]) hx hb dX3_provesWith_33 hl (by decide) rfl (fun ls hl => ?_)
    refine lv_lload hx hb dX3_provesWith_35 (lv_at hl 0 rfl) ?_
    refine lv_aload_n hx hb dX3_provesWith_37 rfl (lv_at hl 1 rfl) ?_
    refine r_gr X I fl_X3_30 h9 dX3_provesWith_38 ?_
    refine lv_iload_n hx hb dX3_provesWith_41 rfl (lv_at hl 4 rfl) ?_
    refine lv_iload hx hb dX3_provesWith_42 (lv_at hl 6 rfl) ?_
    refine r_callV (Y := M_X1_truthOf) (v := some (.long q7.1)) X I w_1078 my_X1_truthOf (by omega) (t_X1_truthOf (G := G) (d := d + 1) h10) (b_X1_truthOf h10) rfl rfl hl.1 rfl (Nat.le_of_ble_eq_true rfl) hn le11 dX3_provesWith_44 (fun H locs cells slots I hn1 hn2 => ?_)
    have I : s_I G q7.2 s H locs := I
    have hn : cells + σ0.2.1 ≤ q7.2.2.1 ∧ slots + σ0.2.2.1 ≤ q7.2.2.2.1 := ⟨hn1, hn2⟩
    refine lv_ldc2 (own := RX3) hx hb hown (hts _ w_1246) dX3_provesWith_47 ?_
    refine lv_lxor hx hb dX3_provesWith_50 ?_
    refine lv_land hx hb dX3_provesWith_51 ?_
    refine lv_lconst (v := 0) hx hb dX3_provesWith_52 (by decide) ?_
    refine W.lcmp hx hb dX3_provesWith_53 ?_
    rcases s_ite hf with ⟨c13, hf⟩ | ⟨c13, hf⟩
    · refine lv_if_eq (tgt := 59) hx hb dX3_provesWith_54 (by decide) (fun _ => ?_) (fun n => absurd c13 n)
      cases hf
      have k : s_V G (d + 3) M_X3_provesWith vs0 σ0 Y_X3_provesWith (6, [.ref v0, .ref v1, .int v2, .int v3, .long (v4 ||| (x3 &&& q5.1)), .int (v6 + 1)], q7.2) (e_I r) := k
      refine lv_lload hx hb dX3_provesWith_59 (lv_at hl 5 rfl) ?_
      refine lv_lload hx hb dX3_provesWith_61 (lv_at hl 0 rfl) ?_
      refine lv_lor hx hb dX3_provesWith_63 ?_
      refine lv_lstore (lv' := [(4, .long (v4 ||| (x3 &&& q5.1))), (7, .long (x3 &&& q5.1)), (0, .ref v0), (1, .ref v1), (2, .int v2), (3, .int v3), (6, .int v6)]) hx hb dX3_provesWith_64 hl (by decide) rfl (fun ls hl => ?_)
      refine lv_iinc (v := (v6 + 1)) (lv' := [(6, .int (v6 + 1)), (4, .long (v4 ||| (x3 &&& q5.1))), (7, .long (x3 &&& q5.1)), (0, .ref v0), (1, .ref v1), (2, .int v2), (3, .int v3)]) hx hb dX3_provesWith_66 hl (k := 6) rfl rfl (by decide) rfl (fun ls hl => ?_)
      refine lv_goto (tgt := 6) hx hb dX3_provesWith_69 (by decide) ?_
      exact k.2 p e s m below meth c _ _ _ _ _ X I hn.1 hn.2 (lv_sub hl [3, 4, 5, 6, 1, 0] rfl)
    · refine lv_if_eq (tgt := 59) hx hb dX3_provesWith_54 (by decide) (fun n => absurd n c13) (fun _ => ?_)
      cases hf
      have k : _ = r := k
      subst k
      refine lv_iconst (v := 0) hx hb dX3_provesWith_57 (by decide) ?_
      exact r_iret X I rfl rfl rfl hn dX3_provesWith_58
theorem v_X3_provesWith {G : sG} {d : Nat} {vs0 : List Value} {σ0 : sS} {x : sL} {z : sZ Int32} {r : Int32 × sS} (hs : S_X3_provesWith x = some z) (k : s_K G (d + 3) M_X3_provesWith vs0 σ0 Y_X3_provesWith e_I z r) : s_V G (d + 3) M_X3_provesWith vs0 σ0 Y_X3_provesWith x (e_I r) := by
  obtain ⟨pc, vs, σ⟩ := x
  unfold S_X3_provesWith at hs
  dsimp only at hs
  rcases s_ite hs with ⟨c, hs⟩ | ⟨-, hs⟩
  · subst c
    unfold U_X3_provesWith_0 at hs
    obtain ⟨a0, g0, hs⟩ := s_bind hs
    obtain ⟨a1, g1, hs⟩ := s_bind hs
    obtain ⟨a2, g2, hs⟩ := s_bind hs
    obtain ⟨a3, g3, hs⟩ := s_bind hs
    obtain ⟨u9, ge, hs⟩ := s_bind hs
    rw [g_r_to g0, g_r_to g1, g_i_to g2, g_i_to g3, g_e_to ge]
    exact v_X3_provesWith_0 hs k
  rcases s_ite hs with ⟨c, hs⟩ | ⟨-, hs⟩
  · subst c
    unfold U_X3_provesWith_6 at hs
    obtain ⟨a0, g0, hs⟩ := s_bind hs
    obtain ⟨a1, g1, hs⟩ := s_bind hs
    obtain ⟨a2, g2, hs⟩ := s_bind hs
    obtain ⟨a3, g3, hs⟩ := s_bind hs
    obtain ⟨a4, g4, hs⟩ := s_bind hs
    obtain ⟨a5, g5, hs⟩ := s_bind hs
    obtain ⟨u9, ge, hs⟩ := s_bind hs
    rw [g_r_to g0, g_r_to g1, g_i_to g2, g_i_to g3, g_l_to g4, g_i_to g5, g_e_to ge]
    exact v_X3_provesWith_6 hs k
  cases hs
theorem t_X3_provesWith {G : sG} {d : Nat} {v0 : Nat} {v1 : Nat} {v2 : Int32} {v3 : Int32} {σ : sS} {q : Int32 × sS} (h : F_X3_provesWith v0 v1 v2 v3 σ = some q) : s_T G (d + 3) M_X3_provesWith [.ref v0, .ref v1, .int v2, .int v3] σ (e_I q) := by
  unfold F_X3_provesWith at h
  obtain ⟨-, -, h⟩ := s_bind h
  exact s_ofV rfl (by decide) (Nat.le_of_ble_eq_true rfl) rfl rfl (s_run_ind (V := fun x r => s_V G (d + 3) M_X3_provesWith [.ref v0, .ref v1, .int v2, .int v3] σ Y_X3_provesWith x (e_I r)) (fun x z r hs hk => v_X3_provesWith hs (by cases z <;> exact hk)) h)
/-! X3_oneMore -/
noncomputable def T_X3_oneMore_0 (v0 : Nat) (v1 : Nat) (v2 : Int32) (v3 : Int32) (σ : sS) : Option (sZ Int32) :=
  some (.inl (3, [.ref v0, .ref v1, .int v2, .int v3, .int 0], σ))
noncomputable def U_X3_oneMore_0 (vs : List Value) (σ : sS) : Option (sZ Int32) := (g_r vs).bind fun a0 => (g_r a0.2).bind fun a1 => (g_i a1.2).bind fun a2 => (g_i a2.2).bind fun a3 => (g_e a3.2).bind fun _ => T_X3_oneMore_0 a0.1 a1.1 a2.1 a3.1 σ
noncomputable def T_X3_oneMore_3 (v0 : Nat) (v1 : Nat) (v2 : Int32) (v3 : Int32) (v4 : Int32) (σ : sS) : Option (sZ Int32) :=
  if v3 ≤ v4 then (some (.inr ((-1), σ)))
  else ((F_X3_isOpenTo v0 v4 v2 σ).bind fun q1 =>
  if q1.1 = 0 then (some (.inl (35, [.ref v0, .ref v1, .int v2, .int v3, .int v4], q1.2)))
  else ((F_X3_provesWith v0 v1 v4 v2 q1.2).bind fun q2 =>
  if q2.1 = 0 then (some (.inl (35, [.ref v0, .ref v1, .int v2, .int v3, .int v4], q2.2)))
  else (some (.inr ((1 <<< (v4 &&& 31)), q2.2)))))
noncomputable def U_X3_oneMore_3 (vs : List Value) (σ : sS) : Option (sZ Int32) := (g_r vs).bind fun a0 => (g_r a0.2).bind fun a1 => (g_i a1.2).bind fun a2 => (g_i a2.2).bind fun a3 => (g_i a3.2).bind fun a4 => (g_e a4.2).bind fun _ => T_X3_oneMore_3 a0.1 a1.1 a2.1 a3.1 a4.1 σ
noncomputable def T_X3_oneMore_35 (v0 : Nat) (v1 : Nat) (v2 : Int32) (v3 : Int32) (v4 : Int32) (σ : sS) : Option (sZ Int32) :=
  some (.inl (3, [.ref v0, .ref v1, .int v2, .int v3, .int (v4 + 1)], σ))
noncomputable def U_X3_oneMore_35 (vs : List Value) (σ : sS) : Option (sZ Int32) := (g_r vs).bind fun a0 => (g_r a0.2).bind fun a1 => (g_i a1.2).bind fun a2 => (g_i a2.2).bind fun a3 => (g_i a3.2).bind fun a4 => (g_e a4.2).bind fun _ => T_X3_oneMore_35 a0.1 a1.1 a2.1 a3.1 a4.1 σ
noncomputable def S_X3_oneMore (x : sL) : Option (sZ Int32) := if x.1 = 0 then U_X3_oneMore_0 x.2.1 x.2.2 else if x.1 = 3 then U_X3_oneMore_3 x.2.1 x.2.2 else if x.1 = 35 then U_X3_oneMore_35 x.2.1 x.2.2 else none
def Y_X3_oneMore (pc : Nat) : List Nat := if pc = 0 then [0, 1, 2, 3] else if pc = 3 then [0, 1, 2, 3, 4] else if pc = 35 then [0, 1, 2, 3, 4] else []
noncomputable def F_X3_oneMore (v0 : Nat) (v1 : Nat) (v2 : Int32) (v3 : Int32) (σ : sS) : Option (Int32 × sS) := (s_is σ v0 3).bind fun _ => s_run S_X3_oneMore (0, [.ref v0, .ref v1, .int v2, .int v3], σ)
theorem l_X3_oneMore_0 {v0 : Nat} {v1 : Nat} {v2 : Int32} {v3 : Int32} {σ : sS} {z : sZ Int32} (hf : T_X3_oneMore_0 v0 v1 v2 v3 σ = some z) : s_lz σ z := by
  unfold T_X3_oneMore_0 at hf
  cases hf
  exact s_le.rf
theorem l_X3_oneMore_3 {v0 : Nat} {v1 : Nat} {v2 : Int32} {v3 : Int32} {v4 : Int32} {σ : sS} {z : sZ Int32} (hf : T_X3_oneMore_3 v0 v1 v2 v3 v4 σ = some z) : s_lz σ z := by
  unfold T_X3_oneMore_3 at hf
  rcases s_ite hf with ⟨-, hf⟩ | ⟨-, hf⟩
  · cases hf
    exact s_le.rf
  · obtain ⟨q1, hh, hf⟩ := s_bind hf
    refine s_lz.tr (l_X3_isOpenTo hh) ?_
    rcases s_ite hf with ⟨-, hf⟩ | ⟨-, hf⟩
    · cases hf
      exact s_le.rf
    · obtain ⟨q2, hh, hf⟩ := s_bind hf
      refine s_lz.tr (l_X3_provesWith hh) ?_
      rcases s_ite hf with ⟨-, hf⟩ | ⟨-, hf⟩
      · cases hf
        exact s_le.rf
      · cases hf
        exact s_le.rf
theorem l_X3_oneMore_35 {v0 : Nat} {v1 : Nat} {v2 : Int32} {v3 : Int32} {v4 : Int32} {σ : sS} {z : sZ Int32} (hf : T_X3_oneMore_35 v0 v1 v2 v3 v4 σ = some z) : s_lz σ z := by
  unfold T_X3_oneMore_35 at hf
  cases hf
  exact s_le.rf
theorem l_X3_oneMore_s {x : sL} {z : sZ Int32} (hs : S_X3_oneMore x = some z) : s_lz x.2.2 z := by
  obtain ⟨pc, vs, σ⟩ := x
  unfold S_X3_oneMore at hs
  dsimp only at hs ⊢
  rcases s_ite hs with ⟨c, hs⟩ | ⟨-, hs⟩
  · subst c
    unfold U_X3_oneMore_0 at hs
    obtain ⟨a0, g0, hs⟩ := s_bind hs
    obtain ⟨a1, g1, hs⟩ := s_bind hs
    obtain ⟨a2, g2, hs⟩ := s_bind hs
    obtain ⟨a3, g3, hs⟩ := s_bind hs
    obtain ⟨u9, ge, hs⟩ := s_bind hs
    exact l_X3_oneMore_0 hs
  rcases s_ite hs with ⟨c, hs⟩ | ⟨-, hs⟩
  · subst c
    unfold U_X3_oneMore_3 at hs
    obtain ⟨a0, g0, hs⟩ := s_bind hs
    obtain ⟨a1, g1, hs⟩ := s_bind hs
    obtain ⟨a2, g2, hs⟩ := s_bind hs
    obtain ⟨a3, g3, hs⟩ := s_bind hs
    obtain ⟨a4, g4, hs⟩ := s_bind hs
    obtain ⟨u9, ge, hs⟩ := s_bind hs
    exact l_X3_oneMore_3 hs
  rcases s_ite hs with ⟨c, hs⟩ | ⟨-, hs⟩
  · subst c
    unfold U_X3_oneMore_35 at hs
    obtain ⟨a0, g0, hs⟩ := s_bind hs
    obtain ⟨a1, g1, hs⟩ := s_bind hs
    obtain ⟨a2, g2, hs⟩ := s_bind hs
    obtain ⟨a3, g3, hs⟩ := s_bind hs
    obtain ⟨a4, g4, hs⟩ := s_bind hs
    obtain ⟨u9, ge, hs⟩ := s_bind hs
    exact l_X3_oneMore_35 hs
  cases hs
theorem l_X3_oneMore {v0 : Nat} {v1 : Nat} {v2 : Int32} {v3 : Int32} {σ : sS} {q : Int32 × sS} (h : F_X3_oneMore v0 v1 v2 v3 σ = some q) : s_le σ q.2 := by
  unfold F_X3_oneMore at h
  obtain ⟨-, -, h⟩ := s_bind h
  exact s_run_ind (V := fun x r => s_le x.2.2 r.2) (fun x z r hs hk => by
    have h9 := l_X3_oneMore_s hs
    cases z with
    | inl y => exact s_le.tr h9 hk
    | inr q => cases hk; exact h9) h
theorem b_X3_oneMore {v0 : Nat} {v1 : Nat} {v2 : Int32} {v3 : Int32} {σ : sS} {q : Int32 × sS} (h : F_X3_oneMore v0 v1 v2 v3 σ = some q) : ∃ fs, σ.1 v0 = some (.inr (3, fs)) := by
  unfold F_X3_oneMore at h
  obtain ⟨u, hu, -⟩ := s_bind h
  exact s_is_to hu
set_option maxRecDepth 100000 in
set_option maxHeartbeats 4000000 in
theorem v_X3_oneMore_0 {G : sG} {d : Nat} {vs0 : List Value} {σ0 : sS} {v0 : Nat} {v1 : Nat} {v2 : Int32} {v3 : Int32} {σ : sS} {z : sZ Int32} {r : Int32 × sS} (hf : T_X3_oneMore_0 v0 v1 v2 v3 σ = some z) (k : s_K G (d + 4) M_X3_oneMore vs0 σ0 Y_X3_oneMore e_I z r) : s_V G (d + 4) M_X3_oneMore vs0 σ0 Y_X3_oneMore (0, [.ref v0, .ref v1, .int v2, .int v3], σ) (e_I r) := by
  have le0 : s_le σ (e_I r).2 := s_lek hem_I (l_X3_oneMore_0 hf) k
  refine ⟨le0, ?_⟩
  intro p e s m below meth c H locs cells slots ls X I hn1 hn2 hl
  have hn : cells + σ0.2.1 ≤ σ.2.1 ∧ slots + σ0.2.2.1 ≤ σ.2.2.1 := ⟨hn1, hn2⟩
  have hl : lv_has ls 5 [(0, .ref v0), (1, .ref v1), (2, .int v2), (3, .int v3)] := hl
  have hx := X.1
  have hb : c.code = cX3_oneMore := X.2.1
  have hown : s.vm.findClass RX3 = some m.cls := X.2.2.2.2.2.1
  have hts := X.2.2.2.2.2.2.1
  refine W.eq (g2 := F0 m 0 ls []) rfl ?_
  unfold T_X3_oneMore_0 at hf
  cases hf
  have k : s_V G (d + 4) M_X3_oneMore vs0 σ0 Y_X3_oneMore (3, [.ref v0, .ref v1, .int v2, .int v3, .int 0], σ) (e_I r) := k
  refine lv_iconst (v := 0) hx hb dX3_oneMore_0 (by decide) ?_
  refine lv_istore (lv' := [(4, .int 0), (0, .ref v0), (1, .ref v1), (2, .int v2), (3, .int v3)]) hx hb dX3_oneMore_1 hl (by decide) rfl (fun ls hl => ?_)
  exact k.2 p e s m below meth c _ _ _ _ _ X I hn.1 hn.2 (lv_sub hl [1, 2, 3, 4, 0] rfl)
set_option maxRecDepth 100000 in
set_option maxHeartbeats 4000000 in
theorem v_X3_oneMore_3 {G : sG} {d : Nat} {vs0 : List Value} {σ0 : sS} {v0 : Nat} {v1 : Nat} {v2 : Int32} {v3 : Int32} {v4 : Int32} {σ : sS} {z : sZ Int32} {r : Int32 × sS} (hf : T_X3_oneMore_3 v0 v1 v2 v3 v4 σ = some z) (k : s_K G (d + 4) M_X3_oneMore vs0 σ0 Y_X3_oneMore e_I z r) : s_V G (d + 4) M_X3_oneMore vs0 σ0 Y_X3_oneMore (3, [.ref v0, .ref v1, .int v2, .int v3, .int v4], σ) (e_I r) := by
  have le0 : s_le σ (e_I r).2 := s_lek hem_I (l_X3_oneMore_3 hf) k
  refine ⟨le0, ?_⟩
  intro p e s m below meth c H locs cells slots ls X I hn1 hn2 hl
  have hn : cells + σ0.2.1 ≤ σ.2.1 ∧ slots + σ0.2.2.1 ≤ σ.2.2.1 := ⟨hn1, hn2⟩
  have hl : lv_has ls 5 [(0, .ref v0), (1, .ref v1), (2, .int v2), (3, .int v3), (4, .int v4)] := hl
  have hx := X.1
  have hb : c.code = cX3_oneMore := X.2.1
  have hown : s.vm.findClass RX3 = some m.cls := X.2.2.2.2.2.1
  have hts := X.2.2.2.2.2.2.1
  refine W.eq (g2 := F0 m 3 ls []) rfl ?_
  unfold T_X3_oneMore_3 at hf
  refine lv_iload hx hb dX3_oneMore_3 (lv_at hl 4 rfl) ?_
  refine lv_iload_n hx hb dX3_oneMore_5 rfl (lv_at hl 3 rfl) ?_
  rcases s_ite hf with ⟨c1, hf⟩ | ⟨c1, hf⟩
  · refine lv_icmp_ge (tgt := 41) hx hb dX3_oneMore_6 (by decide) (fun _ => ?_) (fun n => absurd c1 n)
    cases hf
    have k : _ = r := k
    subst k
    refine lv_iconst (v := (-1)) hx hb dX3_oneMore_41 (by decide) ?_
    exact r_iret X I rfl rfl rfl hn dX3_oneMore_42
  · refine lv_icmp_ge (tgt := 41) hx hb dX3_oneMore_6 (by decide) (fun n => absurd n c1) (fun _ => ?_)
    obtain ⟨q1, h2, hf⟩ := s_bind hf
    have le3 : s_le q1.2 (e_I r).2 := by
      refine s_lek hem_I ?_ k
      rcases s_ite hf with ⟨-, hf⟩ | ⟨-, hf⟩
      · cases hf
        exact s_le.rf
      · obtain ⟨q2, hh, hf⟩ := s_bind hf
        refine s_lz.tr (l_X3_provesWith hh) ?_
        rcases s_ite hf with ⟨-, hf⟩ | ⟨-, hf⟩
        · cases hf
          exact s_le.rf
        · cases hf
          exact s_le.rf
    refine lv_aload_n hx hb dX3_oneMore_9 rfl (lv_at hl 0 rfl) ?_
    refine lv_iload hx hb dX3_oneMore_10 (lv_at hl 4 rfl) ?_
    refine lv_iload_n hx hb dX3_oneMore_12 rfl (lv_at hl 2 rfl) ?_
    refine r_callV (Y := M_X3_isOpenTo) (v := some (.int q1.1)) X I w_1563 my_X3_isOpenTo (by omega) (t_X3_isOpenTo (G := G) (d := d + 1) h2) (b_X3_isOpenTo h2) rfl rfl hl.1 rfl (Nat.le_of_ble_eq_true rfl) hn le3 dX3_oneMore_13 (fun H locs cells slots I hn1 hn2 => ?_)
    have I : s_I G q1.2 s H locs := I
    have hn : cells + σ0.2.1 ≤ q1.2.2.1 ∧ slots + σ0.2.2.1 ≤ q1.2.2.2.1 := ⟨hn1, hn2⟩
    rcases s_ite hf with ⟨c4, hf⟩ | ⟨c4, hf⟩
    · refine lv_if_eq (tgt := 35) hx hb dX3_oneMore_16 (by decide) (fun _ => ?_) (fun n => absurd c4 n)
      cases hf
      have k : s_V G (d + 4) M_X3_oneMore vs0 σ0 Y_X3_oneMore (35, [.ref v0, .ref v1, .int v2, .int v3, .int v4], q1.2) (e_I r) := k
      exact k.2 p e s m below meth c _ _ _ _ _ X I hn.1 hn.2 (lv_sub hl [0, 1, 2, 3, 4] rfl)
    · refine lv_if_eq (tgt := 35) hx hb dX3_oneMore_16 (by decide) (fun n => absurd n c4) (fun _ => ?_)
      obtain ⟨q2, h5, hf⟩ := s_bind hf
      have le6 : s_le q2.2 (e_I r).2 := by
        refine s_lek hem_I ?_ k
        rcases s_ite hf with ⟨-, hf⟩ | ⟨-, hf⟩
        · cases hf
          exact s_le.rf
        · cases hf
          exact s_le.rf
      refine lv_aload_n hx hb dX3_oneMore_19 rfl (lv_at hl 0 rfl) ?_
      refine lv_aload_n hx hb dX3_oneMore_20 rfl (lv_at hl 1 rfl) ?_
      refine lv_iload hx hb dX3_oneMore_21 (lv_at hl 4 rfl) ?_
      refine lv_iload_n hx hb dX3_oneMore_23 rfl (lv_at hl 2 rfl) ?_
      refine r_callV (Y := M_X3_provesWith) (v := some (.int q2.1)) X I w_1568 my_X3_provesWith (by omega) (t_X3_provesWith (G := G) (d := d + 0) h5) (b_X3_provesWith h5) rfl rfl hl.1 rfl (Nat.le_of_ble_eq_true rfl) hn le6 dX3_oneMore_24 (fun H locs cells slots I hn1 hn2 => ?_)
      have I : s_I G q2.2 s H locs := I
      have hn : cells + σ0.2.1 ≤ q2.2.2.1 ∧ slots + σ0.2.2.1 ≤ q2.2.2.2.1 := ⟨hn1, hn2⟩
      rcases s_ite hf with ⟨c7, hf⟩ | ⟨c7, hf⟩
      · refine lv_if_eq (tgt := 35) hx hb dX3_oneMore_27 (by decide) (fun _ => ?_) (fun n => absurd c7 n)
        cases hf
        have k : s_V G (d + 4) M_X3_oneMore vs0 σ0 Y_X3_oneMore (35, [.ref v0, .ref v1, .int v2, .int v3, .int v4], q2.2) (e_I r) := k
        exact k.2 p e s m below meth c _ _ _ _ _ X I hn.1 hn.2 (lv_sub hl [0, 1, 2, 3, 4] rfl)
      · refine lv_if_eq (tgt := 35) hx hb dX3_oneMore_27 (by decide) (fun n => absurd n c7) (fun _ => ?_)
        cases hf
        have k : _ = r := k
        subst k
        refine lv_iconst (v := 1) hx hb dX3_oneMore_30 (by decide) ?_
        refine lv_iload hx hb dX3_oneMore_31 (lv_at hl 4 rfl) ?_
        refine lv_ishl hx hb dX3_oneMore_33 ?_
        exact r_iret X I rfl rfl rfl hn dX3_oneMore_34
set_option maxRecDepth 100000 in
set_option maxHeartbeats 4000000 in
theorem v_X3_oneMore_35 {G : sG} {d : Nat} {vs0 : List Value} {σ0 : sS} {v0 : Nat} {v1 : Nat} {v2 : Int32} {v3 : Int32} {v4 : Int32} {σ : sS} {z : sZ Int32} {r : Int32 × sS} (hf : T_X3_oneMore_35 v0 v1 v2 v3 v4 σ = some z) (k : s_K G (d + 4) M_X3_oneMore vs0 σ0 Y_X3_oneMore e_I z r) : s_V G (d + 4) M_X3_oneMore vs0 σ0 Y_X3_oneMore (35, [.ref v0, .ref v1, .int v2, .int v3, .int v4], σ) (e_I r) := by
  have le0 : s_le σ (e_I r).2 := s_lek hem_I (l_X3_oneMore_35 hf) k
  refine ⟨le0, ?_⟩
  intro p e s m below meth c H locs cells slots ls X I hn1 hn2 hl
  have hn : cells + σ0.2.1 ≤ σ.2.1 ∧ slots + σ0.2.2.1 ≤ σ.2.2.1 := ⟨hn1, hn2⟩
  have hl : lv_has ls 5 [(0, .ref v0), (1, .ref v1), (2, .int v2), (3, .int v3), (4, .int v4)] := hl
  have hx := X.1
  have hb : c.code = cX3_oneMore := X.2.1
  have hown : s.vm.findClass RX3 = some m.cls := X.2.2.2.2.2.1
  have hts := X.2.2.2.2.2.2.1
  refine W.eq (g2 := F0 m 35 ls []) rfl ?_
  unfold T_X3_oneMore_35 at hf
  cases hf
  have k : s_V G (d + 4) M_X3_oneMore vs0 σ0 Y_X3_oneMore (3, [.ref v0, .ref v1, .int v2, .int v3, .int (v4 + 1)], σ) (e_I r) := k
  refine lv_iinc (v := (v4 + 1)) (lv' := [(4, .int (v4 + 1)), (0, .ref v0), (1, .ref v1), (2, .int v2), (3, .int v3)]) hx hb dX3_oneMore_35 hl (k := 4) rfl rfl (by decide) rfl (fun ls hl => ?_)
  refine lv_goto (tgt := 3) hx hb dX3_oneMore_38 (by decide) ?_
  exact k.2 p e s m below meth c _ _ _ _ _ X I hn.1 hn.2 (lv_sub hl [1, 2, 3, 4, 0] rfl)
theorem v_X3_oneMore {G : sG} {d : Nat} {vs0 : List Value} {σ0 : sS} {x : sL} {z : sZ Int32} {r : Int32 × sS} (hs : S_X3_oneMore x = some z) (k : s_K G (d + 4) M_X3_oneMore vs0 σ0 Y_X3_oneMore e_I z r) : s_V G (d + 4) M_X3_oneMore vs0 σ0 Y_X3_oneMore x (e_I r) := by
  obtain ⟨pc, vs, σ⟩ := x
  unfold S_X3_oneMore at hs
  dsimp only at hs
  rcases s_ite hs with ⟨c, hs⟩ | ⟨-, hs⟩
  · subst c
    unfold U_X3_oneMore_0 at hs
    obtain ⟨a0, g0, hs⟩ := s_bind hs
    obtain ⟨a1, g1, hs⟩ := s_bind hs
    obtain ⟨a2, g2, hs⟩ := s_bind hs
    obtain ⟨a3, g3, hs⟩ := s_bind hs
    obtain ⟨u9, ge, hs⟩ := s_bind hs
    rw [g_r_to g0, g_r_to g1, g_i_to g2, g_i_to g3, g_e_to ge]
    exact v_X3_oneMore_0 hs k
  rcases s_ite hs with ⟨c, hs⟩ | ⟨-, hs⟩
  · subst c
    unfold U_X3_oneMore_3 at hs
    obtain ⟨a0, g0, hs⟩ := s_bind hs
    obtain ⟨a1, g1, hs⟩ := s_bind hs
    obtain ⟨a2, g2, hs⟩ := s_bind hs
    obtain ⟨a3, g3, hs⟩ := s_bind hs
    obtain ⟨a4, g4, hs⟩ := s_bind hs
    obtain ⟨u9, ge, hs⟩ := s_bind hs
    rw [g_r_to g0, g_r_to g1, g_i_to g2, g_i_to g3, g_i_to g4, g_e_to ge]
    exact v_X3_oneMore_3 hs k
  rcases s_ite hs with ⟨c, hs⟩ | ⟨-, hs⟩
  · subst c
    unfold U_X3_oneMore_35 at hs
    obtain ⟨a0, g0, hs⟩ := s_bind hs
    obtain ⟨a1, g1, hs⟩ := s_bind hs
    obtain ⟨a2, g2, hs⟩ := s_bind hs
    obtain ⟨a3, g3, hs⟩ := s_bind hs
    obtain ⟨a4, g4, hs⟩ := s_bind hs
    obtain ⟨u9, ge, hs⟩ := s_bind hs
    rw [g_r_to g0, g_r_to g1, g_i_to g2, g_i_to g3, g_i_to g4, g_e_to ge]
    exact v_X3_oneMore_35 hs k
  cases hs
theorem t_X3_oneMore {G : sG} {d : Nat} {v0 : Nat} {v1 : Nat} {v2 : Int32} {v3 : Int32} {σ : sS} {q : Int32 × sS} (h : F_X3_oneMore v0 v1 v2 v3 σ = some q) : s_T G (d + 4) M_X3_oneMore [.ref v0, .ref v1, .int v2, .int v3] σ (e_I q) := by
  unfold F_X3_oneMore at h
  obtain ⟨-, -, h⟩ := s_bind h
  exact s_ofV rfl (by decide) (Nat.le_of_ble_eq_true rfl) rfl rfl (s_run_ind (V := fun x r => s_V G (d + 4) M_X3_oneMore [.ref v0, .ref v1, .int v2, .int v3] σ Y_X3_oneMore x (e_I r)) (fun x z r hs hk => v_X3_oneMore hs (by cases z <;> exact hk)) h)
/-! X3_twoMore -/
noncomputable def T_X3_twoMore_0 (v0 : Nat) (v1 : Nat) (v2 : Int32) (v3 : Int32) (σ : sS) : Option (sZ Int32) :=
  some (.inl (3, [.ref v0, .ref v1, .int v2, .int v3, .int 0], σ))
noncomputable def U_X3_twoMore_0 (vs : List Value) (σ : sS) : Option (sZ Int32) := (g_r vs).bind fun a0 => (g_r a0.2).bind fun a1 => (g_i a1.2).bind fun a2 => (g_i a2.2).bind fun a3 => (g_e a3.2).bind fun _ => T_X3_twoMore_0 a0.1 a1.1 a2.1 a3.1 σ
noncomputable def T_X3_twoMore_3 (v0 : Nat) (v1 : Nat) (v2 : Int32) (v3 : Int32) (v4 : Int32) (σ : sS) : Option (sZ Int32) :=
  if v3 ≤ v4 then (some (.inr ((-1), σ)))
  else ((F_X3_isOpenTo v0 v4 v2 σ).bind fun q1 =>
  if q1.1 = 0 then (some (.inl (72, [.ref v0, .ref v1, .int v2, .int v3, .int v4], q1.2)))
  else ((s_fr q1.2 v0 3 2).bind fun x2 =>
  (F_X3_narrow v0 v1 v4 x2 q1.2).bind fun q3 =>
  (s_fr q3.2 v0 3 2).bind fun x4 =>
  (F_X3_isEmpty v0 x4 q3.2).bind fun q5 =>
  if q5.1 = 0 then ((s_fr q5.2 v0 3 2).bind fun x6 =>
  (F_X3_oneMore v0 x6 v2 v4 q5.2).bind fun q7 =>
  some (.inl (56, [.ref v0, .ref v1, .int v2, .int v3, .int v4, .int q7.1], q7.2)))
  else (some (.inl (56, [.ref v0, .ref v1, .int v2, .int v3, .int v4, .int (-1)], q5.2)))))
noncomputable def U_X3_twoMore_3 (vs : List Value) (σ : sS) : Option (sZ Int32) := (g_r vs).bind fun a0 => (g_r a0.2).bind fun a1 => (g_i a1.2).bind fun a2 => (g_i a2.2).bind fun a3 => (g_i a3.2).bind fun a4 => (g_e a4.2).bind fun _ => T_X3_twoMore_3 a0.1 a1.1 a2.1 a3.1 a4.1 σ
noncomputable def T_X3_twoMore_56 (v0 : Nat) (v1 : Nat) (v2 : Int32) (v3 : Int32) (v4 : Int32) (w0 : Int32) (σ : sS) : Option (sZ Int32) :=
  if w0 = (-1) then (some (.inl (72, [.ref v0, .ref v1, .int v2, .int v3, .int v4], σ)))
  else (some (.inr ((w0 ||| (1 <<< (v4 &&& 31))), σ)))
noncomputable def U_X3_twoMore_56 (vs : List Value) (σ : sS) : Option (sZ Int32) := (g_r vs).bind fun a0 => (g_r a0.2).bind fun a1 => (g_i a1.2).bind fun a2 => (g_i a2.2).bind fun a3 => (g_i a3.2).bind fun a4 => (g_i a4.2).bind fun a5 => (g_e a5.2).bind fun _ => T_X3_twoMore_56 a0.1 a1.1 a2.1 a3.1 a4.1 a5.1 σ
noncomputable def T_X3_twoMore_72 (v0 : Nat) (v1 : Nat) (v2 : Int32) (v3 : Int32) (v4 : Int32) (σ : sS) : Option (sZ Int32) :=
  some (.inl (3, [.ref v0, .ref v1, .int v2, .int v3, .int (v4 + 1)], σ))
noncomputable def U_X3_twoMore_72 (vs : List Value) (σ : sS) : Option (sZ Int32) := (g_r vs).bind fun a0 => (g_r a0.2).bind fun a1 => (g_i a1.2).bind fun a2 => (g_i a2.2).bind fun a3 => (g_i a3.2).bind fun a4 => (g_e a4.2).bind fun _ => T_X3_twoMore_72 a0.1 a1.1 a2.1 a3.1 a4.1 σ
noncomputable def S_X3_twoMore (x : sL) : Option (sZ Int32) := if x.1 = 0 then U_X3_twoMore_0 x.2.1 x.2.2 else if x.1 = 3 then U_X3_twoMore_3 x.2.1 x.2.2 else if x.1 = 56 then U_X3_twoMore_56 x.2.1 x.2.2 else if x.1 = 72 then U_X3_twoMore_72 x.2.1 x.2.2 else none
def Y_X3_twoMore (pc : Nat) : List Nat := if pc = 0 then [0, 1, 2, 3] else if pc = 3 then [0, 1, 2, 3, 4] else if pc = 56 then [0, 1, 2, 3, 4] else if pc = 72 then [0, 1, 2, 3, 4] else []
noncomputable def F_X3_twoMore (v0 : Nat) (v1 : Nat) (v2 : Int32) (v3 : Int32) (σ : sS) : Option (Int32 × sS) := (s_is σ v0 3).bind fun _ => s_run S_X3_twoMore (0, [.ref v0, .ref v1, .int v2, .int v3], σ)
theorem l_X3_twoMore_0 {v0 : Nat} {v1 : Nat} {v2 : Int32} {v3 : Int32} {σ : sS} {z : sZ Int32} (hf : T_X3_twoMore_0 v0 v1 v2 v3 σ = some z) : s_lz σ z := by
  unfold T_X3_twoMore_0 at hf
  cases hf
  exact s_le.rf
theorem l_X3_twoMore_3 {v0 : Nat} {v1 : Nat} {v2 : Int32} {v3 : Int32} {v4 : Int32} {σ : sS} {z : sZ Int32} (hf : T_X3_twoMore_3 v0 v1 v2 v3 v4 σ = some z) : s_lz σ z := by
  unfold T_X3_twoMore_3 at hf
  rcases s_ite hf with ⟨-, hf⟩ | ⟨-, hf⟩
  · cases hf
    exact s_le.rf
  · obtain ⟨q1, hh, hf⟩ := s_bind hf
    refine s_lz.tr (l_X3_isOpenTo hh) ?_
    rcases s_ite hf with ⟨-, hf⟩ | ⟨-, hf⟩
    · cases hf
      exact s_le.rf
    · obtain ⟨x2, -, hf⟩ := s_bind hf
      obtain ⟨q3, hh, hf⟩ := s_bind hf
      refine s_lz.tr (l_X3_narrow hh) ?_
      obtain ⟨x4, -, hf⟩ := s_bind hf
      obtain ⟨q5, hh, hf⟩ := s_bind hf
      refine s_lz.tr (l_X3_isEmpty hh) ?_
      rcases s_ite hf with ⟨-, hf⟩ | ⟨-, hf⟩
      · obtain ⟨x6, -, hf⟩ := s_bind hf
        obtain ⟨q7, hh, hf⟩ := s_bind hf
        refine s_lz.tr (l_X3_oneMore hh) ?_
        cases hf
        exact s_le.rf
      · cases hf
        exact s_le.rf
theorem l_X3_twoMore_56 {v0 : Nat} {v1 : Nat} {v2 : Int32} {v3 : Int32} {v4 : Int32} {w0 : Int32} {σ : sS} {z : sZ Int32} (hf : T_X3_twoMore_56 v0 v1 v2 v3 v4 w0 σ = some z) : s_lz σ z := by
  unfold T_X3_twoMore_56 at hf
  rcases s_ite hf with ⟨-, hf⟩ | ⟨-, hf⟩
  · cases hf
    exact s_le.rf
  · cases hf
    exact s_le.rf
theorem l_X3_twoMore_72 {v0 : Nat} {v1 : Nat} {v2 : Int32} {v3 : Int32} {v4 : Int32} {σ : sS} {z : sZ Int32} (hf : T_X3_twoMore_72 v0 v1 v2 v3 v4 σ = some z) : s_lz σ z := by
  unfold T_X3_twoMore_72 at hf
  cases hf
  exact s_le.rf
theorem l_X3_twoMore_s {x : sL} {z : sZ Int32} (hs : S_X3_twoMore x = some z) : s_lz x.2.2 z := by
  obtain ⟨pc, vs, σ⟩ := x
  unfold S_X3_twoMore at hs
  dsimp only at hs ⊢
  rcases s_ite hs with ⟨c, hs⟩ | ⟨-, hs⟩
  · subst c
    unfold U_X3_twoMore_0 at hs
    obtain ⟨a0, g0, hs⟩ := s_bind hs
    obtain ⟨a1, g1, hs⟩ := s_bind hs
    obtain ⟨a2, g2, hs⟩ := s_bind hs
    obtain ⟨a3, g3, hs⟩ := s_bind hs
    obtain ⟨u9, ge, hs⟩ := s_bind hs
    exact l_X3_twoMore_0 hs
  rcases s_ite hs with ⟨c, hs⟩ | ⟨-, hs⟩
  · subst c
    unfold U_X3_twoMore_3 at hs
    obtain ⟨a0, g0, hs⟩ := s_bind hs
    obtain ⟨a1, g1, hs⟩ := s_bind hs
    obtain ⟨a2, g2, hs⟩ := s_bind hs
    obtain ⟨a3, g3, hs⟩ := s_bind hs
    obtain ⟨a4, g4, hs⟩ := s_bind hs
    obtain ⟨u9, ge, hs⟩ := s_bind hs
    exact l_X3_twoMore_3 hs
  rcases s_ite hs with ⟨c, hs⟩ | ⟨-, hs⟩
  · subst c
    unfold U_X3_twoMore_56 at hs
    obtain ⟨a0, g0, hs⟩ := s_bind hs
    obtain ⟨a1, g1, hs⟩ := s_bind hs
    obtain ⟨a2, g2, hs⟩ := s_bind hs
    obtain ⟨a3, g3, hs⟩ := s_bind hs
    obtain ⟨a4, g4, hs⟩ := s_bind hs
    obtain ⟨a5, g5, hs⟩ := s_bind hs
    obtain ⟨u9, ge, hs⟩ := s_bind hs
    exact l_X3_twoMore_56 hs
  rcases s_ite hs with ⟨c, hs⟩ | ⟨-, hs⟩
  · subst c
    unfold U_X3_twoMore_72 at hs
    obtain ⟨a0, g0, hs⟩ := s_bind hs
    obtain ⟨a1, g1, hs⟩ := s_bind hs
    obtain ⟨a2, g2, hs⟩ := s_bind hs
    obtain ⟨a3, g3, hs⟩ := s_bind hs
    obtain ⟨a4, g4, hs⟩ := s_bind hs
    obtain ⟨u9, ge, hs⟩ := s_bind hs
    exact l_X3_twoMore_72 hs
  cases hs
theorem l_X3_twoMore {v0 : Nat} {v1 : Nat} {v2 : Int32} {v3 : Int32} {σ : sS} {q : Int32 × sS} (h : F_X3_twoMore v0 v1 v2 v3 σ = some q) : s_le σ q.2 := by
  unfold F_X3_twoMore at h
  obtain ⟨-, -, h⟩ := s_bind h
  exact s_run_ind (V := fun x r => s_le x.2.2 r.2) (fun x z r hs hk => by
    have h9 := l_X3_twoMore_s hs
    cases z with
    | inl y => exact s_le.tr h9 hk
    | inr q => cases hk; exact h9) h
theorem b_X3_twoMore {v0 : Nat} {v1 : Nat} {v2 : Int32} {v3 : Int32} {σ : sS} {q : Int32 × sS} (h : F_X3_twoMore v0 v1 v2 v3 σ = some q) : ∃ fs, σ.1 v0 = some (.inr (3, fs)) := by
  unfold F_X3_twoMore at h
  obtain ⟨u, hu, -⟩ := s_bind h
  exact s_is_to hu
set_option maxRecDepth 100000 in
set_option maxHeartbeats 4000000 in
theorem v_X3_twoMore_0 {G : sG} {d : Nat} {vs0 : List Value} {σ0 : sS} {v0 : Nat} {v1 : Nat} {v2 : Int32} {v3 : Int32} {σ : sS} {z : sZ Int32} {r : Int32 × sS} (hf : T_X3_twoMore_0 v0 v1 v2 v3 σ = some z) (k : s_K G (d + 5) M_X3_twoMore vs0 σ0 Y_X3_twoMore e_I z r) : s_V G (d + 5) M_X3_twoMore vs0 σ0 Y_X3_twoMore (0, [.ref v0, .ref v1, .int v2, .int v3], σ) (e_I r) := by
  have le0 : s_le σ (e_I r).2 := s_lek hem_I (l_X3_twoMore_0 hf) k
  refine ⟨le0, ?_⟩
  intro p e s m below meth c H locs cells slots ls X I hn1 hn2 hl
  have hn : cells + σ0.2.1 ≤ σ.2.1 ∧ slots + σ0.2.2.1 ≤ σ.2.2.1 := ⟨hn1, hn2⟩
  have hl : lv_has ls 6 [(0, .ref v0), (1, .ref v1), (2, .int v2), (3, .int v3)] := hl
  have hx := X.1
  have hb : c.code = cX3_twoMore := X.2.1
  have hown : s.vm.findClass RX3 = some m.cls := X.2.2.2.2.2.1
  have hts := X.2.2.2.2.2.2.1
  refine W.eq (g2 := F0 m 0 ls []) rfl ?_
  unfold T_X3_twoMore_0 at hf
  cases hf
  have k : s_V G (d + 5) M_X3_twoMore vs0 σ0 Y_X3_twoMore (3, [.ref v0, .ref v1, .int v2, .int v3, .int 0], σ) (e_I r) := k
  refine lv_iconst (v := 0) hx hb dX3_twoMore_0 (by decide) ?_
  refine lv_istore (lv' := [(4, .int 0), (0, .ref v0), (1, .ref v1), (2, .int v2), (3, .int v3)]) hx hb dX3_twoMore_1 hl (by decide) rfl (fun ls hl => ?_)
  exact k.2 p e s m below meth c _ _ _ _ _ X I hn.1 hn.2 (lv_sub hl [1, 2, 3, 4, 0] rfl)
set_option maxRecDepth 100000 in
set_option maxHeartbeats 4000000 in
theorem v_X3_twoMore_3 {G : sG} {d : Nat} {vs0 : List Value} {σ0 : sS} {v0 : Nat} {v1 : Nat} {v2 : Int32} {v3 : Int32} {v4 : Int32} {σ : sS} {z : sZ Int32} {r : Int32 × sS} (hf : T_X3_twoMore_3 v0 v1 v2 v3 v4 σ = some z) (k : s_K G (d + 5) M_X3_twoMore vs0 σ0 Y_X3_twoMore e_I z r) : s_V G (d + 5) M_X3_twoMore vs0 σ0 Y_X3_twoMore (3, [.ref v0, .ref v1, .int v2, .int v3, .int v4], σ) (e_I r) := by
  have le0 : s_le σ (e_I r).2 := s_lek hem_I (l_X3_twoMore_3 hf) k
  refine ⟨le0, ?_⟩
  intro p e s m below meth c H locs cells slots ls X I hn1 hn2 hl
  have hn : cells + σ0.2.1 ≤ σ.2.1 ∧ slots + σ0.2.2.1 ≤ σ.2.2.1 := ⟨hn1, hn2⟩
  have hl : lv_has ls 6 [(0, .ref v0), (1, .ref v1), (2, .int v2), (3, .int v3), (4, .int v4)] := hl
  have hx := X.1
  have hb : c.code = cX3_twoMore := X.2.1
  have hown : s.vm.findClass RX3 = some m.cls := X.2.2.2.2.2.1
  have hts := X.2.2.2.2.2.2.1
  refine W.eq (g2 := F0 m 3 ls []) rfl ?_
  unfold T_X3_twoMore_3 at hf
  refine lv_iload hx hb dX3_twoMore_3 (lv_at hl 4 rfl) ?_
  refine lv_iload_n hx hb dX3_twoMore_5 rfl (lv_at hl 3 rfl) ?_
  rcases s_ite hf with ⟨c1, hf⟩ | ⟨c1, hf⟩
  · refine lv_icmp_ge (tgt := 78) hx hb dX3_twoMore_6 (by decide) (fun _ => ?_) (fun n => absurd c1 n)
    cases hf
    have k : _ = r := k
    subst k
    refine lv_iconst (v := (-1)) hx hb dX3_twoMore_78 (by decide) ?_
    exact r_iret X I rfl rfl rfl hn dX3_twoMore_79
  · refine lv_icmp_ge (tgt := 78) hx hb dX3_twoMore_6 (by decide) (fun n => absurd n c1) (fun _ => ?_)
    obtain ⟨q1, h2, hf⟩ := s_bind hf
    have le3 : s_le q1.2 (e_I r).2 := by
      refine s_lek hem_I ?_ k
      rcases s_ite hf with ⟨-, hf⟩ | ⟨-, hf⟩
      · cases hf
        exact s_le.rf
      · obtain ⟨x2, -, hf⟩ := s_bind hf
        obtain ⟨q3, hh, hf⟩ := s_bind hf
        refine s_lz.tr (l_X3_narrow hh) ?_
        obtain ⟨x4, -, hf⟩ := s_bind hf
        obtain ⟨q5, hh, hf⟩ := s_bind hf
        refine s_lz.tr (l_X3_isEmpty hh) ?_
        rcases s_ite hf with ⟨-, hf⟩ | ⟨-, hf⟩
        · obtain ⟨x6, -, hf⟩ := s_bind hf
          obtain ⟨q7, hh, hf⟩ := s_bind hf
          refine s_lz.tr (l_X3_oneMore hh) ?_
          cases hf
          exact s_le.rf
        · cases hf
          exact s_le.rf
    refine lv_aload_n hx hb dX3_twoMore_9 rfl (lv_at hl 0 rfl) ?_
    refine lv_iload hx hb dX3_twoMore_10 (lv_at hl 4 rfl) ?_
    refine lv_iload_n hx hb dX3_twoMore_12 rfl (lv_at hl 2 rfl) ?_
    refine r_callV (Y := M_X3_isOpenTo) (v := some (.int q1.1)) X I w_1563 my_X3_isOpenTo (by omega) (t_X3_isOpenTo (G := G) (d := d + 2) h2) (b_X3_isOpenTo h2) rfl rfl hl.1 rfl (Nat.le_of_ble_eq_true rfl) hn le3 dX3_twoMore_13 (fun H locs cells slots I hn1 hn2 => ?_)
    have I : s_I G q1.2 s H locs := I
    have hn : cells + σ0.2.1 ≤ q1.2.2.1 ∧ slots + σ0.2.2.1 ≤ q1.2.2.2.1 := ⟨hn1, hn2⟩
    rcases s_ite hf with ⟨c4, hf⟩ | ⟨c4, hf⟩
    · refine lv_if_eq (tgt := 72) hx hb dX3_twoMore_16 (by decide) (fun _ => ?_) (fun n => absurd c4 n)
      cases hf
      have k : s_V G (d + 5) M_X3_twoMore vs0 σ0 Y_X3_twoMore (72, [.ref v0, .ref v1, .int v2, .int v3, .int v4], q1.2) (e_I r) := k
      exact k.2 p e s m below meth c _ _ _ _ _ X I hn.1 hn.2 (lv_sub hl [0, 1, 2, 3, 4] rfl)
    · refine lv_if_eq (tgt := 72) hx hb dX3_twoMore_16 (by decide) (fun n => absurd n c4) (fun _ => ?_)
      obtain ⟨x2, h5, hf⟩ := s_bind hf
      obtain ⟨q3, h6, hf⟩ := s_bind hf
      obtain ⟨x4, h7, hf⟩ := s_bind hf
      obtain ⟨q5, h8, hf⟩ := s_bind hf
      have le9 : s_le q5.2 (e_I r).2 := by
        refine s_lek hem_I ?_ k
        rcases s_ite hf with ⟨-, hf⟩ | ⟨-, hf⟩
        · obtain ⟨x6, -, hf⟩ := s_bind hf
          obtain ⟨q7, hh, hf⟩ := s_bind hf
          refine s_lz.tr (l_X3_oneMore hh) ?_
          cases hf
          exact s_le.rf
        · cases hf
          exact s_le.rf
      have le10 := s_le.tr (l_X3_isEmpty h8) le9
      refine lv_aload_n hx hb dX3_twoMore_19 rfl (lv_at hl 0 rfl) ?_
      refine lv_aload_n hx hb dX3_twoMore_20 rfl (lv_at hl 1 rfl) ?_
      refine lv_iload hx hb dX3_twoMore_21 (lv_at hl 4 rfl) ?_
      refine lv_aload_n hx hb dX3_twoMore_23 rfl (lv_at hl 0 rfl) ?_
      refine r_gr X I fl_X3_17 h5 dX3_twoMore_24 ?_
      refine r_callV (Y := M_X3_narrow) (v := none) X I w_1250 my_X3_narrow (by omega) (t_X3_narrow (G := G) (d := d + 1) h6) (b_X3_narrow h6) rfl rfl hl.1 rfl (Nat.le_of_ble_eq_true rfl) hn le10 dX3_twoMore_27 (fun H locs cells slots I hn1 hn2 => ?_)
      have I : s_I G q3.2 s H locs := I
      have hn : cells + σ0.2.1 ≤ q3.2.2.1 ∧ slots + σ0.2.2.1 ≤ q3.2.2.2.1 := ⟨hn1, hn2⟩
      refine lv_aload_n hx hb dX3_twoMore_30 rfl (lv_at hl 0 rfl) ?_
      refine lv_aload_n hx hb dX3_twoMore_31 rfl (lv_at hl 0 rfl) ?_
      refine r_gr X I fl_X3_17 h7 dX3_twoMore_32 ?_
      refine r_callV (Y := M_X3_isEmpty) (v := some (.int q5.1)) X I w_1555 my_X3_isEmpty (by omega) (t_X3_isEmpty (G := G) (d := d + 0) h8) (b_X3_isEmpty h8) rfl rfl hl.1 rfl (Nat.le_of_ble_eq_true rfl) hn le9 dX3_twoMore_35 (fun H locs cells slots I hn1 hn2 => ?_)
      have I : s_I G q5.2 s H locs := I
      have hn : cells + σ0.2.1 ≤ q5.2.2.1 ∧ slots + σ0.2.2.1 ≤ q5.2.2.2.1 := ⟨hn1, hn2⟩
      rcases s_ite hf with ⟨c11, hf⟩ | ⟨c11, hf⟩
      · refine lv_if_eq (tgt := 45) hx hb dX3_twoMore_38 (by decide) (fun _ => ?_) (fun n => absurd c11 n)
        obtain ⟨x6, h12, hf⟩ := s_bind hf
        obtain ⟨q7, h13, hf⟩ := s_bind hf
        cases hf
        have k : s_V G (d + 5) M_X3_twoMore vs0 σ0 Y_X3_twoMore (56, [.ref v0, .ref v1, .int v2, .int v3, .int v4, .int q7.1], q7.2) (e_I r) := k
        have le14 : s_le q7.2 (e_I r).2 := k.1
        refine lv_aload_n hx hb dX3_twoMore_45 rfl (lv_at hl 0 rfl) ?_
        refine lv_aload_n hx hb dX3_twoMore_46 rfl (lv_at hl 0 rfl) ?_
        refine r_gr X I fl_X3_17 h12 dX3_twoMore_47 ?_
        refine lv_iload_n hx hb dX3_twoMore_50 rfl (lv_at hl 2 rfl) ?_
        refine lv_iload hx hb dX3_twoMore_51 (lv_at hl 4 rfl) ?_
        refine r_callV (Y := M_X3_oneMore) (v := some (.int q7.1)) X I w_1559 my_X3_oneMore (by omega) (t_X3_oneMore (G := G) (d := d + 0) h13) (b_X3_oneMore h13) rfl rfl hl.1 rfl (Nat.le_of_ble_eq_true rfl) hn le14 dX3_twoMore_53 (fun H locs cells slots I hn1 hn2 => ?_)
        have I : s_I G q7.2 s H locs := I
        have hn : cells + σ0.2.1 ≤ q7.2.2.1 ∧ slots + σ0.2.2.1 ≤ q7.2.2.2.1 := ⟨hn1, hn2⟩
        exact k.2 p e s m below meth c _ _ _ _ _ X I hn.1 hn.2 (lv_sub hl [0, 1, 2, 3, 4] rfl)
      · refine lv_if_eq (tgt := 45) hx hb dX3_twoMore_38 (by decide) (fun n => absurd n c11) (fun _ => ?_)
        cases hf
        have k : s_V G (d + 5) M_X3_twoMore vs0 σ0 Y_X3_twoMore (56, [.ref v0, .ref v1, .int v2, .int v3, .int v4, .int (-1)], q5.2) (e_I r) := k
        refine lv_iconst (v := (-1)) hx hb dX3_twoMore_41 (by decide) ?_
        refine lv_goto (tgt := 56) hx hb dX3_twoMore_42 (by decide) ?_
        exact k.2 p e s m below meth c _ _ _ _ _ X I hn.1 hn.2 (lv_sub hl [0, 1, 2, 3, 4] rfl)
set_option maxRecDepth 100000 in
set_option maxHeartbeats 4000000 in
theorem v_X3_twoMore_56 {G : sG} {d : Nat} {vs0 : List Value} {σ0 : sS} {v0 : Nat} {v1 : Nat} {v2 : Int32} {v3 : Int32} {v4 : Int32} {w0 : Int32} {σ : sS} {z : sZ Int32} {r : Int32 × sS} (hf : T_X3_twoMore_56 v0 v1 v2 v3 v4 w0 σ = some z) (k : s_K G (d + 5) M_X3_twoMore vs0 σ0 Y_X3_twoMore e_I z r) : s_V G (d + 5) M_X3_twoMore vs0 σ0 Y_X3_twoMore (56, [.ref v0, .ref v1, .int v2, .int v3, .int v4, .int w0], σ) (e_I r) := by
  have le0 : s_le σ (e_I r).2 := s_lek hem_I (l_X3_twoMore_56 hf) k
  refine ⟨le0, ?_⟩
  intro p e s m below meth c H locs cells slots ls X I hn1 hn2 hl
  have hn : cells + σ0.2.1 ≤ σ.2.1 ∧ slots + σ0.2.2.1 ≤ σ.2.2.1 := ⟨hn1, hn2⟩
  have hl : lv_has ls 6 [(0, .ref v0), (1, .ref v1), (2, .int v2), (3, .int v3), (4, .int v4)] := hl
  have hx := X.1
  have hb : c.code = cX3_twoMore := X.2.1
  have hown : s.vm.findClass RX3 = some m.cls := X.2.2.2.2.2.1
  have hts := X.2.2.2.2.2.2.1
  refine W.eq (g2 := F0 m 56 ls [.int w0]) rfl ?_
  unfold T_X3_twoMore_56 at hf
  refine lv_istore (lv' := [(5, .int w0), (0, .ref v0), (1, .ref v1), (2, .int v2), (3, .int v3), (4, .int v4)]) hx hb dX3_twoMore_56 hl (by decide) rfl (fun ls hl => ?_)
  refine lv_iload hx hb dX3_twoMore_58 (lv_at hl 0 rfl) ?_
  refine lv_iconst (v := (-1)) hx hb dX3_twoMore_60 (by decide) ?_
  rcases s_ite hf with ⟨c1, hf⟩ | ⟨c1, hf⟩
  · refine lv_icmp_eq (tgt := 72) hx hb dX3_twoMore_61 (by decide) (fun _ => ?_) (fun n => absurd c1 n)
    cases hf
    have k : s_V G (d + 5) M_X3_twoMore vs0 σ0 Y_X3_twoMore (72, [.ref v0, .ref v1, .int v2, .int v3, .int v4], σ) (e_I r) := k
    exact k.2 p e s m below meth c _ _ _ _ _ X I hn.1 hn.2 (lv_sub hl [1, 2, 3, 4, 5] rfl)
  · refine lv_icmp_eq (tgt := 72) hx hb dX3_twoMore_61 (by decide) (fun n => absurd n c1) (fun _ => ?_)
    cases hf
    have k : _ = r := k
    subst k
    refine lv_iload hx hb dX3_twoMore_64 (lv_at hl 0 rfl) ?_
    refine lv_iconst (v := 1) hx hb dX3_twoMore_66 (by decide) ?_
    refine lv_iload hx hb dX3_twoMore_67 (lv_at hl 5 rfl) ?_
    refine lv_ishl hx hb dX3_twoMore_69 ?_
    refine lv_ior hx hb dX3_twoMore_70 ?_
    exact r_iret X I rfl rfl rfl hn dX3_twoMore_71
set_option maxRecDepth 100000 in
set_option maxHeartbeats 4000000 in
theorem v_X3_twoMore_72 {G : sG} {d : Nat} {vs0 : List Value} {σ0 : sS} {v0 : Nat} {v1 : Nat} {v2 : Int32} {v3 : Int32} {v4 : Int32} {σ : sS} {z : sZ Int32} {r : Int32 × sS} (hf : T_X3_twoMore_72 v0 v1 v2 v3 v4 σ = some z) (k : s_K G (d + 5) M_X3_twoMore vs0 σ0 Y_X3_twoMore e_I z r) : s_V G (d + 5) M_X3_twoMore vs0 σ0 Y_X3_twoMore (72, [.ref v0, .ref v1, .int v2, .int v3, .int v4], σ) (e_I r) := by
  have le0 : s_le σ (e_I r).2 := s_lek hem_I (l_X3_twoMore_72 hf) k
  refine ⟨le0, ?_⟩
  intro p e s m below meth c H locs cells slots ls X I hn1 hn2 hl
  have hn : cells + σ0.2.1 ≤ σ.2.1 ∧ slots + σ0.2.2.1 ≤ σ.2.2.1 := ⟨hn1, hn2⟩
  have hl : lv_has ls 6 [(0, .ref v0), (1, .ref v1), (2, .int v2), (3, .int v3), (4, .int v4)] := hl
  have hx := X.1
  have hb : c.code = cX3_twoMore := X.2.1
  have hown : s.vm.findClass RX3 = some m.cls := X.2.2.2.2.2.1
  have hts := X.2.2.2.2.2.2.1
  refine W.eq (g2 := F0 m 72 ls []) rfl ?_
  unfold T_X3_twoMore_72 at hf
  cases hf
  have k : s_V G (d + 5) M_X3_twoMore vs0 σ0 Y_X3_twoMore (3, [.ref v0, .ref v1, .int v2, .int v3, .int (v4 + 1)], σ) (e_I r) := k
  refine lv_iinc (v := (v4 + 1)) (lv' := [(4, .int (v4 + 1)), (0, .ref v0), (1, .ref v1), (2, .int v2), (3, .int v3)]) hx hb dX3_twoMore_72 hl (k := 4) rfl rfl (by decide) rfl (fun ls hl => ?_)
  refine lv_goto (tgt := 3) hx hb dX3_twoMore_75 (by decide) ?_
  exact k.2 p e s m below meth c _ _ _ _ _ X I hn.1 hn.2 (lv_sub hl [1, 2, 3, 4, 0] rfl)
theorem v_X3_twoMore {G : sG} {d : Nat} {vs0 : List Value} {σ0 : sS} {x : sL} {z : sZ Int32} {r : Int32 × sS} (hs : S_X3_twoMore x = some z) (k : s_K G (d + 5) M_X3_twoMore vs0 σ0 Y_X3_twoMore e_I z r) : s_V G (d + 5) M_X3_twoMore vs0 σ0 Y_X3_twoMore x (e_I r) := by
  obtain ⟨pc, vs, σ⟩ := x
  unfold S_X3_twoMore at hs
  dsimp only at hs
  rcases s_ite hs with ⟨c, hs⟩ | ⟨-, hs⟩
  · subst c
    unfold U_X3_twoMore_0 at hs
    obtain ⟨a0, g0, hs⟩ := s_bind hs
    obtain ⟨a1, g1, hs⟩ := s_bind hs
    obtain ⟨a2, g2, hs⟩ := s_bind hs
    obtain ⟨a3, g3, hs⟩ := s_bind hs
    obtain ⟨u9, ge, hs⟩ := s_bind hs
    rw [g_r_to g0, g_r_to g1, g_i_to g2, g_i_to g3, g_e_to ge]
    exact v_X3_twoMore_0 hs k
  rcases s_ite hs with ⟨c, hs⟩ | ⟨-, hs⟩
  · subst c
    unfold U_X3_twoMore_3 at hs
    obtain ⟨a0, g0, hs⟩ := s_bind hs
    obtain ⟨a1, g1, hs⟩ := s_bind hs
    obtain ⟨a2, g2, hs⟩ := s_bind hs
    obtain ⟨a3, g3, hs⟩ := s_bind hs
    obtain ⟨a4, g4, hs⟩ := s_bind hs
    obtain ⟨u9, ge, hs⟩ := s_bind hs
    rw [g_r_to g0, g_r_to g1, g_i_to g2, g_i_to g3, g_i_to g4, g_e_to ge]
    exact v_X3_twoMore_3 hs k
  rcases s_ite hs with ⟨c, hs⟩ | ⟨-, hs⟩
  · subst c
    unfold U_X3_twoMore_56 at hs
    obtain ⟨a0, g0, hs⟩ := s_bind hs
    obtain ⟨a1, g1, hs⟩ := s_bind hs
    obtain ⟨a2, g2, hs⟩ := s_bind hs
    obtain ⟨a3, g3, hs⟩ := s_bind hs
    obtain ⟨a4, g4, hs⟩ := s_bind hs
    obtain ⟨a5, g5, hs⟩ := s_bind hs
    obtain ⟨u9, ge, hs⟩ := s_bind hs
    rw [g_r_to g0, g_r_to g1, g_i_to g2, g_i_to g3, g_i_to g4, g_i_to g5, g_e_to ge]
    exact v_X3_twoMore_56 hs k
  rcases s_ite hs with ⟨c, hs⟩ | ⟨-, hs⟩
  · subst c
    unfold U_X3_twoMore_72 at hs
    obtain ⟨a0, g0, hs⟩ := s_bind hs
    obtain ⟨a1, g1, hs⟩ := s_bind hs
    obtain ⟨a2, g2, hs⟩ := s_bind hs
    obtain ⟨a3, g3, hs⟩ := s_bind hs
    obtain ⟨a4, g4, hs⟩ := s_bind hs
    obtain ⟨u9, ge, hs⟩ := s_bind hs
    rw [g_r_to g0, g_r_to g1, g_i_to g2, g_i_to g3, g_i_to g4, g_e_to ge]
    exact v_X3_twoMore_72 hs k
  cases hs
theorem t_X3_twoMore {G : sG} {d : Nat} {v0 : Nat} {v1 : Nat} {v2 : Int32} {v3 : Int32} {σ : sS} {q : Int32 × sS} (h : F_X3_twoMore v0 v1 v2 v3 σ = some q) : s_T G (d + 5) M_X3_twoMore [.ref v0, .ref v1, .int v2, .int v3] σ (e_I q) := by
  unfold F_X3_twoMore at h
  obtain ⟨-, -, h⟩ := s_bind h
  exact s_ofV rfl (by decide) (Nat.le_of_ble_eq_true rfl) rfl rfl (s_run_ind (V := fun x r => s_V G (d + 5) M_X3_twoMore [.ref v0, .ref v1, .int v2, .int v3] σ Y_X3_twoMore x (e_I r)) (fun x z r hs hk => v_X3_twoMore hs (by cases z <;> exact hk)) h)
/-! X3_threeMore -/
noncomputable def T_X3_threeMore_0 (v0 : Nat) (v1 : Int32) (σ : sS) : Option (sZ Int32) :=
  some (.inl (2, [.ref v0, .int v1, .int 0], σ))
noncomputable def U_X3_threeMore_0 (vs : List Value) (σ : sS) : Option (sZ Int32) := (g_r vs).bind fun a0 => (g_i a0.2).bind fun a1 => (g_e a1.2).bind fun _ => T_X3_threeMore_0 a0.1 a1.1 σ
noncomputable def T_X3_threeMore_2 (v0 : Nat) (v1 : Int32) (v2 : Int32) (σ : sS) : Option (sZ Int32) :=
  (s_fr σ v0 3 0).bind fun x1 =>
  (s_fi σ x1 1 2).bind fun x2 =>
  if x2 ≤ v2 then (some (.inr ((-1), σ)))
  else ((F_X3_isOpenTo v0 v2 v1 σ).bind fun q3 =>
  if q3.1 = 0 then (some (.inl (72, [.ref v0, .int v1, .int v2], q3.2)))
  else ((s_fr q3.2 v0 3 1).bind fun x4 =>
  (s_fr q3.2 v0 3 3).bind fun x5 =>
  (F_X3_narrow v0 x4 v2 x5 q3.2).bind fun q6 =>
  (s_fr q6.2 v0 3 3).bind fun x7 =>
  (F_X3_isEmpty v0 x7 q6.2).bind fun q8 =>
  if q8.1 = 0 then ((s_fr q8.2 v0 3 3).bind fun x9 =>
  (F_X3_twoMore v0 x9 v1 v2 q8.2).bind fun q10 =>
  some (.inl (60, [.ref v0, .int v1, .int v2, .int q10.1], q10.2)))
  else (some (.inl (60, [.ref v0, .int v1, .int v2, .int (-1)], q8.2)))))
noncomputable def U_X3_threeMore_2 (vs : List Value) (σ : sS) : Option (sZ Int32) := (g_r vs).bind fun a0 => (g_i a0.2).bind fun a1 => (g_i a1.2).bind fun a2 => (g_e a2.2).bind fun _ => T_X3_threeMore_2 a0.1 a1.1 a2.1 σ
noncomputable def T_X3_threeMore_60 (v0 : Nat) (v1 : Int32) (v2 : Int32) (w0 : Int32) (σ : sS) : Option (sZ Int32) :=
  if w0 = (-1) then (some (.inl (72, [.ref v0, .int v1, .int v2], σ)))
  else (some (.inr ((w0 ||| (1 <<< (v2 &&& 31))), σ)))
noncomputable def U_X3_threeMore_60 (vs : List Value) (σ : sS) : Option (sZ Int32) := (g_r vs).bind fun a0 => (g_i a0.2).bind fun a1 => (g_i a1.2).bind fun a2 => (g_i a2.2).bind fun a3 => (g_e a3.2).bind fun _ => T_X3_threeMore_60 a0.1 a1.1 a2.1 a3.1 σ
noncomputable def T_X3_threeMore_72 (v0 : Nat) (v1 : Int32) (v2 : Int32) (σ : sS) : Option (sZ Int32) :=
  some (.inl (2, [.ref v0, .int v1, .int (v2 + 1)], σ))
noncomputable def U_X3_threeMore_72 (vs : List Value) (σ : sS) : Option (sZ Int32) := (g_r vs).bind fun a0 => (g_i a0.2).bind fun a1 => (g_i a1.2).bind fun a2 => (g_e a2.2).bind fun _ => T_X3_threeMore_72 a0.1 a1.1 a2.1 σ
noncomputable def S_X3_threeMore (x : sL) : Option (sZ Int32) := if x.1 = 0 then U_X3_threeMore_0 x.2.1 x.2.2 else if x.1 = 2 then U_X3_threeMore_2 x.2.1 x.2.2 else if x.1 = 60 then U_X3_threeMore_60 x.2.1 x.2.2 else if x.1 = 72 then U_X3_threeMore_72 x.2.1 x.2.2 else none
def Y_X3_threeMore (pc : Nat) : List Nat := if pc = 0 then [0, 1] else if pc = 2 then [0, 1, 2] else if pc = 60 then [0, 1, 2] else if pc = 72 then [0, 1, 2] else []
noncomputable def F_X3_threeMore (v0 : Nat) (v1 : Int32) (σ : sS) : Option (Int32 × sS) := (s_is σ v0 3).bind fun _ => s_run S_X3_threeMore (0, [.ref v0, .int v1], σ)
theorem l_X3_threeMore_0 {v0 : Nat} {v1 : Int32} {σ : sS} {z : sZ Int32} (hf : T_X3_threeMore_0 v0 v1 σ = some z) : s_lz σ z := by
  unfold T_X3_threeMore_0 at hf
  cases hf
  exact s_le.rf
theorem l_X3_threeMore_2 {v0 : Nat} {v1 : Int32} {v2 : Int32} {σ : sS} {z : sZ Int32} (hf : T_X3_threeMore_2 v0 v1 v2 σ = some z) : s_lz σ z := by
  unfold T_X3_threeMore_2 at hf
  obtain ⟨x1, -, hf⟩ := s_bind hf
  obtain ⟨x2, -, hf⟩ := s_bind hf
  rcases s_ite hf with ⟨-, hf⟩ | ⟨-, hf⟩
  · cases hf
    exact s_le.rf
  · obtain ⟨q3, hh, hf⟩ := s_bind hf
    refine s_lz.tr (l_X3_isOpenTo hh) ?_
    rcases s_ite hf with ⟨-, hf⟩ | ⟨-, hf⟩
    · cases hf
      exact s_le.rf
    · obtain ⟨x4, -, hf⟩ := s_bind hf
      obtain ⟨x5, -, hf⟩ := s_bind hf
      obtain ⟨q6, hh, hf⟩ := s_bind hf
      refine s_lz.tr (l_X3_narrow hh) ?_
      obtain ⟨x7, -, hf⟩ := s_bind hf
      obtain ⟨q8, hh, hf⟩ := s_bind hf
      refine s_lz.tr (l_X3_isEmpty hh) ?_
      rcases s_ite hf with ⟨-, hf⟩ | ⟨-, hf⟩
      · obtain ⟨x9, -, hf⟩ := s_bind hf
        obtain ⟨q10, hh, hf⟩ := s_bind hf
        refine s_lz.tr (l_X3_twoMore hh) ?_
        cases hf
        exact s_le.rf
      · cases hf
        exact s_le.rf
theorem l_X3_threeMore_60 {v0 : Nat} {v1 : Int32} {v2 : Int32} {w0 : Int32} {σ : sS} {z : sZ Int32} (hf : T_X3_threeMore_60 v0 v1 v2 w0 σ = some z) : s_lz σ z := by
  unfold T_X3_threeMore_60 at hf
  rcases s_ite hf with ⟨-, hf⟩ | ⟨-, hf⟩
  · cases hf
    exact s_le.rf
  · cases hf
    exact s_le.rf
theorem l_X3_threeMore_72 {v0 : Nat} {v1 : Int32} {v2 : Int32} {σ : sS} {z : sZ Int32} (hf : T_X3_threeMore_72 v0 v1 v2 σ = some z) : s_lz σ z := by
  unfold T_X3_threeMore_72 at hf
  cases hf
  exact s_le.rf
theorem l_X3_threeMore_s {x : sL} {z : sZ Int32} (hs : S_X3_threeMore x = some z) : s_lz x.2.2 z := by
  obtain ⟨pc, vs, σ⟩ := x
  unfold S_X3_threeMore at hs
  dsimp only at hs ⊢
  rcases s_ite hs with ⟨c, hs⟩ | ⟨-, hs⟩
  · subst c
    unfold U_X3_threeMore_0 at hs
    obtain ⟨a0, g0, hs⟩ := s_bind hs
    obtain ⟨a1, g1, hs⟩ := s_bind hs
    obtain ⟨u9, ge, hs⟩ := s_bind hs
    exact l_X3_threeMore_0 hs
  rcases s_ite hs with ⟨c, hs⟩ | ⟨-, hs⟩
  · subst c
    unfold U_X3_threeMore_2 at hs
    obtain ⟨a0, g0, hs⟩ := s_bind hs
    obtain ⟨a1, g1, hs⟩ := s_bind hs
    obtain ⟨a2, g2, hs⟩ := s_bind hs
    obtain ⟨u9, ge, hs⟩ := s_bind hs
    exact l_X3_threeMore_2 hs
  rcases s_ite hs with ⟨c, hs⟩ | ⟨-, hs⟩
  · subst c
    unfold U_X3_threeMore_60 at hs
    obtain ⟨a0, g0, hs⟩ := s_bind hs
    obtain ⟨a1, g1, hs⟩ := s_bind hs
    obtain ⟨a2, g2, hs⟩ := s_bind hs
    obtain ⟨a3, g3, hs⟩ := s_bind hs
    obtain ⟨u9, ge, hs⟩ := s_bind hs
    exact l_X3_threeMore_60 hs
  rcases s_ite hs with ⟨c, hs⟩ | ⟨-, hs⟩
  · subst c
    unfold U_X3_threeMore_72 at hs
    obtain ⟨a0, g0, hs⟩ := s_bind hs
    obtain ⟨a1, g1, hs⟩ := s_bind hs
    obtain ⟨a2, g2, hs⟩ := s_bind hs
    obtain ⟨u9, ge, hs⟩ := s_bind hs
    exact l_X3_threeMore_72 hs
  cases hs
theorem l_X3_threeMore {v0 : Nat} {v1 : Int32} {σ : sS} {q : Int32 × sS} (h : F_X3_threeMore v0 v1 σ = some q) : s_le σ q.2 := by
  unfold F_X3_threeMore at h
  obtain ⟨-, -, h⟩ := s_bind h
  exact s_run_ind (V := fun x r => s_le x.2.2 r.2) (fun x z r hs hk => by
    have h9 := l_X3_threeMore_s hs
    cases z with
    | inl y => exact s_le.tr h9 hk
    | inr q => cases hk; exact h9) h
theorem b_X3_threeMore {v0 : Nat} {v1 : Int32} {σ : sS} {q : Int32 × sS} (h : F_X3_threeMore v0 v1 σ = some q) : ∃ fs, σ.1 v0 = some (.inr (3, fs)) := by
  unfold F_X3_threeMore at h
  obtain ⟨u, hu, -⟩ := s_bind h
  exact s_is_to hu
set_option maxRecDepth 100000 in
set_option maxHeartbeats 4000000 in
theorem v_X3_threeMore_0 {G : sG} {d : Nat} {vs0 : List Value} {σ0 : sS} {v0 : Nat} {v1 : Int32} {σ : sS} {z : sZ Int32} {r : Int32 × sS} (hf : T_X3_threeMore_0 v0 v1 σ = some z) (k : s_K G (d + 6) M_X3_threeMore vs0 σ0 Y_X3_threeMore e_I z r) : s_V G (d + 6) M_X3_threeMore vs0 σ0 Y_X3_threeMore (0, [.ref v0, .int v1], σ) (e_I r) := by
  have le0 : s_le σ (e_I r).2 := s_lek hem_I (l_X3_threeMore_0 hf) k
  refine ⟨le0, ?_⟩
  intro p e s m below meth c H locs cells slots ls X I hn1 hn2 hl
  have hn : cells + σ0.2.1 ≤ σ.2.1 ∧ slots + σ0.2.2.1 ≤ σ.2.2.1 := ⟨hn1, hn2⟩
  have hl : lv_has ls 4 [(0, .ref v0), (1, .int v1)] := hl
  have hx := X.1
  have hb : c.code = cX3_threeMore := X.2.1
  have hown : s.vm.findClass RX3 = some m.cls := X.2.2.2.2.2.1
  have hts := X.2.2.2.2.2.2.1
  refine W.eq (g2 := F0 m 0 ls []) rfl ?_
  unfold T_X3_threeMore_0 at hf
  cases hf
  have k : s_V G (d + 6) M_X3_threeMore vs0 σ0 Y_X3_threeMore (2, [.ref v0, .int v1, .int 0], σ) (e_I r) := k
  refine lv_iconst (v := 0) hx hb dX3_threeMore_0 (by decide) ?_
  refine lv_istore_n (lv' := [(2, .int 0), (0, .ref v0), (1, .int v1)]) hx hb dX3_threeMore_1 rfl hl (by decide) rfl (fun ls hl => ?_)
  exact k.2 p e s m below meth c _ _ _ _ _ X I hn.1 hn.2 (lv_sub hl [1, 2, 0] rfl)
set_option maxRecDepth 100000 in
set_option maxHeartbeats 4000000 in
theorem v_X3_threeMore_2 {G : sG} {d : Nat} {vs0 : List Value} {σ0 : sS} {v0 : Nat} {v1 : Int32} {v2 : Int32} {σ : sS} {z : sZ Int32} {r : Int32 × sS} (hf : T_X3_threeMore_2 v0 v1 v2 σ = some z) (k : s_K G (d + 6) M_X3_threeMore vs0 σ0 Y_X3_threeMore e_I z r) : s_V G (d + 6) M_X3_threeMore vs0 σ0 Y_X3_threeMore (2, [.ref v0, .int v1, .int v2], σ) (e_I r) := by
  have le0 : s_le σ (e_I r).2 := s_lek hem_I (l_X3_threeMore_2 hf) k
  refine ⟨le0, ?_⟩
  intro p e s m below meth c H locs cells slots ls X I hn1 hn2 hl
  have hn : cells + σ0.2.1 ≤ σ.2.1 ∧ slots + σ0.2.2.1 ≤ σ.2.2.1 := ⟨hn1, hn2⟩
  have hl : lv_has ls 4 [(0, .ref v0), (1, .int v1), (2, .int v2)] := hl
  have hx := X.1
  have hb : c.code = cX3_threeMore := X.2.1
  have hown : s.vm.findClass RX3 = some m.cls := X.2.2.2.2.2.1
  have hts := X.2.2.2.2.2.2.1
  refine W.eq (g2 := F0 m 2 ls []) rfl ?_
  unfold T_X3_threeMore_2 at hf
  obtain ⟨x1, h1, hf⟩ := s_bind hf
  obtain ⟨x2, h2, hf⟩ := s_bind hf
  refine lv_iload_n hx hb dX3_threeMore_2 rfl (lv_at hl 2 rfl) ?_
  refine lv_aload_n hx hb dX3_threeMore_3 rfl (lv_at hl 0 rfl) ?_
  refine r_gr X I fl_X3_30 h1 dX3_threeMore_4 ?_
  refine r_gi X I fl_X3_48 h2 dX3_threeMore_7 ?_
  rcases s_ite hf with ⟨c3, hf⟩ | ⟨c3, hf⟩
  · refine lv_icmp_ge (tgt := 78) hx hb dX3_threeMore_10 (by decide) (fun _ => ?_) (fun n => absurd c3 n)
    cases hf
    have k : _ = r := k
    subst k
    refine lv_iconst (v := (-1)) hx hb dX3_threeMore_78 (by decide) ?_
    exact r_iret X I rfl rfl rfl hn dX3_threeMore_79
  · refine lv_icmp_ge (tgt := 78) hx hb dX3_threeMore_10 (by decide) (fun n => absurd n c3) (fun _ => ?_)
    obtain ⟨q3, h4, hf⟩ := s_bind hf
    have le5 : s_le q3.2 (e_I r).2 := by
      refine s_lek hem_I ?_ k
      rcases s_ite hf with ⟨-, hf⟩ | ⟨-, hf⟩
      · cases hf
        exact s_le.rf
      · obtain ⟨x4, -, hf⟩ := s_bind hf
        obtain ⟨x5, -, hf⟩ := s_bind hf
        obtain ⟨q6, hh, hf⟩ := s_bind hf
        refine s_lz.tr (l_X3_narrow hh) ?_
        obtain ⟨x7, -, hf⟩ := s_bind hf
        obtain ⟨q8, hh, hf⟩ := s_bind hf
        refine s_lz.tr (l_X3_isEmpty hh) ?_
        rcases s_ite hf with ⟨-, hf⟩ | ⟨-, hf⟩
        · obtain ⟨x9, -, hf⟩ := s_bind hf
          obtain ⟨q10, hh, hf⟩ := s_bind hf
          refine s_lz.tr (l_X3_twoMore hh) ?_
          cases hf
          exact s_le.rf
        · cases hf
          exact s_le.rf
    refine lv_aload_n hx hb dX3_threeMore_13 rfl (lv_at hl 0 rfl) ?_
    refine lv_iload_n hx hb dX3_threeMore_14 rfl (lv_at hl 2 rfl) ?_
    refine lv_iload_n hx hb dX3_threeMore_15 rfl (lv_at hl 1 rfl) ?_
    refine r_callV (Y := M_X3_isOpenTo) (v := some (.int q3.1)) X I w_1563 my_X3_isOpenTo (by omega) (t_X3_isOpenTo (G := G) (d := d + 3) h4) (b_X3_isOpenTo h4) rfl rfl hl.1 rfl (Nat.le_of_ble_eq_true rfl) hn le5 dX3_threeMore_16 (fun H locs cells slots I hn1 hn2 => ?_)
    have I : s_I G q3.2 s H locs := I
    have hn : cells + σ0.2.1 ≤ q3.2.2.1 ∧ slots + σ0.2.2.1 ≤ q3.2.2.2.1 := ⟨hn1, hn2⟩
    rcases s_ite hf with ⟨c6, hf⟩ | ⟨c6, hf⟩
    · refine lv_if_eq (tgt := 72) hx hb dX3_threeMore_19 (by decide) (fun _ => ?_) (fun n => absurd c6 n)
      cases hf
      have k : s_V G (d + 6) M_X3_threeMore vs0 σ0 Y_X3_threeMore (72, [.ref v0, .int v1, .int v2], q3.2) (e_I r) := k
      exact k.2 p e s m below meth c _ _ _ _ _ X I hn.1 hn.2 (lv_sub hl [0, 1, 2] rfl)
    · refine lv_if_eq (tgt := 72) hx hb dX3_threeMore_19 (by decide) (fun n => absurd n c6) (fun _ => ?_)
      obtain ⟨x4, h7, hf⟩ := s_bind hf
      obtain ⟨x5, h8, hf⟩ := s_bind hf
      obtain ⟨q6, h9, hf⟩ := s_bind hf
      obtain ⟨x7, h10, hf⟩ := s_bind hf
      obtain ⟨q8, h11, hf⟩ := s_bind hf
      have le12 : s_le q8.2 (e_I r).2 := by
        refine s_lek hem_I ?_ k
        rcases s_ite hf with ⟨-, hf⟩ | ⟨-, hf⟩
        · obtain ⟨x9, -, hf⟩ := s_bind hf
          obtain ⟨q10, hh, hf⟩ := s_bind hf
          refine s_lz.tr (l_X3_twoMore hh) ?_
          cases hf
          exact s_le.rf
        · cases hf
          exact s_le.rf
      have le13 := s_le.tr (l_X3_isEmpty h11) le12
      refine lv_aload_n hx hb dX3_threeMore_22 rfl (lv_at hl 0 rfl) ?_
      refine lv_aload_n hx hb dX3_threeMore_23 rfl (lv_at hl 0 rfl) ?_
      refine r_gr X I fl_X3_11 h7 dX3_threeMore_24 ?_
      refine lv_iload_n hx hb dX3_threeMore_27 rfl (lv_at hl 2 rfl) ?_
      refine lv_aload_n hx hb dX3_threeMore_28 rfl (lv_at hl 0 rfl) ?_
      refine r_gr X I fl_X3_20 h8 dX3_threeMore_29 ?_
      refine r_callV (Y := M_X3_narrow) (v := none) X I w_1250 my_X3_narrow (by omega) (t_X3_narrow (G := G) (d := d + 2) h9) (b_X3_narrow h9) rfl rfl hl.1 rfl (Nat.le_of_ble_eq_true rfl) hn le13 dX3_threeMore_32 (fun H locs cells slots I hn1 hn2 => ?_)
      have I : s_I G q6.2 s H locs := I
      have hn : cells + σ0.2.1 ≤ q6.2.2.1 ∧ slots + σ0.2.2.1 ≤ q6.2.2.2.1 := ⟨hn1, hn2⟩
      refine lv_aload_n hx hb dX3_threeMore_35 rfl (lv_at hl 0 rfl) ?_
      refine lv_aload_n hx hb dX3_threeMore_36 rfl (lv_at hl 0 rfl) ?_
      refine r_gr X I fl_X3_20 h10 dX3_threeMore_37 ?_
      refine r_callV (Y := M_X3_isEmpty) (v := some (.int q8.1)) X I w_1555 my_X3_isEmpty (by omega) (t_X3_isEmpty (G := G) (d := d + 1) h11) (b_X3_isEmpty h11) rfl rfl hl.1 rfl (Nat.le_of_ble_eq_true rfl) hn le12 dX3_threeMore_40 (fun H locs cells slots I hn1 hn2 => ?_)
      have I : s_I G q8.2 s H locs := I
      have hn : cells + σ0.2.1 ≤ q8.2.2.1 ∧ slots + σ0.2.2.1 ≤ q8.2.2.2.1 := ⟨hn1, hn2⟩
      rcases s_ite hf with ⟨c14, hf⟩ | ⟨c14, hf⟩
      · refine lv_if_eq (tgt := 50) hx hb dX3_threeMore_43 (by decide) (fun _ => ?_) (fun n => absurd c14 n)
        obtain ⟨x9, h15, hf⟩ := s_bind hf
        obtain ⟨q10, h16, hf⟩ := s_bind hf
        cases hf
        have k : s_V G (d + 6) M_X3_threeMore vs0 σ0 Y_X3_threeMore (60, [.ref v0, .int v1, .int v2, .int q10.1], q10.2) (e_I r) := k
        have le17 : s_le q10.2 (e_I r).2 := k.1
        refine lv_aload_n hx hb dX3_threeMore_50 rfl (lv_at hl 0 rfl) ?_
        refine lv_aload_n hx hb dX3_threeMore_51 rfl (lv_at hl 0 rfl) ?_
        refine r_gr X I fl_X3_20 h15 dX3_threeMore_52 ?_
        refine lv_iload_n hx hb dX3_threeMore_55 rfl (lv_at hl 1 rfl) ?_
        refine lv_iload_n hx hb dX3_threeMore_56 rfl (lv_at hl 2 rfl) ?_
        refine r_callV (Y := M_X3_twoMore) (v := some (.int q10.1)) X I w_1572 my_X3_twoMore (by omega) (t_X3_twoMore (G := G) (d := d + 0) h16) (b_X3_twoMore h16) rfl rfl hl.1 rfl (Nat.le_of_ble_eq_true rfl) hn le17 dX3_threeMore_57 (fun H locs cells slots I hn1 hn2 => ?_)
        have I : s_I G q10.2 s H locs := I
        have hn : cells + σ0.2.1 ≤ q10.2.2.1 ∧ slots + σ0.2.2.1 ≤ q10.2.2.2.1 := ⟨hn1, hn2⟩
        exact k.2 p e s m below meth c _ _ _ _ _ X I hn.1 hn.2 (lv_sub hl [0, 1, 2] rfl)
      · refine lv_if_eq (tgt := 50) hx hb dX3_threeMore_43 (by decide) (fun n => absurd n c14) (fun _ => ?_)
        cases hf
        have k : s_V G (d + 6) M_X3_threeMore vs0 σ0 Y_X3_threeMore (60, [.ref v0, .int v1, .int v2, .int (-1)], q8.2) (e_I r) := k
        refine lv_iconst (v := (-1)) hx hb dX3_threeMore_46 (by decide) ?_
        refine lv_goto (tgt := 60) hx hb dX3_threeMore_47 (by decide) ?_
        exact k.2 p e s m below meth c _ _ _ _ _ X I hn.1 hn.2 (lv_sub hl [0, 1, 2] rfl)
set_option maxRecDepth 100000 in
set_option maxHeartbeats 4000000 in
theorem v_X3_threeMore_60 {G : sG} {d : Nat} {vs0 : List Value} {σ0 : sS} {v0 : Nat} {v1 : Int32} {v2 : Int32} {w0 : Int32} {σ : sS} {z : sZ Int32} {r : Int32 × sS} (hf : T_X3_threeMore_60 v0 v1 v2 w0 σ = some z) (k : s_K G (d + 6) M_X3_threeMore vs0 σ0 Y_X3_threeMore e_I z r) : s_V G (d + 6) M_X3_threeMore vs0 σ0 Y_X3_threeMore (60, [.ref v0, .int v1, .int v2, .int w0], σ) (e_I r) := by
  have le0 : s_le σ (e_I r).2 := s_lek hem_I (l_X3_threeMore_60 hf) k
  refine ⟨le0, ?_⟩
  intro p e s m below meth c H locs cells slots ls X I hn1 hn2 hl
  have hn : cells + σ0.2.1 ≤ σ.2.1 ∧ slots + σ0.2.2.1 ≤ σ.2.2.1 := ⟨hn1, hn2⟩
  have hl : lv_has ls 4 [(0, .ref v0), (1, .int v1), (2, .int v2)] := hl
  have hx := X.1
  have hb : c.code = cX3_threeMore := X.2.1
  have hown : s.vm.findClass RX3 = some m.cls := X.2.2.2.2.2.1
  have hts := X.2.2.2.2.2.2.1
  refine W.eq (g2 := F0 m 60 ls [.int w0]) rfl ?_
  unfold T_X3_threeMore_60 at hf
  refine lv_istore_n (lv' := [(3, .int w0), (0, .ref v0), (1, .int v1), (2, .int v2)]) hx hb dX3_threeMore_60 rfl hl (by decide) rfl (fun ls hl => ?_)
  refine lv_iload_n hx hb dX3_threeMore_61 rfl (lv_at hl 0 rfl) ?_
  refine lv_iconst (v := (-1)) hx hb dX3_threeMore_62 (by decide) ?_
  rcases s_ite hf with ⟨c1, hf⟩ | ⟨c1, hf⟩
  · refine lv_icmp_eq (tgt := 72) hx hb dX3_threeMore_63 (by decide) (fun _ => ?_) (fun n => absurd c1 n)
    cases hf
    have k : s_V G (d + 6) M_X3_threeMore vs0 σ0 Y_X3_threeMore (72, [.ref v0, .int v1, .int v2], σ) (e_I r) := k
    exact k.2 p e s m below meth c _ _ _ _ _ X I hn.1 hn.2 (lv_sub hl [1, 2, 3] rfl)
  · refine lv_icmp_eq (tgt := 72) hx hb dX3_threeMore_63 (by decide) (fun n => absurd n c1) (fun _ => ?_)
    cases hf
    have k : _ = r := k
    subst k
    refine lv_iload_n hx hb dX3_threeMore_66 rfl (lv_at hl 0 rfl) ?_
    refine lv_iconst (v := 1) hx hb dX3_threeMore_67 (by decide) ?_
    refine lv_iload_n hx hb dX3_threeMore_68 rfl (lv_at hl 3 rfl) ?_
    refine lv_ishl hx hb dX3_threeMore_69 ?_
    refine lv_ior hx hb dX3_threeMore_70 ?_
    exact r_iret X I rfl rfl rfl hn dX3_threeMore_71
set_option maxRecDepth 100000 in
set_option maxHeartbeats 4000000 in
theorem v_X3_threeMore_72 {G : sG} {d : Nat} {vs0 : List Value} {σ0 : sS} {v0 : Nat} {v1 : Int32} {v2 : Int32} {σ : sS} {z : sZ Int32} {r : Int32 × sS} (hf : T_X3_threeMore_72 v0 v1 v2 σ = some z) (k : s_K G (d + 6) M_X3_threeMore vs0 σ0 Y_X3_threeMore e_I z r) : s_V G (d + 6) M_X3_threeMore vs0 σ0 Y_X3_threeMore (72, [.ref v0, .int v1, .int v2], σ) (e_I r) := by
  have le0 : s_le σ (e_I r).2 := s_lek hem_I (l_X3_threeMore_72 hf) k
  refine ⟨le0, ?_⟩
  intro p e s m below meth c H locs cells slots ls X I hn1 hn2 hl
  have hn : cells + σ0.2.1 ≤ σ.2.1 ∧ slots + σ0.2.2.1 ≤ σ.2.2.1 := ⟨hn1, hn2⟩
  have hl : lv_has ls 4 [(0, .ref v0), (1, .int v1), (2, .int v2)] := hl
  have hx := X.1
  have hb : c.code = cX3_threeMore := X.2.1
  have hown : s.vm.findClass RX3 = some m.cls := X.2.2.2.2.2.1
  have hts := X.2.2.2.2.2.2.1
  refine W.eq (g2 := F0 m 72 ls []) rfl ?_
  unfold T_X3_threeMore_72 at hf
  cases hf
  have k : s_V G (d + 6) M_X3_threeMore vs0 σ0 Y_X3_threeMore (2, [.ref v0, .int v1, .int (v2 + 1)], σ) (e_I r) := k
  refine lv_iinc (v := (v2 + 1)) (lv' := [(2, .int (v2 + 1)), (0, .ref v0), (1, .int v1)]) hx hb dX3_threeMore_72 hl (k := 2) rfl rfl (by decide) rfl (fun ls hl => ?_)
  refine lv_goto (tgt := 2) hx hb dX3_threeMore_75 (by decide) ?_
  exact k.2 p e s m below meth c _ _ _ _ _ X I hn.1 hn.2 (lv_sub hl [1, 2, 0] rfl)
theorem v_X3_threeMore {G : sG} {d : Nat} {vs0 : List Value} {σ0 : sS} {x : sL} {z : sZ Int32} {r : Int32 × sS} (hs : S_X3_threeMore x = some z) (k : s_K G (d + 6) M_X3_threeMore vs0 σ0 Y_X3_threeMore e_I z r) : s_V G (d + 6) M_X3_threeMore vs0 σ0 Y_X3_threeMore x (e_I r) := by
  obtain ⟨pc, vs, σ⟩ := x
  unfold S_X3_threeMore at hs
  dsimp only at hs
  rcases s_ite hs with ⟨c, hs⟩ | ⟨-, hs⟩
  · subst c
    unfold U_X3_threeMore_0 at hs
    obtain ⟨a0, g0, hs⟩ := s_bind hs
    obtain ⟨a1, g1, hs⟩ := s_bind hs
    obtain ⟨u9, ge, hs⟩ := s_bind hs
    rw [g_r_to g0, g_i_to g1, g_e_to ge]
    exact v_X3_threeMore_0 hs k
  rcases s_ite hs with ⟨c, hs⟩ | ⟨-, hs⟩
  · subst c
    unfold U_X3_threeMore_2 at hs
    obtain ⟨a0, g0, hs⟩ := s_bind hs
    obtain ⟨a1, g1, hs⟩ := s_bind hs
    obtain ⟨a2, g2, hs⟩ := s_bind hs
    obtain ⟨u9, ge, hs⟩ := s_bind hs
    rw [g_r_to g0, g_i_to g1, g_i_to g2, g_e_to ge]
    exact v_X3_threeMore_2 hs k
  rcases s_ite hs with ⟨c, hs⟩ | ⟨-, hs⟩
  · subst c
    unfold U_X3_threeMore_60 at hs
    obtain ⟨a0, g0, hs⟩ := s_bind hs
    obtain ⟨a1, g1, hs⟩ := s_bind hs
    obtain ⟨a2, g2, hs⟩ := s_bind hs
    obtain ⟨a3, g3, hs⟩ := s_bind hs
    obtain ⟨u9, ge, hs⟩ := s_bind hs
    rw [g_r_to g0, g_i_to g1, g_i_to g2, g_i_to g3, g_e_to ge]
    exact v_X3_threeMore_60 hs k
  rcases s_ite hs with ⟨c, hs⟩ | ⟨-, hs⟩
  · subst c
    unfold U_X3_threeMore_72 at hs
    obtain ⟨a0, g0, hs⟩ := s_bind hs
    obtain ⟨a1, g1, hs⟩ := s_bind hs
    obtain ⟨a2, g2, hs⟩ := s_bind hs
    obtain ⟨u9, ge, hs⟩ := s_bind hs
    rw [g_r_to g0, g_i_to g1, g_i_to g2, g_e_to ge]
    exact v_X3_threeMore_72 hs k
  cases hs
theorem t_X3_threeMore {G : sG} {d : Nat} {v0 : Nat} {v1 : Int32} {σ : sS} {q : Int32 × sS} (h : F_X3_threeMore v0 v1 σ = some q) : s_T G (d + 6) M_X3_threeMore [.ref v0, .int v1] σ (e_I q) := by
  unfold F_X3_threeMore at h
  obtain ⟨-, -, h⟩ := s_bind h
  exact s_ofV rfl (by decide) (Nat.le_of_ble_eq_true rfl) rfl rfl (s_run_ind (V := fun x r => s_V G (d + 6) M_X3_threeMore [.ref v0, .int v1] σ Y_X3_threeMore x (e_I r)) (fun x z r hs hk => v_X3_threeMore hs (by cases z <;> exact hk)) h)
