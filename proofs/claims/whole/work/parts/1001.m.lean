/-! J7_copyOf_59c91 -/
noncomputable def T_J7_copyOf_59c91_0 (v0 : Nat) (v1 : Int32) (σ : sS) : Option (sZ Nat) :=
  (s_len σ v0).bind fun x1 =>
  if v1 = x1 then (none)
  else ((s_na σ 0 v1).bind fun σ2 =>
  (s_len σ2 v0).bind fun x3 =>
  (s_cpi σ2 v0 0 σ.2.1 0 (if v1 < x3 then v1 else x3)).bind fun σ4 =>
  some (.inr (σ.2.1, σ4)))
noncomputable def U_J7_copyOf_59c91_0 (vs : List Value) (σ : sS) : Option (sZ Nat) := (g_r vs).bind fun a0 => (g_i a0.2).bind fun a1 => (g_e a1.2).bind fun _ => T_J7_copyOf_59c91_0 a0.1 a1.1 σ
noncomputable def S_J7_copyOf_59c91 (x : sL) : Option (sZ Nat) := if x.1 = 0 then U_J7_copyOf_59c91_0 x.2.1 x.2.2 else none
def Y_J7_copyOf_59c91 (pc : Nat) : List Nat := if pc = 0 then [0, 1] else []
noncomputable def F_J7_copyOf_59c91 (v0 : Nat) (v1 : Int32) (σ : sS) : Option (Nat × sS) := s_run S_J7_copyOf_59c91 (0, [.ref v0, .int v1], σ)
theorem l_J7_copyOf_59c91_0 {v0 : Nat} {v1 : Int32} {σ : sS} {z : sZ Nat} (hf : T_J7_copyOf_59c91_0 v0 v1 σ = some z) : s_lz σ z := by
  unfold T_J7_copyOf_59c91_0 at hf
  obtain ⟨x1, -, hf⟩ := s_bind hf
  rcases s_ite hf with ⟨-, hf⟩ | ⟨-, hf⟩
  · cases hf
  · obtain ⟨σ2, hh, hf⟩ := s_bind hf
    refine s_lz.tr (s_na_le hh) ?_
    obtain ⟨x3, -, hf⟩ := s_bind hf
    obtain ⟨σ4, hh, hf⟩ := s_bind hf
    refine s_lz.tr (s_le2 (s_cpi_2 hh)) ?_
    cases hf
    exact s_le.rf
theorem l_J7_copyOf_59c91_s {x : sL} {z : sZ Nat} (hs : S_J7_copyOf_59c91 x = some z) : s_lz x.2.2 z := by
  obtain ⟨pc, vs, σ⟩ := x
  unfold S_J7_copyOf_59c91 at hs
  dsimp only at hs ⊢
  rcases s_ite hs with ⟨c, hs⟩ | ⟨-, hs⟩
  · subst c
    unfold U_J7_copyOf_59c91_0 at hs
    obtain ⟨a0, g0, hs⟩ := s_bind hs
    obtain ⟨a1, g1, hs⟩ := s_bind hs
    obtain ⟨u9, ge, hs⟩ := s_bind hs
    exact l_J7_copyOf_59c91_0 hs
  cases hs
theorem l_J7_copyOf_59c91 {v0 : Nat} {v1 : Int32} {σ : sS} {q : Nat × sS} (h : F_J7_copyOf_59c91 v0 v1 σ = some q) : s_le σ q.2 := by
  unfold F_J7_copyOf_59c91 at h
  exact s_run_ind (V := fun x r => s_le x.2.2 r.2) (fun x z r hs hk => by
    have h9 := l_J7_copyOf_59c91_s hs
    cases z with
    | inl y => exact s_le.tr h9 hk
    | inr q => cases hk; exact h9) h
set_option maxRecDepth 100000 in
set_option maxHeartbeats 4000000 in
theorem v_J7_copyOf_59c91_0 {G : sG} {d : Nat} {vs0 : List Value} {σ0 : sS} {v0 : Nat} {v1 : Int32} {σ : sS} {z : sZ Nat} {r : Nat × sS} (hf : T_J7_copyOf_59c91_0 v0 v1 σ = some z) (k : s_K G (d + 1) M_J7_copyOf_59c91 vs0 σ0 Y_J7_copyOf_59c91 e_A z r) : s_V G (d + 1) M_J7_copyOf_59c91 vs0 σ0 Y_J7_copyOf_59c91 (0, [.ref v0, .int v1], σ) (e_A r) := by
  have le0 : s_le σ (e_A r).2 := s_lek hem_A (l_J7_copyOf_59c91_0 hf) k
  refine ⟨le0, ?_⟩
  intro p e s m below meth c H locs cells slots ls X I hn1 hn2 hl
  have hn : cells + σ0.2.1 ≤ σ.2.1 ∧ slots + σ0.2.2.1 ≤ σ.2.2.1 := ⟨hn1, hn2⟩
  have hl : lv_has ls 3 [(0, .ref v0), (1, .int v1)] := hl
  have hx := X.1
  have hb : c.code = cJ7_copyOf_59c91 := X.2.1
  have hown : s.vm.findClass RJ7 = some m.cls := X.2.2.2.2.2.1
  have hts := X.2.2.2.2.2.2.1
  refine W.eq (g2 := F0 m 0 ls []) rfl ?_
  unfold T_J7_copyOf_59c91_0 at hf
  obtain ⟨x1, h1, hf⟩ := s_bind hf
  refine lv_iload_n hx hb dJ7_copyOf_59c91_0 rfl (lv_at hl 1 rfl) ?_
  refine lv_aload_n hx hb dJ7_copyOf_59c91_1 rfl (lv_at hl 0 rfl) ?_
  refine r_alen X I h1 dJ7_copyOf_59c91_2 ?_
  rcases s_ite hf with ⟨c2, hf⟩ | ⟨c2, hf⟩
  · refine lv_icmp_ne (tgt := 14) hx hb dJ7_copyOf_59c91_3 (by decide) (fun n => absurd c2 n) (fun _ => ?_)
    cases hf
  · refine lv_icmp_ne (tgt := 14) hx hb dJ7_copyOf_59c91_3 (by decide) (fun _ => ?_) (fun n => absurd n c2)
    obtain ⟨σ2, h3, hf⟩ := s_bind hf
    obtain ⟨x3, h4, hf⟩ := s_bind hf
    obtain ⟨σ4, h5, hf⟩ := s_bind hf
    cases hf
    have k : _ = r := k
    subst k
    have le6 : s_le σ4 σ4 := s_le.rf
    have le7 := s_le.tr (s_le2 (s_cpi_2 h5)) le6
    refine lv_iload_n hx hb dJ7_copyOf_59c91_14 rfl (lv_at hl 1 rfl) ?_
    refine r_newa X I at_int h3 hn le7 dJ7_copyOf_59c91_15 (fun H I => ?_)
    have hn := s_kna h3 hn
    refine lv_astore_n (lv' := [(2, .ref σ.2.1), (0, .ref v0), (1, .int v1)]) hx hb dJ7_copyOf_59c91_17 rfl hl (by decide) rfl (fun ls hl => ?_)
    refine lv_aload_n hx hb dJ7_copyOf_59c91_18 rfl (lv_at hl 1 rfl) ?_
    refine lv_iconst (v := 0) hx hb dJ7_copyOf_59c91_19 (by decide) ?_
    refine lv_aload_n hx hb dJ7_copyOf_59c91_20 rfl (lv_at hl 0 rfl) ?_
    refine lv_iconst (v := 0) hx hb dJ7_copyOf_59c91_21 (by decide) ?_
    refine lv_aload_n hx hb dJ7_copyOf_59c91_22 rfl (lv_at hl 1 rfl) ?_
    refine r_alen X I h4 dJ7_copyOf_59c91_23 ?_
    refine lv_iload_n hx hb dJ7_copyOf_59c91_24 rfl (lv_at hl 2 rfl) ?_
    refine r_mmin X w_764 w_765 w_179 w_766 hl.1 (Nat.le_of_ble_eq_true rfl) hn le7 dJ7_copyOf_59c91_25 ?_
    refine r_copy X I h5 w_767 w_655 w_654 w_180 hl.1 (Nat.le_of_ble_eq_true rfl) dJ7_copyOf_59c91_28 (fun H locs I => ?_)
    have hn := s_k2 (s_cpi_2 h5) hn
    refine lv_aload_n hx hb dJ7_copyOf_59c91_31 rfl (lv_at hl 0 rfl) ?_
    exact r_aret X I rfl (Or.inr ⟨_, rfl⟩) rfl hn dJ7_copyOf_59c91_32
theorem v_J7_copyOf_59c91 {G : sG} {d : Nat} {vs0 : List Value} {σ0 : sS} {x : sL} {z : sZ Nat} {r : Nat × sS} (hs : S_J7_copyOf_59c91 x = some z) (k : s_K G (d + 1) M_J7_copyOf_59c91 vs0 σ0 Y_J7_copyOf_59c91 e_A z r) : s_V G (d + 1) M_J7_copyOf_59c91 vs0 σ0 Y_J7_copyOf_59c91 x (e_A r) := by
  obtain ⟨pc, vs, σ⟩ := x
  unfold S_J7_copyOf_59c91 at hs
  dsimp only at hs
  rcases s_ite hs with ⟨c, hs⟩ | ⟨-, hs⟩
  · subst c
    unfold U_J7_copyOf_59c91_0 at hs
    obtain ⟨a0, g0, hs⟩ := s_bind hs
    obtain ⟨a1, g1, hs⟩ := s_bind hs
    obtain ⟨u9, ge, hs⟩ := s_bind hs
    rw [g_r_to g0, g_i_to g1, g_e_to ge]
    exact v_J7_copyOf_59c91_0 hs k
  cases hs
theorem t_J7_copyOf_59c91 {G : sG} {d : Nat} {v0 : Nat} {v1 : Int32} {σ : sS} {q : Nat × sS} (h : F_J7_copyOf_59c91 v0 v1 σ = some q) : s_T G (d + 1) M_J7_copyOf_59c91 [.ref v0, .int v1] σ (e_A q) := by
  unfold F_J7_copyOf_59c91 at h
  exact s_ofV rfl (by decide) (Nat.le_of_ble_eq_true rfl) rfl rfl (s_run_ind (V := fun x r => s_V G (d + 1) M_J7_copyOf_59c91 [.ref v0, .int v1] σ Y_J7_copyOf_59c91 x (e_A r)) (fun x z r hs hk => v_J7_copyOf_59c91 hs (by cases z <;> exact hk)) h)
/-! J7_fill_53178 -/
noncomputable def T_J7_fill_53178_0 (v0 : Nat) (v1 : Int32) (σ : sS) : Option (sZ Unit) :=
  (s_len σ v0).bind fun x1 =>
  some (.inl (5, [.ref v0, .int v1, .int 0, .int x1], σ))
noncomputable def U_J7_fill_53178_0 (vs : List Value) (σ : sS) : Option (sZ Unit) := (g_r vs).bind fun a0 => (g_i a0.2).bind fun a1 => (g_e a1.2).bind fun _ => T_J7_fill_53178_0 a0.1 a1.1 σ
noncomputable def T_J7_fill_53178_5 (v0 : Nat) (v1 : Int32) (v2 : Int32) (v3 : Int32) (σ : sS) : Option (sZ Unit) :=
  if v3 ≤ v2 then (some (.inr ((), σ)))
  else ((s_si σ v0 v2 v1).bind fun σ1 =>
  some (.inl (5, [.ref v0, .int v1, .int (v2 + 1), .int v3], σ1)))
noncomputable def U_J7_fill_53178_5 (vs : List Value) (σ : sS) : Option (sZ Unit) := (g_r vs).bind fun a0 => (g_i a0.2).bind fun a1 => (g_i a1.2).bind fun a2 => (g_i a2.2).bind fun a3 => (g_e a3.2).bind fun _ => T_J7_fill_53178_5 a0.1 a1.1 a2.1 a3.1 σ
noncomputable def S_J7_fill_53178 (x : sL) : Option (sZ Unit) := if x.1 = 0 then U_J7_fill_53178_0 x.2.1 x.2.2 else if x.1 = 5 then U_J7_fill_53178_5 x.2.1 x.2.2 else none
def Y_J7_fill_53178 (pc : Nat) : List Nat := if pc = 0 then [0, 1] else if pc = 5 then [0, 1, 2, 3] else []
noncomputable def F_J7_fill_53178 (v0 : Nat) (v1 : Int32) (σ : sS) : Option (Unit × sS) := s_run S_J7_fill_53178 (0, [.ref v0, .int v1], σ)
theorem l_J7_fill_53178_0 {v0 : Nat} {v1 : Int32} {σ : sS} {z : sZ Unit} (hf : T_J7_fill_53178_0 v0 v1 σ = some z) : s_lz σ z := by
  unfold T_J7_fill_53178_0 at hf
  obtain ⟨x1, -, hf⟩ := s_bind hf
  cases hf
  exact s_le.rf
theorem l_J7_fill_53178_5 {v0 : Nat} {v1 : Int32} {v2 : Int32} {v3 : Int32} {σ : sS} {z : sZ Unit} (hf : T_J7_fill_53178_5 v0 v1 v2 v3 σ = some z) : s_lz σ z := by
  unfold T_J7_fill_53178_5 at hf
  rcases s_ite hf with ⟨-, hf⟩ | ⟨-, hf⟩
  · cases hf
    exact s_le.rf
  · obtain ⟨σ1, hh, hf⟩ := s_bind hf
    refine s_lz.tr (s_le2 (s_si_2 hh)) ?_
    cases hf
    exact s_le.rf
theorem l_J7_fill_53178_s {x : sL} {z : sZ Unit} (hs : S_J7_fill_53178 x = some z) : s_lz x.2.2 z := by
  obtain ⟨pc, vs, σ⟩ := x
  unfold S_J7_fill_53178 at hs
  dsimp only at hs ⊢
  rcases s_ite hs with ⟨c, hs⟩ | ⟨-, hs⟩
  · subst c
    unfold U_J7_fill_53178_0 at hs
    obtain ⟨a0, g0, hs⟩ := s_bind hs
    obtain ⟨a1, g1, hs⟩ := s_bind hs
    obtain ⟨u9, ge, hs⟩ := s_bind hs
    exact l_J7_fill_53178_0 hs
  rcases s_ite hs with ⟨c, hs⟩ | ⟨-, hs⟩
  · subst c
    unfold U_J7_fill_53178_5 at hs
    obtain ⟨a0, g0, hs⟩ := s_bind hs
    obtain ⟨a1, g1, hs⟩ := s_bind hs
    obtain ⟨a2, g2, hs⟩ := s_bind hs
    obtain ⟨a3, g3, hs⟩ := s_bind hs
    obtain ⟨u9, ge, hs⟩ := s_bind hs
    exact l_J7_fill_53178_5 hs
  cases hs
theorem l_J7_fill_53178 {v0 : Nat} {v1 : Int32} {σ : sS} {q : Unit × sS} (h : F_J7_fill_53178 v0 v1 σ = some q) : s_le σ q.2 := by
  unfold F_J7_fill_53178 at h
  exact s_run_ind (V := fun x r => s_le x.2.2 r.2) (fun x z r hs hk => by
    have h9 := l_J7_fill_53178_s hs
    cases z with
    | inl y => exact s_le.tr h9 hk
    | inr q => cases hk; exact h9) h
set_option maxRecDepth 100000 in
set_option maxHeartbeats 4000000 in
theorem v_J7_fill_53178_0 {G : sG} {d : Nat} {vs0 : List Value} {σ0 : sS} {v0 : Nat} {v1 : Int32} {σ : sS} {z : sZ Unit} {r : Unit × sS} (hf : T_J7_fill_53178_0 v0 v1 σ = some z) (k : s_K G (d + 1) M_J7_fill_53178 vs0 σ0 Y_J7_fill_53178 e_V z r) : s_V G (d + 1) M_J7_fill_53178 vs0 σ0 Y_J7_fill_53178 (0, [.ref v0, .int v1], σ) (e_V r) := by
  have le0 : s_le σ (e_V r).2 := s_lek hem_V (l_J7_fill_53178_0 hf) k
  refine ⟨le0, ?_⟩
  intro p e s m below meth c H locs cells slots ls X I hn1 hn2 hl
  have hn : cells + σ0.2.1 ≤ σ.2.1 ∧ slots + σ0.2.2.1 ≤ σ.2.2.1 := ⟨hn1, hn2⟩
  have hl : lv_has ls 4 [(0, .ref v0), (1, .int v1)] := hl
  have hx := X.1
  have hb : c.code = cJ7_fill_53178 := X.2.1
  have hown : s.vm.findClass RJ7 = some m.cls := X.2.2.2.2.2.1
  have hts := X.2.2.2.2.2.2.1
  refine W.eq (g2 := F0 m 0 ls []) rfl ?_
  unfold T_J7_fill_53178_0 at hf
  obtain ⟨x1, h1, hf⟩ := s_bind hf
  cases hf
  have k : s_V G (d + 1) M_J7_fill_53178 vs0 σ0 Y_J7_fill_53178 (5, [.ref v0, .int v1, .int 0, .int x1], σ) (e_V r) := k
  refine lv_iconst (v := 0) hx hb dJ7_fill_53178_0 (by decide) ?_
  refine lv_istore_n (lv' := [(2, .int 0), (0, .ref v0), (1, .int v1)]) hx hb dJ7_fill_53178_1 rfl hl (by decide) rfl (fun ls hl => ?_)
  refine lv_aload_n hx hb dJ7_fill_53178_2 rfl (lv_at hl 1 rfl) ?_
  refine r_alen X I h1 dJ7_fill_53178_3 ?_
  refine lv_istore_n (lv' := [(3, .int x1), (2, .int 0), (0, .ref v0), (1, .int v1)]) hx hb dJ7_fill_53178_4 rfl hl (by decide) rfl (fun ls hl => ?_)
  exact k.2 p e s m below meth c _ _ _ _ _ X I hn.1 hn.2 (lv_sub hl [2, 3, 1, 0] rfl)
set_option maxRecDepth 100000 in
set_option maxHeartbeats 4000000 in
theorem v_J7_fill_53178_5 {G : sG} {d : Nat} {vs0 : List Value} {σ0 : sS} {v0 : Nat} {v1 : Int32} {v2 : Int32} {v3 : Int32} {σ : sS} {z : sZ Unit} {r : Unit × sS} (hf : T_J7_fill_53178_5 v0 v1 v2 v3 σ = some z) (k : s_K G (d + 1) M_J7_fill_53178 vs0 σ0 Y_J7_fill_53178 e_V z r) : s_V G (d + 1) M_J7_fill_53178 vs0 σ0 Y_J7_fill_53178 (5, [.ref v0, .int v1, .int v2, .int v3], σ) (e_V r) := by
  have le0 : s_le σ (e_V r).2 := s_lek hem_V (l_J7_fill_53178_5 hf) k
  refine ⟨le0, ?_⟩
  intro p e s m below meth c H locs cells slots ls X I hn1 hn2 hl
  have hn : cells + σ0.2.1 ≤ σ.2.1 ∧ slots + σ0.2.2.1 ≤ σ.2.2.1 := ⟨hn1, hn2⟩
  have hl : lv_has ls 4 [(0, .ref v0), (1, .int v1), (2, .int v2), (3, .int v3)] := hl
  have hx := X.1
  have hb : c.code = cJ7_fill_53178 := X.2.1
  have hown : s.vm.findClass RJ7 = some m.cls := X.2.2.2.2.2.1
  have hts := X.2.2.2.2.2.2.1
  refine W.eq (g2 := F0 m 5 ls []) rfl ?_
  unfold T_J7_fill_53178_5 at hf
  refine lv_iload_n hx hb dJ7_fill_53178_5 rfl (lv_at hl 2 rfl) ?_
  refine lv_iload_n hx hb dJ7_fill_53178_6 rfl (lv_at hl 3 rfl) ?_
  rcases s_ite hf with ⟨c1, hf⟩ | ⟨c1, hf⟩
  · refine lv_icmp_ge (tgt := 20) hx hb dJ7_fill_53178_7 (by decide) (fun _ => ?_) (fun n => absurd c1 n)
    cases hf
    have k : _ = r := k
    subst k
    exact r_vret X I rfl rfl hn dJ7_fill_53178_20
  · refine lv_icmp_ge (tgt := 20) hx hb dJ7_fill_53178_7 (by decide) (fun n => absurd n c1) (fun _ => ?_)
    obtain ⟨σ1, h2, hf⟩ := s_bind hf
    cases hf
    have k : s_V G (d + 1) M_J7_fill_53178 vs0 σ0 Y_J7_fill_53178 (5, [.ref v0, .int v1, .int (v2 + 1), .int v3], σ1) (e_V r) := k
    have le3 : s_le σ1 (e_V r).2 := k.1
    refine lv_aload_n hx hb dJ7_fill_53178_10 rfl (lv_at hl 0 rfl) ?_
    refine lv_iload_n hx hb dJ7_fill_53178_11 rfl (lv_at hl 2 rfl) ?_
    refine lv_iload_n hx hb dJ7_fill_53178_12 rfl (lv_at hl 1 rfl) ?_
    refine r_iast X I h2 dJ7_fill_53178_13 (fun H locs I => ?_)
    have hn := s_k2 (s_si_2 h2) hn
    refine lv_iinc (v := (v2 + 1)) (lv' := [(2, .int (v2 + 1)), (0, .ref v0), (1, .int v1), (3, .int v3)]) hx hb dJ7_fill_53178_14 hl (k := 2) rfl rfl (by decide) rfl (fun ls hl => ?_)
    refine lv_goto (tgt := 5) hx hb dJ7_fill_53178_17 (by decide) ?_
    exact k.2 p e s m below meth c _ _ _ _ _ X I hn.1 hn.2 (lv_sub hl [1, 2, 0, 3] rfl)
theorem v_J7_fill_53178 {G : sG} {d : Nat} {vs0 : List Value} {σ0 : sS} {x : sL} {z : sZ Unit} {r : Unit × sS} (hs : S_J7_fill_53178 x = some z) (k : s_K G (d + 1) M_J7_fill_53178 vs0 σ0 Y_J7_fill_53178 e_V z r) : s_V G (d + 1) M_J7_fill_53178 vs0 σ0 Y_J7_fill_53178 x (e_V r) := by
  obtain ⟨pc, vs, σ⟩ := x
  unfold S_J7_fill_53178 at hs
  dsimp only at hs
  rcases s_ite hs with ⟨c, hs⟩ | ⟨-, hs⟩
  · subst c
    unfold U_J7_fill_53178_0 at hs
    obtain ⟨a0, g0, hs⟩ := s_bind hs
    obtain ⟨a1, g1, hs⟩ := s_bind hs
    obtain ⟨u9, ge, hs⟩ := s_bind hs
    rw [g_r_to g0, g_i_to g1, g_e_to ge]
    exact v_J7_fill_53178_0 hs k
  rcases s_ite hs with ⟨c, hs⟩ | ⟨-, hs⟩
  · subst c
    unfold U_J7_fill_53178_5 at hs
    obtain ⟨a0, g0, hs⟩ := s_bind hs
    obtain ⟨a1, g1, hs⟩ := s_bind hs
    obtain ⟨a2, g2, hs⟩ := s_bind hs
    obtain ⟨a3, g3, hs⟩ := s_bind hs
    obtain ⟨u9, ge, hs⟩ := s_bind hs
    rw [g_r_to g0, g_i_to g1, g_i_to g2, g_i_to g3, g_e_to ge]
    exact v_J7_fill_53178_5 hs k
  cases hs
theorem t_J7_fill_53178 {G : sG} {d : Nat} {v0 : Nat} {v1 : Int32} {σ : sS} {q : Unit × sS} (h : F_J7_fill_53178 v0 v1 σ = some q) : s_T G (d + 1) M_J7_fill_53178 [.ref v0, .int v1] σ (e_V q) := by
  unfold F_J7_fill_53178 at h
  exact s_ofV rfl (by decide) (Nat.le_of_ble_eq_true rfl) rfl rfl (s_run_ind (V := fun x r => s_V G (d + 1) M_J7_fill_53178 [.ref v0, .int v1] σ Y_J7_fill_53178 x (e_V r)) (fun x z r hs hk => v_J7_fill_53178 hs (by cases z <;> exact hk)) h)
/-! J7_fill_d0a16 -/
noncomputable def T_J7_fill_d0a16_0 (v0 : Nat) (v1 : Int64) (σ : sS) : Option (sZ Unit) :=
  (s_len σ v0).bind fun x1 =>
  some (.inl (6, [.ref v0, .long v1, .int 0, .int x1], σ))
noncomputable def U_J7_fill_d0a16_0 (vs : List Value) (σ : sS) : Option (sZ Unit) := (g_r vs).bind fun a0 => (g_l a0.2).bind fun a1 => (g_e a1.2).bind fun _ => T_J7_fill_d0a16_0 a0.1 a1.1 σ
noncomputable def T_J7_fill_d0a16_6 (v0 : Nat) (v1 : Int64) (v3 : Int32) (v4 : Int32) (σ : sS) : Option (sZ Unit) :=
  if v4 ≤ v3 then (some (.inr ((), σ)))
  else ((s_sl σ v0 v3 v1).bind fun σ1 =>
  some (.inl (6, [.ref v0, .long v1, .int (v3 + 1), .int v4], σ1)))
noncomputable def U_J7_fill_d0a16_6 (vs : List Value) (σ : sS) : Option (sZ Unit) := (g_r vs).bind fun a0 => (g_l a0.2).bind fun a1 => (g_i a1.2).bind fun a2 => (g_i a2.2).bind fun a3 => (g_e a3.2).bind fun _ => T_J7_fill_d0a16_6 a0.1 a1.1 a2.1 a3.1 σ
noncomputable def S_J7_fill_d0a16 (x : sL) : Option (sZ Unit) := if x.1 = 0 then U_J7_fill_d0a16_0 x.2.1 x.2.2 else if x.1 = 6 then U_J7_fill_d0a16_6 x.2.1 x.2.2 else none
def Y_J7_fill_d0a16 (pc : Nat) : List Nat := if pc = 0 then [0, 1] else if pc = 6 then [0, 1, 3, 4] else []
noncomputable def F_J7_fill_d0a16 (v0 : Nat) (v1 : Int64) (σ : sS) : Option (Unit × sS) := s_run S_J7_fill_d0a16 (0, [.ref v0, .long v1], σ)
theorem l_J7_fill_d0a16_0 {v0 : Nat} {v1 : Int64} {σ : sS} {z : sZ Unit} (hf : T_J7_fill_d0a16_0 v0 v1 σ = some z) : s_lz σ z := by
  unfold T_J7_fill_d0a16_0 at hf
  obtain ⟨x1, -, hf⟩ := s_bind hf
  cases hf
  exact s_le.rf
theorem l_J7_fill_d0a16_6 {v0 : Nat} {v1 : Int64} {v3 : Int32} {v4 : Int32} {σ : sS} {z : sZ Unit} (hf : T_J7_fill_d0a16_6 v0 v1 v3 v4 σ = some z) : s_lz σ z := by
  unfold T_J7_fill_d0a16_6 at hf
  rcases s_ite hf with ⟨-, hf⟩ | ⟨-, hf⟩
  · cases hf
    exact s_le.rf
  · obtain ⟨σ1, hh, hf⟩ := s_bind hf
    refine s_lz.tr (s_le2 (s_sl_2 hh)) ?_
    cases hf
    exact s_le.rf
theorem l_J7_fill_d0a16_s {x : sL} {z : sZ Unit} (hs : S_J7_fill_d0a16 x = some z) : s_lz x.2.2 z := by
  obtain ⟨pc, vs, σ⟩ := x
  unfold S_J7_fill_d0a16 at hs
  dsimp only at hs ⊢
  rcases s_ite hs with ⟨c, hs⟩ | ⟨-, hs⟩
  · subst c
    unfold U_J7_fill_d0a16_0 at hs
    obtain ⟨a0, g0, hs⟩ := s_bind hs
    obtain ⟨a1, g1, hs⟩ := s_bind hs
    obtain ⟨u9, ge, hs⟩ := s_bind hs
    exact l_J7_fill_d0a16_0 hs
  rcases s_ite hs with ⟨c, hs⟩ | ⟨-, hs⟩
  · subst c
    unfold U_J7_fill_d0a16_6 at hs
    obtain ⟨a0, g0, hs⟩ := s_bind hs
    obtain ⟨a1, g1, hs⟩ := s_bind hs
    obtain ⟨a2, g2, hs⟩ := s_bind hs
    obtain ⟨a3, g3, hs⟩ := s_bind hs
    obtain ⟨u9, ge, hs⟩ := s_bind hs
    exact l_J7_fill_d0a16_6 hs
  cases hs
theorem l_J7_fill_d0a16 {v0 : Nat} {v1 : Int64} {σ : sS} {q : Unit × sS} (h : F_J7_fill_d0a16 v0 v1 σ = some q) : s_le σ q.2 := by
  unfold F_J7_fill_d0a16 at h
  exact s_run_ind (V := fun x r => s_le x.2.2 r.2) (fun x z r hs hk => by
    have h9 := l_J7_fill_d0a16_s hs
    cases z with
    | inl y => exact s_le.tr h9 hk
    | inr q => cases hk; exact h9) h
set_option maxRecDepth 100000 in
set_option maxHeartbeats 4000000 in
theorem v_J7_fill_d0a16_0 {G : sG} {d : Nat} {vs0 : List Value} {σ0 : sS} {v0 : Nat} {v1 : Int64} {σ : sS} {z : sZ Unit} {r : Unit × sS} (hf : T_J7_fill_d0a16_0 v0 v1 σ = some z) (k : s_K G (d + 1) M_J7_fill_d0a16 vs0 σ0 Y_J7_fill_d0a16 e_V z r) : s_V G (d + 1) M_J7_fill_d0a16 vs0 σ0 Y_J7_fill_d0a16 (0, [.ref v0, .long v1], σ) (e_V r) := by
  have le0 : s_le σ (e_V r).2 := s_lek hem_V (l_J7_fill_d0a16_0 hf) k
  refine ⟨le0, ?_⟩
  intro p e s m below meth c H locs cells slots ls X I hn1 hn2 hl
  have hn : cells + σ0.2.1 ≤ σ.2.1 ∧ slots + σ0.2.2.1 ≤ σ.2.2.1 := ⟨hn1, hn2⟩
  have hl : lv_has ls 5 [(0, .ref v0), (1, .long v1)] := hl
  have hx := X.1
  have hb : c.code = cJ7_fill_d0a16 := X.2.1
  have hown : s.vm.findClass RJ7 = some m.cls := X.2.2.2.2.2.1
  have hts := X.2.2.2.2.2.2.1
  refine W.eq (g2 := F0 m 0 ls []) rfl ?_
  unfold T_J7_fill_d0a16_0 at hf
  obtain ⟨x1, h1, hf⟩ := s_bind hf
  cases hf
  have k : s_V G (d + 1) M_J7_fill_d0a16 vs0 σ0 Y_J7_fill_d0a16 (6, [.ref v0, .long v1, .int 0, .int x1], σ) (e_V r) := k
  refine lv_iconst (v := 0) hx hb dJ7_fill_d0a16_0 (by decide) ?_
  refine lv_istore_n (lv' := [(3, .int 0), (0, .ref v0), (1, .long v1)]) hx hb dJ7_fill_d0a16_1 rfl hl (by decide) rfl (fun ls hl => ?_)
  refine lv_aload_n hx hb dJ7_fill_d0a16_2 rfl (lv_at hl 1 rfl) ?_
  refine r_alen X I h1 dJ7_fill_d0a16_3 ?_
  refine lv_istore (lv' := [(4, .int x1), (3, .int 0), (0, .ref v0), (1, .long v1)]) hx hb dJ7_fill_d0a16_4 hl (by decide) rfl (fun ls hl => ?_)
  exact k.2 p e s m below meth c _ _ _ _ _ X I hn.1 hn.2 (lv_sub hl [2, 3, 1, 0] rfl)
set_option maxRecDepth 100000 in
set_option maxHeartbeats 4000000 in
theorem v_J7_fill_d0a16_6 {G : sG} {d : Nat} {vs0 : List Value} {σ0 : sS} {v0 : Nat} {v1 : Int64} {v3 : Int32} {v4 : Int32} {σ : sS} {z : sZ Unit} {r : Unit × sS} (hf : T_J7_fill_d0a16_6 v0 v1 v3 v4 σ = some z) (k : s_K G (d + 1) M_J7_fill_d0a16 vs0 σ0 Y_J7_fill_d0a16 e_V z r) : s_V G (d + 1) M_J7_fill_d0a16 vs0 σ0 Y_J7_fill_d0a16 (6, [.ref v0, .long v1, .int v3, .int v4], σ) (e_V r) := by
  have le0 : s_le σ (e_V r).2 := s_lek hem_V (l_J7_fill_d0a16_6 hf) k
  refine ⟨le0, ?_⟩
  intro p e s m below meth c H locs cells slots ls X I hn1 hn2 hl
  have hn : cells + σ0.2.1 ≤ σ.2.1 ∧ slots + σ0.2.2.1 ≤ σ.2.2.1 := ⟨hn1, hn2⟩
  have hl : lv_has ls 5 [(0, .ref v0), (1, .long v1), (3, .int v3), (4, .int v4)] := hl
  have hx := X.1
  have hb : c.code = cJ7_fill_d0a16 := X.2.1
  have hown : s.vm.findClass RJ7 = some m.cls := X.2.2.2.2.2.1
  have hts := X.2.2.2.2.2.2.1
  refine W.eq (g2 := F0 m 6 ls []) rfl ?_
  unfold T_J7_fill_d0a16_6 at hf
  refine lv_iload_n hx hb dJ7_fill_d0a16_6 rfl (lv_at hl 2 rfl) ?_
  refine lv_iload hx hb dJ7_fill_d0a16_7 (lv_at hl 3 rfl) ?_
  rcases s_ite hf with ⟨c1, hf⟩ | ⟨c1, hf⟩
  · refine lv_icmp_ge (tgt := 22) hx hb dJ7_fill_d0a16_9 (by decide) (fun _ => ?_) (fun n => absurd c1 n)
    cases hf
    have k : _ = r := k
    subst k
    exact r_vret X I rfl rfl hn dJ7_fill_d0a16_22
  · refine lv_icmp_ge (tgt := 22) hx hb dJ7_fill_d0a16_9 (by decide) (fun n => absurd n c1) (fun _ => ?_)
    obtain ⟨σ1, h2, hf⟩ := s_bind hf
    cases hf
    have k : s_V G (d + 1) M_J7_fill_d0a16 vs0 σ0 Y_J7_fill_d0a16 (6, [.ref v0, .long v1, .int (v3 + 1), .int v4], σ1) (e_V r) := k
    have le3 : s_le σ1 (e_V r).2 := k.1
    refine lv_aload_n hx hb dJ7_fill_d0a16_12 rfl (lv_at hl 0 rfl) ?_
    refine lv_iload_n hx hb dJ7_fill_d0a16_13 rfl (lv_at hl 2 rfl) ?_
    refine lv_lload_n hx hb dJ7_fill_d0a16_14 rfl (lv_at hl 1 rfl) ?_
    refine r_last X I h2 dJ7_fill_d0a16_15 (fun H locs I => ?_)
    have hn := s_k2 (s_sl_2 h2) hn
    refine lv_iinc (v := (v3 + 1)) (lv' := [(3, .int (v3 + 1)), (0, .ref v0), (1, .long v1), (4, .int v4)]) hx hb dJ7_fill_d0a16_16 hl (k := 2) rfl rfl (by decide) rfl (fun ls hl => ?_)
    refine lv_goto (tgt := 6) hx hb dJ7_fill_d0a16_19 (by decide) ?_
    exact k.2 p e s m below meth c _ _ _ _ _ X I hn.1 hn.2 (lv_sub hl [1, 2, 0, 3] rfl)
theorem v_J7_fill_d0a16 {G : sG} {d : Nat} {vs0 : List Value} {σ0 : sS} {x : sL} {z : sZ Unit} {r : Unit × sS} (hs : S_J7_fill_d0a16 x = some z) (k : s_K G (d + 1) M_J7_fill_d0a16 vs0 σ0 Y_J7_fill_d0a16 e_V z r) : s_V G (d + 1) M_J7_fill_d0a16 vs0 σ0 Y_J7_fill_d0a16 x (e_V r) := by
  obtain ⟨pc, vs, σ⟩ := x
  unfold S_J7_fill_d0a16 at hs
  dsimp only at hs
  rcases s_ite hs with ⟨c, hs⟩ | ⟨-, hs⟩
  · subst c
    unfold U_J7_fill_d0a16_0 at hs
    obtain ⟨a0, g0, hs⟩ := s_bind hs
    obtain ⟨a1, g1, hs⟩ := s_bind hs
    obtain ⟨u9, ge, hs⟩ := s_bind hs
    rw [g_r_to g0, g_l_to g1, g_e_to ge]
    exact v_J7_fill_d0a16_0 hs k
  rcases s_ite hs with ⟨c, hs⟩ | ⟨-, hs⟩
  · subst c
    unfold U_J7_fill_d0a16_6 at hs
    obtain ⟨a0, g0, hs⟩ := s_bind hs
    obtain ⟨a1, g1, hs⟩ := s_bind hs
    obtain ⟨a2, g2, hs⟩ := s_bind hs
    obtain ⟨a3, g3, hs⟩ := s_bind hs
    obtain ⟨u9, ge, hs⟩ := s_bind hs
    rw [g_r_to g0, g_l_to g1, g_i_to g2, g_i_to g3, g_e_to ge]
    exact v_J7_fill_d0a16_6 hs k
  cases hs
theorem t_J7_fill_d0a16 {G : sG} {d : Nat} {v0 : Nat} {v1 : Int64} {σ : sS} {q : Unit × sS} (h : F_J7_fill_d0a16 v0 v1 σ = some q) : s_T G (d + 1) M_J7_fill_d0a16 [.ref v0, .long v1] σ (e_V q) := by
  unfold F_J7_fill_d0a16 at h
  exact s_ofV rfl (by decide) (Nat.le_of_ble_eq_true rfl) rfl rfl (s_run_ind (V := fun x r => s_V G (d + 1) M_J7_fill_d0a16 [.ref v0, .long v1] σ Y_J7_fill_d0a16 x (e_V r)) (fun x z r hs hk => v_J7_fill_d0a16 hs (by cases z <;> exact hk)) h)
/-! X7_needCustomer -/
noncomputable def T_X7_needCustomer_0 (v0 : Nat) (v1 : Int32) (σ : sS) : Option (sZ (Unit ⊕ String)) :=
  if v1 < 0 then (some (.inr (.inr "java/lang/IndexOutOfBoundsException", s_ex σ)))
  else (if v1 < 4 then (some (.inr (.inl (), σ)))
  else (some (.inr (.inr "java/lang/IndexOutOfBoundsException", s_ex σ))))
noncomputable def U_X7_needCustomer_0 (vs : List Value) (σ : sS) : Option (sZ (Unit ⊕ String)) := (g_r vs).bind fun a0 => (g_i a0.2).bind fun a1 => (g_e a1.2).bind fun _ => T_X7_needCustomer_0 a0.1 a1.1 σ
noncomputable def S_X7_needCustomer (x : sL) : Option (sZ (Unit ⊕ String)) := if x.1 = 0 then U_X7_needCustomer_0 x.2.1 x.2.2 else none
def Y_X7_needCustomer (pc : Nat) : List Nat := if pc = 0 then [0, 1] else []
noncomputable def F_X7_needCustomer (v0 : Nat) (v1 : Int32) (σ : sS) : Option ((Unit ⊕ String) × sS) := (s_is σ v0 7).bind fun _ => s_run S_X7_needCustomer (0, [.ref v0, .int v1], σ)
theorem l_X7_needCustomer_0 {v0 : Nat} {v1 : Int32} {σ : sS} {z : sZ (Unit ⊕ String)} (hf : T_X7_needCustomer_0 v0 v1 σ = some z) : s_lz σ z := by
  unfold T_X7_needCustomer_0 at hf
  rcases s_ite hf with ⟨-, hf⟩ | ⟨-, hf⟩
  · cases hf
    exact s_ex_le
  · rcases s_ite hf with ⟨-, hf⟩ | ⟨-, hf⟩
    · cases hf
      exact s_le.rf
    · cases hf
      exact s_ex_le
theorem l_X7_needCustomer_s {x : sL} {z : sZ (Unit ⊕ String)} (hs : S_X7_needCustomer x = some z) : s_lz x.2.2 z := by
  obtain ⟨pc, vs, σ⟩ := x
  unfold S_X7_needCustomer at hs
  dsimp only at hs ⊢
  rcases s_ite hs with ⟨c, hs⟩ | ⟨-, hs⟩
  · subst c
    unfold U_X7_needCustomer_0 at hs
    obtain ⟨a0, g0, hs⟩ := s_bind hs
    obtain ⟨a1, g1, hs⟩ := s_bind hs
    obtain ⟨u9, ge, hs⟩ := s_bind hs
    exact l_X7_needCustomer_0 hs
  cases hs
theorem l_X7_needCustomer {v0 : Nat} {v1 : Int32} {σ : sS} {q : (Unit ⊕ String) × sS} (h : F_X7_needCustomer v0 v1 σ = some q) : s_le σ q.2 := by
  unfold F_X7_needCustomer at h
  obtain ⟨-, -, h⟩ := s_bind h
  exact s_run_ind (V := fun x r => s_le x.2.2 r.2) (fun x z r hs hk => by
    have h9 := l_X7_needCustomer_s hs
    cases z with
    | inl y => exact s_le.tr h9 hk
    | inr q => cases hk; exact h9) h
theorem b_X7_needCustomer {v0 : Nat} {v1 : Int32} {σ : sS} {q : (Unit ⊕ String) × sS} (h : F_X7_needCustomer v0 v1 σ = some q) : ∃ fs, σ.1 v0 = some (.inr (7, fs)) := by
  unfold F_X7_needCustomer at h
  obtain ⟨u, hu, -⟩ := s_bind h
  exact s_is_to hu
set_option maxRecDepth 100000 in
set_option maxHeartbeats 4000000 in
theorem v_X7_needCustomer_0 {G : sG} {d : Nat} {vs0 : List Value} {σ0 : sS} {v0 : Nat} {v1 : Int32} {σ : sS} {z : sZ (Unit ⊕ String)} {r : (Unit ⊕ String) × sS} (hf : T_X7_needCustomer_0 v0 v1 σ = some z) (k : s_K G (d + 1) M_X7_needCustomer vs0 σ0 Y_X7_needCustomer e_VX z r) : s_V G (d + 1) M_X7_needCustomer vs0 σ0 Y_X7_needCustomer (0, [.ref v0, .int v1], σ) (e_VX r) := by
  have le0 : s_le σ (e_VX r).2 := s_lek hem_VX (l_X7_needCustomer_0 hf) k
  refine ⟨le0, ?_⟩
  intro p e s m below meth c H locs cells slots ls X I hn1 hn2 hl
  have hn : cells + σ0.2.1 ≤ σ.2.1 ∧ slots + σ0.2.2.1 ≤ σ.2.2.1 := ⟨hn1, hn2⟩
  have hl : lv_has ls 2 [(0, .ref v0), (1, .int v1)] := hl
  have hx := X.1
  have hb : c.code = cX7_needCustomer := X.2.1
  have hown : s.vm.findClass RX7 = some m.cls := X.2.2.2.2.2.1
  have hts := X.2.2.2.2.2.2.1
  refine W.eq (g2 := F0 m 0 ls []) rfl ?_
  unfold T_X7_needCustomer_0 at hf
  refine lv_iload_n hx hb dX7_needCustomer_0 rfl (lv_at hl 1 rfl) ?_
  rcases s_ite hf with ⟨c1, hf⟩ | ⟨c1, hf⟩
  · refine lv_if_lt (tgt := 9) hx hb dX7_needCustomer_1 (by decide) (fun _ => ?_) (fun n => absurd c1 n)
    cases hf
    have k : _ = r := k
    subst k
    exact r_throwW X I rfl th_X7_156_350 hl.1 (Nat.le_of_ble_eq_true rfl) hn rfl dX7_needCustomer_9 dX7_needCustomer_12 dX7_needCustomer_13 dX7_needCustomer_16 dX7_needCustomer_19
  · refine lv_if_lt (tgt := 9) hx hb dX7_needCustomer_1 (by decide) (fun n => absurd n c1) (fun _ => ?_)
    refine lv_iload_n hx hb dX7_needCustomer_4 rfl (lv_at hl 1 rfl) ?_
    refine lv_iconst (v := 4) hx hb dX7_needCustomer_5 (by decide) ?_
    rcases s_ite hf with ⟨c2, hf⟩ | ⟨c2, hf⟩
    · refine lv_icmp_lt (tgt := 20) hx hb dX7_needCustomer_6 (by decide) (fun _ => ?_) (fun n => absurd c2 n)
      cases hf
      have k : _ = r := k
      subst k
      exact r_vret X I rfl rfl hn dX7_needCustomer_20
    · refine lv_icmp_lt (tgt := 20) hx hb dX7_needCustomer_6 (by decide) (fun n => absurd n c2) (fun _ => ?_)
      cases hf
      have k : _ = r := k
      subst k
      exact r_throwW X I rfl th_X7_156_350 hl.1 (Nat.le_of_ble_eq_true rfl) hn rfl dX7_needCustomer_9 dX7_needCustomer_12 dX7_needCustomer_13 dX7_needCustomer_16 dX7_needCustomer_19
theorem v_X7_needCustomer {G : sG} {d : Nat} {vs0 : List Value} {σ0 : sS} {x : sL} {z : sZ (Unit ⊕ String)} {r : (Unit ⊕ String) × sS} (hs : S_X7_needCustomer x = some z) (k : s_K G (d + 1) M_X7_needCustomer vs0 σ0 Y_X7_needCustomer e_VX z r) : s_V G (d + 1) M_X7_needCustomer vs0 σ0 Y_X7_needCustomer x (e_VX r) := by
  obtain ⟨pc, vs, σ⟩ := x
  unfold S_X7_needCustomer at hs
  dsimp only at hs
  rcases s_ite hs with ⟨c, hs⟩ | ⟨-, hs⟩
  · subst c
    unfold U_X7_needCustomer_0 at hs
    obtain ⟨a0, g0, hs⟩ := s_bind hs
    obtain ⟨a1, g1, hs⟩ := s_bind hs
    obtain ⟨u9, ge, hs⟩ := s_bind hs
    rw [g_r_to g0, g_i_to g1, g_e_to ge]
    exact v_X7_needCustomer_0 hs k
  cases hs
theorem t_X7_needCustomer {G : sG} {d : Nat} {v0 : Nat} {v1 : Int32} {σ : sS} {q : (Unit ⊕ String) × sS} (h : F_X7_needCustomer v0 v1 σ = some q) : s_T G (d + 1) M_X7_needCustomer [.ref v0, .int v1] σ (e_VX q) := by
  unfold F_X7_needCustomer at h
  obtain ⟨-, -, h⟩ := s_bind h
  exact s_ofV rfl (by decide) (Nat.le_of_ble_eq_true rfl) rfl rfl (s_run_ind (V := fun x r => s_V G (d + 1) M_X7_needCustomer [.ref v0, .int v1] σ Y_X7_needCustomer x (e_VX r)) (fun x z r hs hk => v_X7_needCustomer hs (by cases z <;> exact hk)) h)
/-! X1_worldCount -/
noncomputable def T_X1_worldCount_0 (v0 : Nat) (σ : sS) : Option (sZ Int32) :=
  (s_fi σ v0 1 0).bind fun x1 =>
  some (.inr ((1 <<< ((4 + (2 * x1)) &&& 31)), σ))
noncomputable def U_X1_worldCount_0 (vs : List Value) (σ : sS) : Option (sZ Int32) := (g_r vs).bind fun a0 => (g_e a0.2).bind fun _ => T_X1_worldCount_0 a0.1 σ
noncomputable def S_X1_worldCount (x : sL) : Option (sZ Int32) := if x.1 = 0 then U_X1_worldCount_0 x.2.1 x.2.2 else none
def Y_X1_worldCount (pc : Nat) : List Nat := if pc = 0 then [0] else []
noncomputable def F_X1_worldCount (v0 : Nat) (σ : sS) : Option (Int32 × sS) := (s_is σ v0 1).bind fun _ => s_run S_X1_worldCount (0, [.ref v0], σ)
theorem l_X1_worldCount_0 {v0 : Nat} {σ : sS} {z : sZ Int32} (hf : T_X1_worldCount_0 v0 σ = some z) : s_lz σ z := by
  unfold T_X1_worldCount_0 at hf
  obtain ⟨x1, -, hf⟩ := s_bind hf
  cases hf
  exact s_le.rf
theorem l_X1_worldCount_s {x : sL} {z : sZ Int32} (hs : S_X1_worldCount x = some z) : s_lz x.2.2 z := by
  obtain ⟨pc, vs, σ⟩ := x
  unfold S_X1_worldCount at hs
  dsimp only at hs ⊢
  rcases s_ite hs with ⟨c, hs⟩ | ⟨-, hs⟩
  · subst c
    unfold U_X1_worldCount_0 at hs
    obtain ⟨a0, g0, hs⟩ := s_bind hs
    obtain ⟨u9, ge, hs⟩ := s_bind hs
    exact l_X1_worldCount_0 hs
  cases hs
theorem l_X1_worldCount {v0 : Nat} {σ : sS} {q : Int32 × sS} (h : F_X1_worldCount v0 σ = some q) : s_le σ q.2 := by
  unfold F_X1_worldCount at h
  obtain ⟨-, -, h⟩ := s_bind h
  exact s_run_ind (V := fun x r => s_le x.2.2 r.2) (fun x z r hs hk => by
    have h9 := l_X1_worldCount_s hs
    cases z with
    | inl y => exact s_le.tr h9 hk
    | inr q => cases hk; exact h9) h
theorem b_X1_worldCount {v0 : Nat} {σ : sS} {q : Int32 × sS} (h : F_X1_worldCount v0 σ = some q) : ∃ fs, σ.1 v0 = some (.inr (1, fs)) := by
  unfold F_X1_worldCount at h
  obtain ⟨u, hu, -⟩ := s_bind h
  exact s_is_to hu
set_option maxRecDepth 100000 in
set_option maxHeartbeats 4000000 in
theorem v_X1_worldCount_0 {G : sG} {d : Nat} {vs0 : List Value} {σ0 : sS} {v0 : Nat} {σ : sS} {z : sZ Int32} {r : Int32 × sS} (hf : T_X1_worldCount_0 v0 σ = some z) (k : s_K G (d + 1) M_X1_worldCount vs0 σ0 Y_X1_worldCount e_I z r) : s_V G (d + 1) M_X1_worldCount vs0 σ0 Y_X1_worldCount (0, [.ref v0], σ) (e_I r) := by
  have le0 : s_le σ (e_I r).2 := s_lek hem_I (l_X1_worldCount_0 hf) k
  refine ⟨le0, ?_⟩
  intro p e s m below meth c H locs cells slots ls X I hn1 hn2 hl
  have hn : cells + σ0.2.1 ≤ σ.2.1 ∧ slots + σ0.2.2.1 ≤ σ.2.2.1 := ⟨hn1, hn2⟩
  have hl : lv_has ls 1 [(0, .ref v0)] := hl
  have hx := X.1
  have hb : c.code = cX1_worldCount := X.2.1
  have hown : s.vm.findClass RX1 = some m.cls := X.2.2.2.2.2.1
  have hts := X.2.2.2.2.2.2.1
  refine W.eq (g2 := F0 m 0 ls []) rfl ?_
  unfold T_X1_worldCount_0 at hf
  obtain ⟨x1, h1, hf⟩ := s_bind hf
  cases hf
  have k : _ = r := k
  subst k
  refine lv_iconst (v := 1) hx hb dX1_worldCount_0 (by decide) ?_
  refine lv_iconst (v := 4) hx hb dX1_worldCount_1 (by decide) ?_
  refine lv_iconst (v := 2) hx hb dX1_worldCount_2 (by decide) ?_
  refine lv_aload_n hx hb dX1_worldCount_3 rfl (lv_at hl 0 rfl) ?_
  refine r_gi X I fl_X1_9 h1 dX1_worldCount_4 ?_
  refine lv_imul hx hb dX1_worldCount_7 ?_
  refine lv_iadd hx hb dX1_worldCount_8 ?_
  refine lv_ishl hx hb dX1_worldCount_9 ?_
  exact r_iret X I rfl rfl rfl hn dX1_worldCount_10
theorem v_X1_worldCount {G : sG} {d : Nat} {vs0 : List Value} {σ0 : sS} {x : sL} {z : sZ Int32} {r : Int32 × sS} (hs : S_X1_worldCount x = some z) (k : s_K G (d + 1) M_X1_worldCount vs0 σ0 Y_X1_worldCount e_I z r) : s_V G (d + 1) M_X1_worldCount vs0 σ0 Y_X1_worldCount x (e_I r) := by
  obtain ⟨pc, vs, σ⟩ := x
  unfold S_X1_worldCount at hs
  dsimp only at hs
  rcases s_ite hs with ⟨c, hs⟩ | ⟨-, hs⟩
  · subst c
    unfold U_X1_worldCount_0 at hs
    obtain ⟨a0, g0, hs⟩ := s_bind hs
    obtain ⟨u9, ge, hs⟩ := s_bind hs
    rw [g_r_to g0, g_e_to ge]
    exact v_X1_worldCount_0 hs k
  cases hs
theorem t_X1_worldCount {G : sG} {d : Nat} {v0 : Nat} {σ : sS} {q : Int32 × sS} (h : F_X1_worldCount v0 σ = some q) : s_T G (d + 1) M_X1_worldCount [.ref v0] σ (e_I q) := by
  unfold F_X1_worldCount at h
  obtain ⟨-, -, h⟩ := s_bind h
  exact s_ofV rfl (by decide) (Nat.le_of_ble_eq_true rfl) rfl rfl (s_run_ind (V := fun x r => s_V G (d + 1) M_X1_worldCount [.ref v0] σ Y_X1_worldCount x (e_I r)) (fun x z r hs hk => v_X1_worldCount hs (by cases z <;> exact hk)) h)
/-! X1_words -/
noncomputable def T_X1_words_0 (v0 : Nat) (σ : sS) : Option (sZ Int32) :=
  (F_X1_worldCount v0 σ).bind fun q1 =>
  some (.inr ((q1.1 / 64), q1.2))
noncomputable def U_X1_words_0 (vs : List Value) (σ : sS) : Option (sZ Int32) := (g_r vs).bind fun a0 => (g_e a0.2).bind fun _ => T_X1_words_0 a0.1 σ
noncomputable def S_X1_words (x : sL) : Option (sZ Int32) := if x.1 = 0 then U_X1_words_0 x.2.1 x.2.2 else none
def Y_X1_words (pc : Nat) : List Nat := if pc = 0 then [0] else []
noncomputable def F_X1_words (v0 : Nat) (σ : sS) : Option (Int32 × sS) := (s_is σ v0 1).bind fun _ => s_run S_X1_words (0, [.ref v0], σ)
theorem l_X1_words_0 {v0 : Nat} {σ : sS} {z : sZ Int32} (hf : T_X1_words_0 v0 σ = some z) : s_lz σ z := by
  unfold T_X1_words_0 at hf
  obtain ⟨q1, hh, hf⟩ := s_bind hf
  refine s_lz.tr (l_X1_worldCount hh) ?_
  cases hf
  exact s_le.rf
theorem l_X1_words_s {x : sL} {z : sZ Int32} (hs : S_X1_words x = some z) : s_lz x.2.2 z := by
  obtain ⟨pc, vs, σ⟩ := x
  unfold S_X1_words at hs
  dsimp only at hs ⊢
  rcases s_ite hs with ⟨c, hs⟩ | ⟨-, hs⟩
  · subst c
    unfold U_X1_words_0 at hs
    obtain ⟨a0, g0, hs⟩ := s_bind hs
    obtain ⟨u9, ge, hs⟩ := s_bind hs
    exact l_X1_words_0 hs
  cases hs
theorem l_X1_words {v0 : Nat} {σ : sS} {q : Int32 × sS} (h : F_X1_words v0 σ = some q) : s_le σ q.2 := by
  unfold F_X1_words at h
  obtain ⟨-, -, h⟩ := s_bind h
  exact s_run_ind (V := fun x r => s_le x.2.2 r.2) (fun x z r hs hk => by
    have h9 := l_X1_words_s hs
    cases z with
    | inl y => exact s_le.tr h9 hk
    | inr q => cases hk; exact h9) h
theorem b_X1_words {v0 : Nat} {σ : sS} {q : Int32 × sS} (h : F_X1_words v0 σ = some q) : ∃ fs, σ.1 v0 = some (.inr (1, fs)) := by
  unfold F_X1_words at h
  obtain ⟨u, hu, -⟩ := s_bind h
  exact s_is_to hu
set_option maxRecDepth 100000 in
set_option maxHeartbeats 4000000 in
theorem v_X1_words_0 {G : sG} {d : Nat} {vs0 : List Value} {σ0 : sS} {v0 : Nat} {σ : sS} {z : sZ Int32} {r : Int32 × sS} (hf : T_X1_words_0 v0 σ = some z) (k : s_K G (d + 2) M_X1_words vs0 σ0 Y_X1_words e_I z r) : s_V G (d + 2) M_X1_words vs0 σ0 Y_X1_words (0, [.ref v0], σ) (e_I r) := by
  have le0 : s_le σ (e_I r).2 := s_lek hem_I (l_X1_words_0 hf) k
  refine ⟨le0, ?_⟩
  intro p e s m below meth c H locs cells slots ls X I hn1 hn2 hl
  have hn : cells + σ0.2.1 ≤ σ.2.1 ∧ slots + σ0.2.2.1 ≤ σ.2.2.1 := ⟨hn1, hn2⟩
  have hl : lv_has ls 1 [(0, .ref v0)] := hl
  have hx := X.1
  have hb : c.code = cX1_words := X.2.1
  have hown : s.vm.findClass RX1 = some m.cls := X.2.2.2.2.2.1
  have hts := X.2.2.2.2.2.2.1
  refine W.eq (g2 := F0 m 0 ls []) rfl ?_
  unfold T_X1_words_0 at hf
  obtain ⟨q1, h1, hf⟩ := s_bind hf
  cases hf
  have k : _ = r := k
  subst k
  have le2 : s_le q1.2 q1.2 := s_le.rf
  refine lv_aload_n hx hb dX1_words_0 rfl (lv_at hl 0 rfl) ?_
  refine r_callV (Y := M_X1_worldCount) (v := some (.int q1.1)) X I w_959 my_X1_worldCount (by omega) (t_X1_worldCount (G := G) (d := d + 0) h1) (b_X1_worldCount h1) rfl rfl hl.1 rfl (Nat.le_of_ble_eq_true rfl) hn le2 dX1_words_1 (fun H locs cells slots I hn1 hn2 => ?_)
  have I : s_I G q1.2 s H locs := I
  have hn : cells + σ0.2.1 ≤ q1.2.2.1 ∧ slots + σ0.2.2.1 ≤ q1.2.2.2.1 := ⟨hn1, hn2⟩
  refine lv_bipush (v := 64) hx hb dX1_words_4 (by decide) ?_
  refine lv_idiv hx hb dX1_words_6 (by decide) ?_
  exact r_iret X I rfl rfl rfl hn dX1_words_7
theorem v_X1_words {G : sG} {d : Nat} {vs0 : List Value} {σ0 : sS} {x : sL} {z : sZ Int32} {r : Int32 × sS} (hs : S_X1_words x = some z) (k : s_K G (d + 2) M_X1_words vs0 σ0 Y_X1_words e_I z r) : s_V G (d + 2) M_X1_words vs0 σ0 Y_X1_words x (e_I r) := by
  obtain ⟨pc, vs, σ⟩ := x
  unfold S_X1_words at hs
  dsimp only at hs
  rcases s_ite hs with ⟨c, hs⟩ | ⟨-, hs⟩
  · subst c
    unfold U_X1_words_0 at hs
    obtain ⟨a0, g0, hs⟩ := s_bind hs
    obtain ⟨u9, ge, hs⟩ := s_bind hs
    rw [g_r_to g0, g_e_to ge]
    exact v_X1_words_0 hs k
  cases hs
theorem t_X1_words {G : sG} {d : Nat} {v0 : Nat} {σ : sS} {q : Int32 × sS} (h : F_X1_words v0 σ = some q) : s_T G (d + 2) M_X1_words [.ref v0] σ (e_I q) := by
  unfold F_X1_words at h
  obtain ⟨-, -, h⟩ := s_bind h
  exact s_ofV rfl (by decide) (Nat.le_of_ble_eq_true rfl) rfl rfl (s_run_ind (V := fun x r => s_V G (d + 2) M_X1_words [.ref v0] σ Y_X1_words x (e_I r)) (fun x z r hs hk => v_X1_words hs (by cases z <;> exact hk)) h)
/-! X1_truthOf -/
noncomputable def T_X1_truthOf_0 (v0 : Nat) (v1 : Int32) (v2 : Int32) (σ : sS) : Option (sZ Int64) :=
  if v1 < 0 then (some (.inr (0, σ)))
  else ((s_fi σ v0 1 2).bind fun x1 =>
  if x1 ≤ v1 then (some (.inr (0, σ)))
  else (if v2 < 0 then (some (.inr (0, σ)))
  else (if (16 : Int32) ≤ v2 then (some (.inr (0, σ)))
  else ((s_fr σ v0 1 3).bind fun x2 =>
  (s_al σ x2 ((v1 * 16) + v2)).bind fun x3 =>
  some (.inr (x3, σ))))))
noncomputable def U_X1_truthOf_0 (vs : List Value) (σ : sS) : Option (sZ Int64) := (g_r vs).bind fun a0 => (g_i a0.2).bind fun a1 => (g_i a1.2).bind fun a2 => (g_e a2.2).bind fun _ => T_X1_truthOf_0 a0.1 a1.1 a2.1 σ
noncomputable def S_X1_truthOf (x : sL) : Option (sZ Int64) := if x.1 = 0 then U_X1_truthOf_0 x.2.1 x.2.2 else none
def Y_X1_truthOf (pc : Nat) : List Nat := if pc = 0 then [0, 1, 2] else []
noncomputable def F_X1_truthOf (v0 : Nat) (v1 : Int32) (v2 : Int32) (σ : sS) : Option (Int64 × sS) := (s_is σ v0 1).bind fun _ => s_run S_X1_truthOf (0, [.ref v0, .int v1, .int v2], σ)
theorem l_X1_truthOf_0 {v0 : Nat} {v1 : Int32} {v2 : Int32} {σ : sS} {z : sZ Int64} (hf : T_X1_truthOf_0 v0 v1 v2 σ = some z) : s_lz σ z := by
  unfold T_X1_truthOf_0 at hf
  rcases s_ite hf with ⟨-, hf⟩ | ⟨-, hf⟩
  · cases hf
    exact s_le.rf
  · obtain ⟨x1, -, hf⟩ := s_bind hf
    rcases s_ite hf with ⟨-, hf⟩ | ⟨-, hf⟩
    · cases hf
      exact s_le.rf
    · rcases s_ite hf with ⟨-, hf⟩ | ⟨-, hf⟩
      · cases hf
        exact s_le.rf
      · rcases s_ite hf with ⟨-, hf⟩ | ⟨-, hf⟩
        · cases hf
          exact s_le.rf
        · obtain ⟨x2, -, hf⟩ := s_bind hf
          obtain ⟨x3, -, hf⟩ := s_bind hf
          cases hf
          exact s_le.rf
theorem l_X1_truthOf_s {x : sL} {z : sZ Int64} (hs : S_X1_truthOf x = some z) : s_lz x.2.2 z := by
  obtain ⟨pc, vs, σ⟩ := x
  unfold S_X1_truthOf at hs
  dsimp only at hs ⊢
  rcases s_ite hs with ⟨c, hs⟩ | ⟨-, hs⟩
  · subst c
    unfold U_X1_truthOf_0 at hs
    obtain ⟨a0, g0, hs⟩ := s_bind hs
    obtain ⟨a1, g1, hs⟩ := s_bind hs
    obtain ⟨a2, g2, hs⟩ := s_bind hs
    obtain ⟨u9, ge, hs⟩ := s_bind hs
    exact l_X1_truthOf_0 hs
  cases hs
theorem l_X1_truthOf {v0 : Nat} {v1 : Int32} {v2 : Int32} {σ : sS} {q : Int64 × sS} (h : F_X1_truthOf v0 v1 v2 σ = some q) : s_le σ q.2 := by
  unfold F_X1_truthOf at h
  obtain ⟨-, -, h⟩ := s_bind h
  exact s_run_ind (V := fun x r => s_le x.2.2 r.2) (fun x z r hs hk => by
    have h9 := l_X1_truthOf_s hs
    cases z with
    | inl y => exact s_le.tr h9 hk
    | inr q => cases hk; exact h9) h
theorem b_X1_truthOf {v0 : Nat} {v1 : Int32} {v2 : Int32} {σ : sS} {q : Int64 × sS} (h : F_X1_truthOf v0 v1 v2 σ = some q) : ∃ fs, σ.1 v0 = some (.inr (1, fs)) := by
  unfold F_X1_truthOf at h
  obtain ⟨u, hu, -⟩ := s_bind h
  exact s_is_to hu
set_option maxRecDepth 100000 in
set_option maxHeartbeats 4000000 in
theorem v_X1_truthOf_0 {G : sG} {d : Nat} {vs0 : List Value} {σ0 : sS} {v0 : Nat} {v1 : Int32} {v2 : Int32} {σ : sS} {z : sZ Int64} {r : Int64 × sS} (hf : T_X1_truthOf_0 v0 v1 v2 σ = some z) (k : s_K G (d + 1) M_X1_truthOf vs0 σ0 Y_X1_truthOf e_J z r) : s_V G (d + 1) M_X1_truthOf vs0 σ0 Y_X1_truthOf (0, [.ref v0, .int v1, .int v2], σ) (e_J r) := by
  have le0 : s_le σ (e_J r).2 := s_lek hem_J (l_X1_truthOf_0 hf) k
  refine ⟨le0, ?_⟩
  intro p e s m below meth c H locs cells slots ls X I hn1 hn2 hl
  have hn : cells + σ0.2.1 ≤ σ.2.1 ∧ slots + σ0.2.2.1 ≤ σ.2.2.1 := ⟨hn1, hn2⟩
  have hl : lv_has ls 3 [(0, .ref v0), (1, .int v1), (2, .int v2)] := hl
  have hx := X.1
  have hb : c.code = cX1_truthOf := X.2.1
  have hown : s.vm.findClass RX1 = some m.cls := X.2.2.2.2.2.1
  have hts := X.2.2.2.2.2.2.1
  refine W.eq (g2 := F0 m 0 ls []) rfl ?_
  unfold T_X1_truthOf_0 at hf
  refine lv_iload_n hx hb dX1_truthOf_0 rfl (lv_at hl 1 rfl) ?_
  rcases s_ite hf with ⟨c1, hf⟩ | ⟨c1, hf⟩
  · refine lv_if_lt (tgt := 36) hx hb dX1_truthOf_1 (by decide) (fun _ => ?_) (fun n => absurd c1 n)
    cases hf
    have k : _ = r := k
    subst k
    refine lv_lconst (v := 0) hx hb dX1_truthOf_36 (by decide) ?_
    exact r_lret X I rfl rfl hn dX1_truthOf_37
  · refine lv_if_lt (tgt := 36) hx hb dX1_truthOf_1 (by decide) (fun n => absurd n c1) (fun _ => ?_)
    obtain ⟨x1, h2, hf⟩ := s_bind hf
    refine lv_iload_n hx hb dX1_truthOf_4 rfl (lv_at hl 1 rfl) ?_
    refine lv_aload_n hx hb dX1_truthOf_5 rfl (lv_at hl 0 rfl) ?_
    refine r_gi X I fl_X1_48 h2 dX1_truthOf_6 ?_
    rcases s_ite hf with ⟨c3, hf⟩ | ⟨c3, hf⟩
    · refine lv_icmp_ge (tgt := 36) hx hb dX1_truthOf_9 (by decide) (fun _ => ?_) (fun n => absurd c3 n)
      cases hf
      have k : _ = r := k
      subst k
      refine lv_lconst (v := 0) hx hb dX1_truthOf_36 (by decide) ?_
      exact r_lret X I rfl rfl hn dX1_truthOf_37
    · refine lv_icmp_ge (tgt := 36) hx hb dX1_truthOf_9 (by decide) (fun n => absurd n c3) (fun _ => ?_)
      refine lv_iload_n hx hb dX1_truthOf_12 rfl (lv_at hl 2 rfl) ?_
      rcases s_ite hf with ⟨c4, hf⟩ | ⟨c4, hf⟩
      · refine lv_if_lt (tgt := 36) hx hb dX1_truthOf_13 (by decide) (fun _ => ?_) (fun n => absurd c4 n)
        cases hf
        have k : _ = r := k
        subst k
        refine lv_lconst (v := 0) hx hb dX1_truthOf_36 (by decide) ?_
        exact r_lret X I rfl rfl hn dX1_truthOf_37
      · refine lv_if_lt (tgt := 36) hx hb dX1_truthOf_13 (by decide) (fun n => absurd n c4) (fun _ => ?_)
        refine lv_iload_n hx hb dX1_truthOf_16 rfl (lv_at hl 2 rfl) ?_
        refine lv_bipush (v := 16) hx hb dX1_truthOf_17 (by decide) ?_
        rcases s_ite hf with ⟨c5, hf⟩ | ⟨c5, hf⟩
        · refine lv_icmp_ge (tgt := 36) hx hb dX1_truthOf_19 (by decide) (fun _ => ?_) (fun n => absurd c5 n)
          cases hf
          have k : _ = r := k
          subst k
          refine lv_lconst (v := 0) hx hb dX1_truthOf_36 (by decide) ?_
          exact r_lret X I rfl rfl hn dX1_truthOf_37
        · refine lv_icmp_ge (tgt := 36) hx hb dX1_truthOf_19 (by decide) (fun n => absurd n c5) (fun _ => ?_)
          obtain ⟨x2, h6, hf⟩ := s_bind hf
          obtain ⟨x3, h7, hf⟩ := s_bind hf
          cases hf
          have k : _ = r := k
          subst k
          refine lv_aload_n hx hb dX1_truthOf_22 rfl (lv_at hl 0 rfl) ?_
          refine r_gr X I fl_X1_15 h6 dX1_truthOf_23 ?_
          refine lv_iload_n hx hb dX1_truthOf_26 rfl (lv_at hl 1 rfl) ?_
          refine lv_bipush (v := 16) hx hb dX1_truthOf_27 (by decide) ?_
          refine lv_imul hx hb dX1_truthOf_29 ?_
          refine lv_iload_n hx hb dX1_truthOf_30 rfl (lv_at hl 2 rfl) ?_
          refine lv_iadd hx hb dX1_truthOf_31 ?_
          refine r_lald X I h7 dX1_truthOf_32 ?_
          refine lv_goto (tgt := 37) hx hb dX1_truthOf_33 (by decide) ?_
          exact r_lret X I rfl rfl hn dX1_truthOf_37
theorem v_X1_truthOf {G : sG} {d : Nat} {vs0 : List Value} {σ0 : sS} {x : sL} {z : sZ Int64} {r : Int64 × sS} (hs : S_X1_truthOf x = some z) (k : s_K G (d + 1) M_X1_truthOf vs0 σ0 Y_X1_truthOf e_J z r) : s_V G (d + 1) M_X1_truthOf vs0 σ0 Y_X1_truthOf x (e_J r) := by
  obtain ⟨pc, vs, σ⟩ := x
  unfold S_X1_truthOf at hs
  dsimp only at hs
  rcases s_ite hs with ⟨c, hs⟩ | ⟨-, hs⟩
  · subst c
    unfold U_X1_truthOf_0 at hs
    obtain ⟨a0, g0, hs⟩ := s_bind hs
    obtain ⟨a1, g1, hs⟩ := s_bind hs
    obtain ⟨a2, g2, hs⟩ := s_bind hs
    obtain ⟨u9, ge, hs⟩ := s_bind hs
    rw [g_r_to g0, g_i_to g1, g_i_to g2, g_e_to ge]
    exact v_X1_truthOf_0 hs k
  cases hs
theorem t_X1_truthOf {G : sG} {d : Nat} {v0 : Nat} {v1 : Int32} {v2 : Int32} {σ : sS} {q : Int64 × sS} (h : F_X1_truthOf v0 v1 v2 σ = some q) : s_T G (d + 1) M_X1_truthOf [.ref v0, .int v1, .int v2] σ (e_J q) := by
  unfold F_X1_truthOf at h
  obtain ⟨-, -, h⟩ := s_bind h
  exact s_ofV rfl (by decide) (Nat.le_of_ble_eq_true rfl) rfl rfl (s_run_ind (V := fun x r => s_V G (d + 1) M_X1_truthOf [.ref v0, .int v1, .int v2] σ Y_X1_truthOf x (e_J r)) (fun x z r hs hk => v_X1_truthOf hs (by cases z <;> exact hk)) h)
/-! X3_narrow -/
noncomputable def T_X3_narrow_0 (v0 : Nat) (v1 : Nat) (v2 : Int32) (v3 : Nat) (σ : sS) : Option (sZ Unit) :=
  some (.inl (3, [.ref v0, .ref v1, .int v2, .ref v3, .int 0], σ))
noncomputable def U_X3_narrow_0 (vs : List Value) (σ : sS) : Option (sZ Unit) := (g_r vs).bind fun a0 => (g_r a0.2).bind fun a1 => (g_i a1.2).bind fun a2 => (g_r a2.2).bind fun a3 => (g_e a3.2).bind fun _ => T_X3_narrow_0 a0.1 a1.1 a2.1 a3.1 σ
noncomputable def T_X3_narrow_3 (v0 : Nat) (v1 : Nat) (v2 : Int32) (v3 : Nat) (v4 : Int32) (σ : sS) : Option (sZ Unit) :=
  (s_fr σ v0 3 0).bind fun x1 =>
  (F_X1_words x1 σ).bind fun q2 =>
  if q2.1 ≤ v4 then (some (.inr ((), q2.2)))
  else ((s_al q2.2 v1 v4).bind fun x3 =>
  (s_fr q2.2 v0 3 0).bind fun x4 =>
  (F_X1_truthOf x4 v2 v4 q2.2).bind fun q5 =>
  (s_sl q5.2 v3 v4 (x3 &&& q5.1)).bind fun σ6 =>
  some (.inl (3, [.ref v0, .ref v1, .int v2, .ref v3, .int (v4 + 1)], σ6)))
noncomputable def U_X3_narrow_3 (vs : List Value) (σ : sS) : Option (sZ Unit) := (g_r vs).bind fun a0 => (g_r a0.2).bind fun a1 => (g_i a1.2).bind fun a2 => (g_r a2.2).bind fun a3 => (g_i a3.2).bind fun a4 => (g_e a4.2).bind fun _ => T_X3_narrow_3 a0.1 a1.1 a2.1 a3.1 a4.1 σ
noncomputable def S_X3_narrow (x : sL) : Option (sZ Unit) := if x.1 = 0 then U_X3_narrow_0 x.2.1 x.2.2 else if x.1 = 3 then U_X3_narrow_3 x.2.1 x.2.2 else none
def Y_X3_narrow (pc : Nat) : List Nat := if pc = 0 then [0, 1, 2, 3] else if pc = 3 then [0, 1, 2, 3, 4] else []
noncomputable def F_X3_narrow (v0 : Nat) (v1 : Nat) (v2 : Int32) (v3 : Nat) (σ : sS) : Option (Unit × sS) := (s_is σ v0 3).bind fun _ => s_run S_X3_narrow (0, [.ref v0, .ref v1, .int v2, .ref v3], σ)
theorem l_X3_narrow_0 {v0 : Nat} {v1 : Nat} {v2 : Int32} {v3 : Nat} {σ : sS} {z : sZ Unit} (hf : T_X3_narrow_0 v0 v1 v2 v3 σ = some z) : s_lz σ z := by
  unfold T_X3_narrow_0 at hf
  cases hf
  exact s_le.rf
theorem l_X3_narrow_3 {v0 : Nat} {v1 : Nat} {v2 : Int32} {v3 : Nat} {v4 : Int32} {σ : sS} {z : sZ Unit} (hf : T_X3_narrow_3 v0 v1 v2 v3 v4 σ = some z) : s_lz σ z := by
  unfold T_X3_narrow_3 at hf
  obtain ⟨x1, -, hf⟩ := s_bind hf
  obtain ⟨q2, hh, hf⟩ := s_bind hf
  refine s_lz.tr (l_X1_words hh) ?_
  rcases s_ite hf with ⟨-, hf⟩ | ⟨-, hf⟩
  · cases hf
    exact s_le.rf
  · obtain ⟨x3, -, hf⟩ := s_bind hf
    obtain ⟨x4, -, hf⟩ := s_bind hf
    obtain ⟨q5, hh, hf⟩ := s_bind hf
    refine s_lz.tr (l_X1_truthOf hh) ?_
    obtain ⟨σ6, hh, hf⟩ := s_bind hf
    refine s_lz.tr (s_le2 (s_sl_2 hh)) ?_
    cases hf
    exact s_le.rf
theorem l_X3_narrow_s {x : sL} {z : sZ Unit} (hs : S_X3_narrow x = some z) : s_lz x.2.2 z := by
  obtain ⟨pc, vs, σ⟩ := x
  unfold S_X3_narrow at hs
  dsimp only at hs ⊢
  rcases s_ite hs with ⟨c, hs⟩ | ⟨-, hs⟩
  · subst c
    unfold U_X3_narrow_0 at hs
    obtain ⟨a0, g0, hs⟩ := s_bind hs
    obtain ⟨a1, g1, hs⟩ := s_bind hs
    obtain ⟨a2, g2, hs⟩ := s_bind hs
    obtain ⟨a3, g3, hs⟩ := s_bind hs
    obtain ⟨u9, ge, hs⟩ := s_bind hs
    exact l_X3_narrow_0 hs
  rcases s_ite hs with ⟨c, hs⟩ | ⟨-, hs⟩
  · subst c
    unfold U_X3_narrow_3 at hs
    obtain ⟨a0, g0, hs⟩ := s_bind hs
    obtain ⟨a1, g1, hs⟩ := s_bind hs
    obtain ⟨a2, g2, hs⟩ := s_bind hs
    obtain ⟨a3, g3, hs⟩ := s_bind hs
    obtain ⟨a4, g4, hs⟩ := s_bind hs
    obtain ⟨u9, ge, hs⟩ := s_bind hs
    exact l_X3_narrow_3 hs
  cases hs
theorem l_X3_narrow {v0 : Nat} {v1 : Nat} {v2 : Int32} {v3 : Nat} {σ : sS} {q : Unit × sS} (h : F_X3_narrow v0 v1 v2 v3 σ = some q) : s_le σ q.2 := by
  unfold F_X3_narrow at h
  obtain ⟨-, -, h⟩ := s_bind h
  exact s_run_ind (V := fun x r => s_le x.2.2 r.2) (fun x z r hs hk => by
    have h9 := l_X3_narrow_s hs
    cases z with
    | inl y => exact s_le.tr h9 hk
    | inr q => cases hk; exact h9) h
theorem b_X3_narrow {v0 : Nat} {v1 : Nat} {v2 : Int32} {v3 : Nat} {σ : sS} {q : Unit × sS} (h : F_X3_narrow v0 v1 v2 v3 σ = some q) : ∃ fs, σ.1 v0 = some (.inr (3, fs)) := by
  unfold F_X3_narrow at h
  obtain ⟨u, hu, -⟩ := s_bind h
  exact s_is_to hu
set_option maxRecDepth 100000 in
set_option maxHeartbeats 4000000 in
theorem v_X3_narrow_0 {G : sG} {d : Nat} {vs0 : List Value} {σ0 : sS} {v0 : Nat} {v1 : Nat} {v2 : Int32} {v3 : Nat} {σ : sS} {z : sZ Unit} {r : Unit × sS} (hf : T_X3_narrow_0 v0 v1 v2 v3 σ = some z) (k : s_K G (d + 3) M_X3_narrow vs0 σ0 Y_X3_narrow e_V z r) : s_V G (d + 3) M_X3_narrow vs0 σ0 Y_X3_narrow (0, [.ref v0, .ref v1, .int v2, .ref v3], σ) (e_V r) := by
  have le0 : s_le σ (e_V r).2 := s_lek hem_V (l_X3_narrow_0 hf) k
  refine ⟨le0, ?_⟩
  intro p e s m below meth c H locs cells slots ls X I hn1 hn2 hl
  have hn : cells + σ0.2.1 ≤ σ.2.1 ∧ slots + σ0.2.2.1 ≤ σ.2.2.1 := ⟨hn1, hn2⟩
  have hl : lv_has ls 5 [(0, .ref v0), (1, .ref v1), (2, .int v2), (3, .ref v3)] := hl
  have hx := X.1
  have hb : c.code = cX3_narrow := X.2.1
  have hown : s.vm.findClass RX3 = some m.cls := X.2.2.2.2.2.1
  have hts := X.2.2.2.2.2.2.1
  refine W.eq (g2 := F0 m 0 ls []) rfl ?_
  unfold T_X3_narrow_0 at hf
  cases hf
  have k : s_V G (d + 3) M_X3_narrow vs0 σ0 Y_X3_narrow (3, [.ref v0, .ref v1, .int v2, .ref v3, .int 0], σ) (e_V r) := k
  refine lv_iconst (v := 0) hx hb dX3_narrow_0 (by decide) ?_
  refine lv_istore (lv' := [(4, .int 0), (0, .ref v0), (1, .ref v1), (2, .int v2), (3, .ref v3)]) hx hb dX3_narrow_1 hl (by decide) rfl (fun ls hl => ?_)
  exact k.2 p e s m below meth c _ _ _ _ _ X I hn.1 hn.2 (lv_sub hl [1, 2, 3, 4, 0] rfl)
set_option maxRecDepth 100000 in
set_option maxHeartbeats 4000000 in
theorem v_X3_narrow_3 {G : sG} {d : Nat} {vs0 : List Value} {σ0 : sS} {v0 : Nat} {v1 : Nat} {v2 : Int32} {v3 : Nat} {v4 : Int32} {σ : sS} {z : sZ Unit} {r : Unit × sS} (hf : T_X3_narrow_3 v0 v1 v2 v3 v4 σ = some z) (k : s_K G (d + 3) M_X3_narrow vs0 σ0 Y_X3_narrow e_V z r) : s_V G (d + 3) M_X3_narrow vs0 σ0 Y_X3_narrow (3, [.ref v0, .ref v1, .int v2, .ref v3, .int v4], σ) (e_V r) := by
  have le0 : s_le σ (e_V r).2 := s_lek hem_V (l_X3_narrow_3 hf) k
  refine ⟨le0, ?_⟩
  intro p e s m below meth c H locs cells slots ls X I hn1 hn2 hl
  have hn : cells + σ0.2.1 ≤ σ.2.1 ∧ slots + σ0.2.2.1 ≤ σ.2.2.1 := ⟨hn1, hn2⟩
  have hl : lv_has ls 5 [(0, .ref v0), (1, .ref v1), (2, .int v2), (3, .ref v3), (4, .int v4)] := hl
  have hx := X.1
  have hb : c.code = cX3_narrow := X.2.1
  have hown : s.vm.findClass RX3 = some m.cls := X.2.2.2.2.2.1
  have hts := X.2.2.2.2.2.2.1
  refine W.eq (g2 := F0 m 3 ls []) rfl ?_
  unfold T_X3_narrow_3 at hf
  obtain ⟨x1, h1, hf⟩ := s_bind hf
  obtain ⟨q2, h2, hf⟩ := s_bind hf
  have le3 : s_le q2.2 (e_V r).2 := by
    refine s_lek hem_V ?_ k
    rcases s_ite hf with ⟨-, hf⟩ | ⟨-, hf⟩
    · cases hf
      exact s_le.rf
    · obtain ⟨x3, -, hf⟩ := s_bind hf
      obtain ⟨x4, -, hf⟩ := s_bind hf
      obtain ⟨q5, hh, hf⟩ := s_bind hf
      refine s_lz.tr (l_X1_truthOf hh) ?_
      obtain ⟨σ6, hh, hf⟩ := s_bind hf
      refine s_lz.tr (s_le2 (s_sl_2 hh)) ?_
      cases hf
      exact s_le.rf
  refine lv_iload hx hb dX3_narrow_3 (lv_at hl 4 rfl) ?_
  refine lv_aload_n hx hb dX3_narrow_5 rfl (lv_at hl 0 rfl) ?_
  refine r_gr X I fl_X3_30 h1 dX3_narrow_6 ?_
  refine r_callV (Y := M_X1_words) (v := some (.int q2.1)) X I w_1077 my_X1_words (by omega) (t_X1_words (G := G) (d := d + 0) h2) (b_X1_words h2) rfl rfl hl.1 rfl (Nat.le_of_ble_eq_true rfl) hn le3 dX3_narrow_9 (fun H locs cells slots I hn1 hn2 => ?_)
  have I : s_I G q2.2 s H locs := I
  have hn : cells + σ0.2.1 ≤ q2.2.2.1 ∧ slots + σ0.2.2.1 ≤ q2.2.2.2.1 := ⟨hn1, hn2⟩
  rcases s_ite hf with ⟨c4, hf⟩ | ⟨c4, hf⟩
  · refine lv_icmp_ge (tgt := 40) hx hb dX3_narrow_12 (by decide) (fun _ => ?_) (fun n => absurd c4 n)
    cases hf
    have k : _ = r := k
    subst k
    exact r_vret X I rfl rfl hn dX3_narrow_40
  · refine lv_icmp_ge (tgt := 40) hx hb dX3_narrow_12 (by decide) (fun n => absurd n c4) (fun _ => ?_)
    obtain ⟨x3, h5, hf⟩ := s_bind hf
    obtain ⟨x4, h6, hf⟩ := s_bind hf
    obtain ⟨q5, h7, hf⟩ := s_bind hf
    obtain ⟨σ6, h8, hf⟩ := s_bind hf
    cases hf
    have k : s_V G (d + 3) M_X3_narrow vs0 σ0 Y_X3_narrow (3, [.ref v0, .ref v1, .int v2, .ref v3, .int (v4 + 1)], σ6) (e_V r) := k
    have le9 : s_le σ6 (e_V r).2 := k.1
    have le10 := s_le.tr (s_le2 (s_sl_2 h8)) le9
    refine lv_aload_n hx hb dX3_narrow_15 rfl (lv_at hl 3 rfl) ?_
    refine lv_iload hx hb dX3_narrow_16 (lv_at hl 4 rfl) ?_
    refine lv_aload_n hx hb dX3_narrow_18 rfl (lv_at hl 1 rfl) ?_
    refine lv_iload hx hb dX3_narrow_19 (lv_at hl 4 rfl) ?_
    refine r_lald X I h5 dX3_narrow_21 ?_
    refine lv_aload_n hx hb dX3_narrow_22 rfl (lv_at hl 0 rfl) ?_
    refine r_gr X I fl_X3_30 h6 dX3_narrow_23 ?_
    refine lv_iload_n hx hb dX3_narrow_26 rfl (lv_at hl 2 rfl) ?_
    refine lv_iload hx hb dX3_narrow_27 (lv_at hl 4 rfl) ?_
    refine r_callV (Y := M_X1_truthOf) (v := some (.long q5.1)) X I w_1078 my_X1_truthOf (by omega) (t_X1_truthOf (G := G) (d := d + 1) h7) (b_X1_truthOf h7) rfl rfl hl.1 rfl (Nat.le_of_ble_eq_true rfl) hn le10 dX3_narrow_29 (fun H locs cells slots I hn1 hn2 => ?_)
    have I : s_I G q5.2 s H locs := I
    have hn : cells + σ0.2.1 ≤ q5.2.2.1 ∧ slots + σ0.2.2.1 ≤ q5.2.2.2.1 := ⟨hn1, hn2⟩
    refine lv_land hx hb dX3_narrow_32 ?_
    refine r_last X I h8 dX3_narrow_33 (fun H locs I => ?_)
    have hn := s_k2 (s_sl_2 h8) hn
    refine lv_iinc (v := (v4 + 1)) (lv' := [(4, .int (v4 + 1)), (0, .ref v0), (1, .ref v1), (2, .int v2), (3, .ref v3)]) hx hb dX3_narrow_34 hl (k := 4) rfl rfl (by decide) rfl (fun ls hl => ?_)
    refine lv_goto (tgt := 3) hx hb dX3_narrow_37 (by decide) ?_
    exact k.2 p e s m below meth c _ _ _ _ _ X I hn.1 hn.2 (lv_sub hl [1, 2, 3, 4, 0] rfl)
theorem v_X3_narrow {G : sG} {d : Nat} {vs0 : List Value} {σ0 : sS} {x : sL} {z : sZ Unit} {r : Unit × sS} (hs : S_X3_narrow x = some z) (k : s_K G (d + 3) M_X3_narrow vs0 σ0 Y_X3_narrow e_V z r) : s_V G (d + 3) M_X3_narrow vs0 σ0 Y_X3_narrow x (e_V r) := by
  obtain ⟨pc, vs, σ⟩ := x
  unfold S_X3_narrow at hs
  dsimp only at hs
  rcases s_ite hs with ⟨c, hs⟩ | ⟨-, hs⟩
  · subst c
    unfold U_X3_narrow_0 at hs
    obtain ⟨a0, g0, hs⟩ := s_bind hs
    obtain ⟨a1, g1, hs⟩ := s_bind hs
    obtain ⟨a2, g2, hs⟩ := s_bind hs
    obtain ⟨a3, g3, hs⟩ := s_bind hs
    obtain ⟨u9, ge, hs⟩ := s_bind hs
    rw [g_r_to g0, g_r_to g1, g_i_to g2, g_r_to g3, g_e_to ge]
    exact v_X3_narrow_0 hs k
  rcases s_ite hs with ⟨c, hs⟩ | ⟨-, hs⟩
  · subst c
    unfold U_X3_narrow_3 at hs
    obtain ⟨a0, g0, hs⟩ := s_bind hs
    obtain ⟨a1, g1, hs⟩ := s_bind hs
    obtain ⟨a2, g2, hs⟩ := s_bind hs
    obtain ⟨a3, g3, hs⟩ := s_bind hs
    obtain ⟨a4, g4, hs⟩ := s_bind hs
    obtain ⟨u9, ge, hs⟩ := s_bind hs
    rw [g_r_to g0, g_r_to g1, g_i_to g2, g_r_to g3, g_i_to g4, g_e_to ge]
    exact v_X3_narrow_3 hs k
  cases hs
theorem t_X3_narrow {G : sG} {d : Nat} {v0 : Nat} {v1 : Nat} {v2 : Int32} {v3 : Nat} {σ : sS} {q : Unit × sS} (h : F_X3_narrow v0 v1 v2 v3 σ = some q) : s_T G (d + 3) M_X3_narrow [.ref v0, .ref v1, .int v2, .ref v3] σ (e_V q) := by
  unfold F_X3_narrow at h
  obtain ⟨-, -, h⟩ := s_bind h
  exact s_ofV rfl (by decide) (Nat.le_of_ble_eq_true rfl) rfl rfl (s_run_ind (V := fun x r => s_V G (d + 3) M_X3_narrow [.ref v0, .ref v1, .int v2, .ref v3] σ Y_X3_narrow x (e_V r)) (fun x z r hs hk => v_X3_narrow hs (by cases z <;> exact hk)) h)
/-! X3_gather -/
noncomputable def T_X3_gather_0 (v0 : Nat) (v1 : Int32) (v2 : Nat) (σ : sS) : Option (sZ Unit) :=
  (F_J7_fill_d0a16 v2 (-1) σ).bind fun q1 =>
  some (.inl (9, [.ref v0, .int v1, .ref v2, .int 0], q1.2))
noncomputable def U_X3_gather_0 (vs : List Value) (σ : sS) : Option (sZ Unit) := (g_r vs).bind fun a0 => (g_i a0.2).bind fun a1 => (g_r a1.2).bind fun a2 => (g_e a2.2).bind fun _ => T_X3_gather_0 a0.1 a1.1 a2.1 σ
noncomputable def T_X3_gather_9 (v0 : Nat) (v1 : Int32) (v2 : Nat) (v3 : Int32) (σ : sS) : Option (sZ Unit) :=
  (s_fr σ v0 3 0).bind fun x1 =>
  (s_fi σ x1 1 2).bind fun x2 =>
  if x2 ≤ v3 then (some (.inr ((), σ)))
  else (if ((v1 >>> (v3 &&& 31)) &&& 1) = 0 then (some (.inl (35, [.ref v0, .int v1, .ref v2, .int v3], σ)))
  else ((F_X3_narrow v0 v2 v3 v2 σ).bind fun q3 =>
  some (.inl (35, [.ref v0, .int v1, .ref v2, .int v3], q3.2))))
noncomputable def U_X3_gather_9 (vs : List Value) (σ : sS) : Option (sZ Unit) := (g_r vs).bind fun a0 => (g_i a0.2).bind fun a1 => (g_r a1.2).bind fun a2 => (g_i a2.2).bind fun a3 => (g_e a3.2).bind fun _ => T_X3_gather_9 a0.1 a1.1 a2.1 a3.1 σ
noncomputable def T_X3_gather_35 (v0 : Nat) (v1 : Int32) (v2 : Nat) (v3 : Int32) (σ : sS) : Option (sZ Unit) :=
  some (.inl (9, [.ref v0, .int v1, .ref v2, .int (v3 + 1)], σ))
noncomputable def U_X3_gather_35 (vs : List Value) (σ : sS) : Option (sZ Unit) := (g_r vs).bind fun a0 => (g_i a0.2).bind fun a1 => (g_r a1.2).bind fun a2 => (g_i a2.2).bind fun a3 => (g_e a3.2).bind fun _ => T_X3_gather_35 a0.1 a1.1 a2.1 a3.1 σ
noncomputable def S_X3_gather (x : sL) : Option (sZ Unit) := if x.1 = 0 then U_X3_gather_0 x.2.1 x.2.2 else if x.1 = 9 then U_X3_gather_9 x.2.1 x.2.2 else if x.1 = 35 then U_X3_gather_35 x.2.1 x.2.2 else none
def Y_X3_gather (pc : Nat) : List Nat := if pc = 0 then [0, 1, 2] else if pc = 9 then [0, 1, 2, 3] else if pc = 35 then [0, 1, 2, 3] else []
noncomputable def F_X3_gather (v0 : Nat) (v1 : Int32) (v2 : Nat) (σ : sS) : Option (Unit × sS) := (s_is σ v0 3).bind fun _ => s_run S_X3_gather (0, [.ref v0, .int v1, .ref v2], σ)
theorem l_X3_gather_0 {v0 : Nat} {v1 : Int32} {v2 : Nat} {σ : sS} {z : sZ Unit} (hf : T_X3_gather_0 v0 v1 v2 σ = some z) : s_lz σ z := by
  unfold T_X3_gather_0 at hf
  obtain ⟨q1, hh, hf⟩ := s_bind hf
  refine s_lz.tr (l_J7_fill_d0a16 hh) ?_
  cases hf
  exact s_le.rf
theorem l_X3_gather_9 {v0 : Nat} {v1 : Int32} {v2 : Nat} {v3 : Int32} {σ : sS} {z : sZ Unit} (hf : T_X3_gather_9 v0 v1 v2 v3 σ = some z) : s_lz σ z := by
  unfold T_X3_gather_9 at hf
  obtain ⟨x1, -, hf⟩ := s_bind hf
  obtain ⟨x2, -, hf⟩ := s_bind hf
  rcases s_ite hf with ⟨-, hf⟩ | ⟨-, hf⟩
  · cases hf
    exact s_le.rf
  · rcases s_ite hf with ⟨-, hf⟩ | ⟨-, hf⟩
    · cases hf
      exact s_le.rf
    · obtain ⟨q3, hh, hf⟩ := s_bind hf
      refine s_lz.tr (l_X3_narrow hh) ?_
      cases hf
      exact s_le.rf
theorem l_X3_gather_35 {v0 : Nat} {v1 : Int32} {v2 : Nat} {v3 : Int32} {σ : sS} {z : sZ Unit} (hf : T_X3_gather_35 v0 v1 v2 v3 σ = some z) : s_lz σ z := by
  unfold T_X3_gather_35 at hf
  cases hf
  exact s_le.rf
theorem l_X3_gather_s {x : sL} {z : sZ Unit} (hs : S_X3_gather x = some z) : s_lz x.2.2 z := by
  obtain ⟨pc, vs, σ⟩ := x
  unfold S_X3_gather at hs
  dsimp only at hs ⊢
  rcases s_ite hs with ⟨c, hs⟩ | ⟨-, hs⟩
  · subst c
    unfold U_X3_gather_0 at hs
    obtain ⟨a0, g0, hs⟩ := s_bind hs
    obtain ⟨a1, g1, hs⟩ := s_bind hs
    obtain ⟨a2, g2, hs⟩ := s_bind hs
    obtain ⟨u9, ge, hs⟩ := s_bind hs
    exact l_X3_gather_0 hs
  rcases s_ite hs with ⟨c, hs⟩ | ⟨-, hs⟩
  · subst c
    unfold U_X3_gather_9 at hs
    obtain ⟨a0, g0, hs⟩ := s_bind hs
    obtain ⟨a1, g1, hs⟩ := s_bind hs
    obtain ⟨a2, g2, hs⟩ := s_bind hs
    obtain ⟨a3, g3, hs⟩ := s_bind hs
    obtain ⟨u9, ge, hs⟩ := s_bind hs
    exact l_X3_gather_9 hs
  rcases s_ite hs with ⟨c, hs⟩ | ⟨-, hs⟩
  · subst c
    unfold U_X3_gather_35 at hs
    obtain ⟨a0, g0, hs⟩ := s_bind hs
    obtain ⟨a1, g1, hs⟩ := s_bind hs
    obtain ⟨a2, g2, hs⟩ := s_bind hs
    obtain ⟨a3, g3, hs⟩ := s_bind hs
    obtain ⟨u9, ge, hs⟩ := s_bind hs
    exact l_X3_gather_35 hs
  cases hs
theorem l_X3_gather {v0 : Nat} {v1 : Int32} {v2 : Nat} {σ : sS} {q : Unit × sS} (h : F_X3_gather v0 v1 v2 σ = some q) : s_le σ q.2 := by
  unfold F_X3_gather at h
  obtain ⟨-, -, h⟩ := s_bind h
  exact s_run_ind (V := fun x r => s_le x.2.2 r.2) (fun x z r hs hk => by
    have h9 := l_X3_gather_s hs
    cases z with
    | inl y => exact s_le.tr h9 hk
    | inr q => cases hk; exact h9) h
theorem b_X3_gather {v0 : Nat} {v1 : Int32} {v2 : Nat} {σ : sS} {q : Unit × sS} (h : F_X3_gather v0 v1 v2 σ = some q) : ∃ fs, σ.1 v0 = some (.inr (3, fs)) := by
  unfold F_X3_gather at h
  obtain ⟨u, hu, -⟩ := s_bind h
  exact s_is_to hu
set_option maxRecDepth 100000 in
set_option maxHeartbeats 4000000 in
theorem v_X3_gather_0 {G : sG} {d : Nat} {vs0 : List Value} {σ0 : sS} {v0 : Nat} {v1 : Int32} {v2 : Nat} {σ : sS} {z : sZ Unit} {r : Unit × sS} (hf : T_X3_gather_0 v0 v1 v2 σ = some z) (k : s_K G (d + 4) M_X3_gather vs0 σ0 Y_X3_gather e_V z r) : s_V G (d + 4) M_X3_gather vs0 σ0 Y_X3_gather (0, [.ref v0, .int v1, .ref v2], σ) (e_V r) := by
  have le0 : s_le σ (e_V r).2 := s_lek hem_V (l_X3_gather_0 hf) k
  refine ⟨le0, ?_⟩
  intro p e s m below meth c H locs cells slots ls X I hn1 hn2 hl
  have hn : cells + σ0.2.1 ≤ σ.2.1 ∧ slots + σ0.2.2.1 ≤ σ.2.2.1 := ⟨hn1, hn2⟩
  have hl : lv_has ls 4 [(0, .ref v0), (1, .int v1), (2, .ref v2)] := hl
  have hx := X.1
  have hb : c.code = cX3_gather := X.2.1
  have hown : s.vm.findClass RX3 = some m.cls := X.2.2.2.2.2.1
  have hts := X.2.2.2.2.2.2.1
  refine W.eq (g2 := F0 m 0 ls []) rfl ?_
  unfold T_X3_gather_0 at hf
  obtain ⟨q1, h1, hf⟩ := s_bind hf
  cases hf
  have k : s_V G (d + 4) M_X3_gather vs0 σ0 Y_X3_gather (9, [.ref v0, .int v1, .ref v2, .int 0], q1.2) (e_V r) := k
  have le2 : s_le q1.2 (e_V r).2 := k.1
  refine lv_aload_n hx hb dX3_gather_0 rfl (lv_at hl 2 rfl) ?_
  refine lv_ldc2 (own := RX3) hx hb hown (hts _ w_1246) dX3_gather_1 ?_
  refine r_callS (Y := M_J7_fill_d0a16) (v := none) X I w_1247 my_J7_fill_d0a16 (by omega) (t_J7_fill_d0a16 (G := G) (d := d + 2) h1) rfl rfl hl.1 rfl (Nat.le_of_ble_eq_true rfl) hn le2 dX3_gather_4 (fun H locs cells slots I hn1 hn2 => ?_)
  have I : s_I G q1.2 s H locs := I
  have hn : cells + σ0.2.1 ≤ q1.2.2.1 ∧ slots + σ0.2.2.1 ≤ q1.2.2.2.1 := ⟨hn1, hn2⟩
  refine lv_iconst (v := 0) hx hb dX3_gather_7 (by decide) ?_
  refine lv_istore_n (lv' := [(3, .int 0), (0, .ref v0), (1, .int v1), (2, .ref v2)]) hx hb dX3_gather_8 rfl hl (by decide) rfl (fun ls hl => ?_)
  exact k.2 p e s m below meth c _ _ _ _ _ X I hn.1 hn.2 (lv_sub hl [1, 2, 3, 0] rfl)
set_option maxRecDepth 100000 in
set_option maxHeartbeats 4000000 in
theorem v_X3_gather_9 {G : sG} {d : Nat} {vs0 : List Value} {σ0 : sS} {v0 : Nat} {v1 : Int32} {v2 : Nat} {v3 : Int32} {σ : sS} {z : sZ Unit} {r : Unit × sS} (hf : T_X3_gather_9 v0 v1 v2 v3 σ = some z) (k : s_K G (d + 4) M_X3_gather vs0 σ0 Y_X3_gather e_V z r) : s_V G (d + 4) M_X3_gather vs0 σ0 Y_X3_gather (9, [.ref v0, .int v1, .ref v2, .int v3], σ) (e_V r) := by
  have le0 : s_le σ (e_V r).2 := s_lek hem_V (l_X3_gather_9 hf) k
  refine ⟨le0, ?_⟩
  intro p e s m below meth c H locs cells slots ls X I hn1 hn2 hl
  have hn : cells + σ0.2.1 ≤ σ.2.1 ∧ slots + σ0.2.2.1 ≤ σ.2.2.1 := ⟨hn1, hn2⟩
  have hl : lv_has ls 4 [(0, .ref v0), (1, .int v1), (2, .ref v2), (3, .int v3)] := hl
  have hx := X.1
  have hb : c.code = cX3_gather := X.2.1
  have hown : s.vm.findClass RX3 = some m.cls := X.2.2.2.2.2.1
  have hts := X.2.2.2.2.2.2.1
  refine W.eq (g2 := F0 m 9 ls []) rfl ?_
  unfold T_X3_gather_9 at hf
  obtain ⟨x1, h1, hf⟩ := s_bind hf
  obtain ⟨x2, h2, hf⟩ := s_bind hf
  refine lv_iload_n hx hb dX3_gather_9 rfl (lv_at hl 3 rfl) ?_
  refine lv_aload_n hx hb dX3_gather_10 rfl (lv_at hl 0 rfl) ?_
  refine r_gr X I fl_X3_30 h1 dX3_gather_11 ?_
  refine r_gi X I fl_X3_48 h2 dX3_gather_14 ?_
  rcases s_ite hf with ⟨c3, hf⟩ | ⟨c3, hf⟩
  · refine lv_icmp_ge (tgt := 41) hx hb dX3_gather_17 (by decide) (fun _ => ?_) (fun n => absurd c3 n)
    cases hf
    have k : _ = r := k
    subst k
    exact r_vret X I rfl rfl hn dX3_gather_41
  · refine lv_icmp_ge (tgt := 41) hx hb dX3_gather_17 (by decide) (fun n => absurd n c3) (fun _ => ?_)
    refine lv_iload_n hx hb dX3_gather_20 rfl (lv_at hl 1 rfl) ?_
    refine lv_iload_n hx hb dX3_gather_21 rfl (lv_at hl 3 rfl) ?_
    refine lv_ishr hx hb dX3_gather_22 ?_
    refine lv_iconst (v := 1) hx hb dX3_gather_23 (by decide) ?_
    refine lv_iand hx hb dX3_gather_24 ?_
    rcases s_ite hf with ⟨c4, hf⟩ | ⟨c4, hf⟩
    · refine lv_if_eq (tgt := 35) hx hb dX3_gather_25 (by decide) (fun _ => ?_) (fun n => absurd c4 n)
      cases hf
      have k : s_V G (d + 4) M_X3_gather vs0 σ0 Y_X3_gather (35, [.ref v0, .int v1, .ref v2, .int v3], σ) (e_V r) := k
      exact k.2 p e s m below meth c _ _ _ _ _ X I hn.1 hn.2 (lv_sub hl [0, 1, 2, 3] rfl)
    · refine lv_if_eq (tgt := 35) hx hb dX3_gather_25 (by decide) (fun n => absurd n c4) (fun _ => ?_)
      obtain ⟨q3, h5, hf⟩ := s_bind hf
      cases hf
      have k : s_V G (d + 4) M_X3_gather vs0 σ0 Y_X3_gather (35, [.ref v0, .int v1, .ref v2, .int v3], q3.2) (e_V r) := k
      have le6 : s_le q3.2 (e_V r).2 := k.1
      refine lv_aload_n hx hb dX3_gather_28 rfl (lv_at hl 0 rfl) ?_
      refine lv_aload_n hx hb dX3_gather_29 rfl (lv_at hl 2 rfl) ?_
      refine lv_iload_n hx hb dX3_gather_30 rfl (lv_at hl 3 rfl) ?_
      refine lv_aload_n hx hb dX3_gather_31 rfl (lv_at hl 2 rfl) ?_
      refine r_callV (Y := M_X3_narrow) (v := none) X I w_1250 my_X3_narrow (by omega) (t_X3_narrow (G := G) (d := d + 0) h5) (b_X3_narrow h5) rfl rfl hl.1 rfl (Nat.le_of_ble_eq_true rfl) hn le6 dX3_gather_32 (fun H locs cells slots I hn1 hn2 => ?_)
      have I : s_I G q3.2 s H locs := I
      have hn : cells + σ0.2.1 ≤ q3.2.2.1 ∧ slots + σ0.2.2.1 ≤ q3.2.2.2.1 := ⟨hn1, hn2⟩
      exact k.2 p e s m below meth c _ _ _ _ _ X I hn.1 hn.2 (lv_sub hl [0, 1, 2, 3] rfl)
set_option maxRecDepth 100000 in
set_option maxHeartbeats 4000000 in
theorem v_X3_gather_35 {G : sG} {d : Nat} {vs0 : List Value} {σ0 : sS} {v0 : Nat} {v1 : Int32} {v2 : Nat} {v3 : Int32} {σ : sS} {z : sZ Unit} {r : Unit × sS} (hf : T_X3_gather_35 v0 v1 v2 v3 σ = some z) (k : s_K G (d + 4) M_X3_gather vs0 σ0 Y_X3_gather e_V z r) : s_V G (d + 4) M_X3_gather vs0 σ0 Y_X3_gather (35, [.ref v0, .int v1, .ref v2, .int v3], σ) (e_V r) := by
  have le0 : s_le σ (e_V r).2 := s_lek hem_V (l_X3_gather_35 hf) k
  refine ⟨le0, ?_⟩
  intro p e s m below meth c H locs cells slots ls X I hn1 hn2 hl
  have hn : cells + σ0.2.1 ≤ σ.2.1 ∧ slots + σ0.2.2.1 ≤ σ.2.2.1 := ⟨hn1, hn2⟩
  have hl : lv_has ls 4 [(0, .ref v0), (1, .int v1), (2, .ref v2), (3, .int v3)] := hl
  have hx := X.1
  have hb : c.code = cX3_gather := X.2.1
  have hown : s.vm.findClass RX3 = some m.cls := X.2.2.2.2.2.1
  have hts := X.2.2.2.2.2.2.1
  refine W.eq (g2 := F0 m 35 ls []) rfl ?_
  unfold T_X3_gather_35 at hf
  cases hf
  have k : s_V G (d + 4) M_X3_gather vs0 σ0 Y_X3_gather (9, [.ref v0, .int v1, .ref v2, .int (v3 + 1)], σ) (e_V r) := k
  refine lv_iinc (v := (v3 + 1)) (lv' := [(3, .int (v3 + 1)), (0, .ref v0), (1, .int v1), (2, .ref v2)]) hx hb dX3_gather_35 hl (k := 3) rfl rfl (by decide) rfl (fun ls hl => ?_)
  refine lv_goto (tgt := 9) hx hb dX3_gather_38 (by decide) ?_
  exact k.2 p e s m below meth c _ _ _ _ _ X I hn.1 hn.2 (lv_sub hl [1, 2, 3, 0] rfl)
theorem v_X3_gather {G : sG} {d : Nat} {vs0 : List Value} {σ0 : sS} {x : sL} {z : sZ Unit} {r : Unit × sS} (hs : S_X3_gather x = some z) (k : s_K G (d + 4) M_X3_gather vs0 σ0 Y_X3_gather e_V z r) : s_V G (d + 4) M_X3_gather vs0 σ0 Y_X3_gather x (e_V r) := by
  obtain ⟨pc, vs, σ⟩ := x
  unfold S_X3_gather at hs
  dsimp only at hs
  rcases s_ite hs with ⟨c, hs⟩ | ⟨-, hs⟩
  · subst c
    unfold U_X3_gather_0 at hs
    obtain ⟨a0, g0, hs⟩ := s_bind hs
    obtain ⟨a1, g1, hs⟩ := s_bind hs
    obtain ⟨a2, g2, hs⟩ := s_bind hs
    obtain ⟨u9, ge, hs⟩ := s_bind hs
    rw [g_r_to g0, g_i_to g1, g_r_to g2, g_e_to ge]
    exact v_X3_gather_0 hs k
  rcases s_ite hs with ⟨c, hs⟩ | ⟨-, hs⟩
  · subst c
    unfold U_X3_gather_9 at hs
    obtain ⟨a0, g0, hs⟩ := s_bind hs
    obtain ⟨a1, g1, hs⟩ := s_bind hs
    obtain ⟨a2, g2, hs⟩ := s_bind hs
    obtain ⟨a3, g3, hs⟩ := s_bind hs
    obtain ⟨u9, ge, hs⟩ := s_bind hs
    rw [g_r_to g0, g_i_to g1, g_r_to g2, g_i_to g3, g_e_to ge]
    exact v_X3_gather_9 hs k
  rcases s_ite hs with ⟨c, hs⟩ | ⟨-, hs⟩
  · subst c
    unfold U_X3_gather_35 at hs
    obtain ⟨a0, g0, hs⟩ := s_bind hs
    obtain ⟨a1, g1, hs⟩ := s_bind hs
    obtain ⟨a2, g2, hs⟩ := s_bind hs
    obtain ⟨a3, g3, hs⟩ := s_bind hs
    obtain ⟨u9, ge, hs⟩ := s_bind hs
    rw [g_r_to g0, g_i_to g1, g_r_to g2, g_i_to g3, g_e_to ge]
    exact v_X3_gather_35 hs k
  cases hs
theorem t_X3_gather {G : sG} {d : Nat} {v0 : Nat} {v1 : Int32} {v2 : Nat} {σ : sS} {q : Unit × sS} (h : F_X3_gather v0 v1 v2 σ = some q) : s_T G (d + 4) M_X3_gather [.ref v0, .int v1, .ref v2] σ (e_V q) := by
  unfold F_X3_gather at h
  obtain ⟨-, -, h⟩ := s_bind h
  exact s_ofV rfl (by decide) (Nat.le_of_ble_eq_true rfl) rfl rfl (s_run_ind (V := fun x r => s_V G (d + 4) M_X3_gather [.ref v0, .int v1, .ref v2] σ Y_X3_gather x (e_V r)) (fun x z r hs hk => v_X3_gather hs (by cases z <;> exact hk)) h)
/-! X3_leastOf -/
noncomputable def T_X3_leastOf_0 (v0 : Nat) (v1 : Nat) (σ : sS) : Option (sZ Int32) :=
  some (.inl (2, [.ref v0, .ref v1, .int 0], σ))
noncomputable def U_X3_leastOf_0 (vs : List Value) (σ : sS) : Option (sZ Int32) := (g_r vs).bind fun a0 => (g_r a0.2).bind fun a1 => (g_e a1.2).bind fun _ => T_X3_leastOf_0 a0.1 a1.1 σ
noncomputable def T_X3_leastOf_2 (v0 : Nat) (v1 : Nat) (v2 : Int32) (σ : sS) : Option (sZ Int32) :=
  (s_fr σ v0 3 0).bind fun x1 =>
  (F_X1_words x1 σ).bind fun q2 =>
  if q2.1 ≤ v2 then (some (.inr ((-1), q2.2)))
  else ((s_al q2.2 v1 v2).bind fun x3 =>
  if (lg_cmp x3 0) = 0 then (some (.inl (2, [.ref v0, .ref v1, .int (v2 + 1)], q2.2)))
  else ((s_al q2.2 v1 v2).bind fun x4 =>
  (F_J13_numberOfTrailingZeros_95d88 x4 q2.2).bind fun q5 =>
  some (.inr (((v2 * 64) + q5.1), q5.2))))
noncomputable def U_X3_leastOf_2 (vs : List Value) (σ : sS) : Option (sZ Int32) := (g_r vs).bind fun a0 => (g_r a0.2).bind fun a1 => (g_i a1.2).bind fun a2 => (g_e a2.2).bind fun _ => T_X3_leastOf_2 a0.1 a1.1 a2.1 σ
noncomputable def S_X3_leastOf (x : sL) : Option (sZ Int32) := if x.1 = 0 then U_X3_leastOf_0 x.2.1 x.2.2 else if x.1 = 2 then U_X3_leastOf_2 x.2.1 x.2.2 else none
def Y_X3_leastOf (pc : Nat) : List Nat := if pc = 0 then [0, 1] else if pc = 2 then [0, 1, 2] else []
noncomputable def F_X3_leastOf (v0 : Nat) (v1 : Nat) (σ : sS) : Option (Int32 × sS) := (s_is σ v0 3).bind fun _ => s_run S_X3_leastOf (0, [.ref v0, .ref v1], σ)
theorem l_X3_leastOf_0 {v0 : Nat} {v1 : Nat} {σ : sS} {z : sZ Int32} (hf : T_X3_leastOf_0 v0 v1 σ = some z) : s_lz σ z := by
  unfold T_X3_leastOf_0 at hf
  cases hf
  exact s_le.rf
theorem l_X3_leastOf_2 {v0 : Nat} {v1 : Nat} {v2 : Int32} {σ : sS} {z : sZ Int32} (hf : T_X3_leastOf_2 v0 v1 v2 σ = some z) : s_lz σ z := by
  unfold T_X3_leastOf_2 at hf
  obtain ⟨x1, -, hf⟩ := s_bind hf
  obtain ⟨q2, hh, hf⟩ := s_bind hf
  refine s_lz.tr (l_X1_words hh) ?_
  rcases s_ite hf with ⟨-, hf⟩ | ⟨-, hf⟩
  · cases hf
    exact s_le.rf
  · obtain ⟨x3, -, hf⟩ := s_bind hf
    rcases s_ite hf with ⟨-, hf⟩ | ⟨-, hf⟩
    · cases hf
      exact s_le.rf
    · obtain ⟨x4, -, hf⟩ := s_bind hf
      obtain ⟨q5, hh, hf⟩ := s_bind hf
      refine s_lz.tr (l_J13_numberOfTrailingZeros_95d88 hh) ?_
      cases hf
      exact s_le.rf
theorem l_X3_leastOf_s {x : sL} {z : sZ Int32} (hs : S_X3_leastOf x = some z) : s_lz x.2.2 z := by
  obtain ⟨pc, vs, σ⟩ := x
  unfold S_X3_leastOf at hs
  dsimp only at hs ⊢
  rcases s_ite hs with ⟨c, hs⟩ | ⟨-, hs⟩
  · subst c
    unfold U_X3_leastOf_0 at hs
    obtain ⟨a0, g0, hs⟩ := s_bind hs
    obtain ⟨a1, g1, hs⟩ := s_bind hs
    obtain ⟨u9, ge, hs⟩ := s_bind hs
    exact l_X3_leastOf_0 hs
  rcases s_ite hs with ⟨c, hs⟩ | ⟨-, hs⟩
  · subst c
    unfold U_X3_leastOf_2 at hs
    obtain ⟨a0, g0, hs⟩ := s_bind hs
    obtain ⟨a1, g1, hs⟩ := s_bind hs
    obtain ⟨a2, g2, hs⟩ := s_bind hs
    obtain ⟨u9, ge, hs⟩ := s_bind hs
    exact l_X3_leastOf_2 hs
  cases hs
theorem l_X3_leastOf {v0 : Nat} {v1 : Nat} {σ : sS} {q : Int32 × sS} (h : F_X3_leastOf v0 v1 σ = some q) : s_le σ q.2 := by
  unfold F_X3_leastOf at h
  obtain ⟨-, -, h⟩ := s_bind h
  exact s_run_ind (V := fun x r => s_le x.2.2 r.2) (fun x z r hs hk => by
    have h9 := l_X3_leastOf_s hs
    cases z with
    | inl y => exact s_le.tr h9 hk
    | inr q => cases hk; exact h9) h
theorem b_X3_leastOf {v0 : Nat} {v1 : Nat} {σ : sS} {q : Int32 × sS} (h : F_X3_leastOf v0 v1 σ = some q) : ∃ fs, σ.1 v0 = some (.inr (3, fs)) := by
  unfold F_X3_leastOf at h
  obtain ⟨u, hu, -⟩ := s_bind h
  exact s_is_to hu
set_option maxRecDepth 100000 in
set_option maxHeartbeats 4000000 in
theorem v_X3_leastOf_0 {G : sG} {d : Nat} {vs0 : List Value} {σ0 : sS} {v0 : Nat} {v1 : Nat} {σ : sS} {z : sZ Int32} {r : Int32 × sS} (hf : T_X3_leastOf_0 v0 v1 σ = some z) (k : s_K G (d + 3) M_X3_leastOf vs0 σ0 Y_X3_leastOf e_I z r) : s_V G (d + 3) M_X3_leastOf vs0 σ0 Y_X3_leastOf (0, [.ref v0, .ref v1], σ) (e_I r) := by
  have le0 : s_le σ (e_I r).2 := s_lek hem_I (l_X3_leastOf_0 hf) k
  refine ⟨le0, ?_⟩
  intro p e s m below meth c H locs cells slots ls X I hn1 hn2 hl
  have hn : cells + σ0.2.1 ≤ σ.2.1 ∧ slots + σ0.2.2.1 ≤ σ.2.2.1 := ⟨hn1, hn2⟩
  have hl : lv_has ls 3 [(0, .ref v0), (1, .ref v1)] := hl
  have hx := X.1
  have hb : c.code = cX3_leastOf := X.2.1
  have hown : s.vm.findClass RX3 = some m.cls := X.2.2.2.2.2.1
  have hts := X.2.2.2.2.2.2.1
  refine W.eq (g2 := F0 m 0 ls []) rfl ?_
  unfold T_X3_leastOf_0 at hf
  cases hf
  have k : s_V G (d + 3) M_X3_leastOf vs0 σ0 Y_X3_leastOf (2, [.ref v0, .ref v1, .int 0], σ) (e_I r) := k
  refine lv_iconst (v := 0) hx hb dX3_leastOf_0 (by decide) ?_
  refine lv_istore_n (lv' := [(2, .int 0), (0, .ref v0), (1, .ref v1)]) hx hb dX3_leastOf_1 rfl hl (by decide) rfl (fun ls hl => ?_)
  exact k.2 p e s m below meth c _ _ _ _ _ X I hn.1 hn.2 (lv_sub hl [1, 2, 0] rfl)
set_option maxRecDepth 100000 in
set_option maxHeartbeats 4000000 in
theorem v_X3_leastOf_2 {G : sG} {d : Nat} {vs0 : List Value} {σ0 : sS} {v0 : Nat} {v1 : Nat} {v2 : Int32} {σ : sS} {z : sZ Int32} {r : Int32 × sS} (hf : T_X3_leastOf_2 v0 v1 v2 σ = some z) (k : s_K G (d + 3) M_X3_leastOf vs0 σ0 Y_X3_leastOf e_I z r) : s_V G (d + 3) M_X3_leastOf vs0 σ0 Y_X3_leastOf (2, [.ref v0, .ref v1, .int v2], σ) (e_I r) := by
  have le0 : s_le σ (e_I r).2 := s_lek hem_I (l_X3_leastOf_2 hf) k
  refine ⟨le0, ?_⟩
  intro p e s m below meth c H locs cells slots ls X I hn1 hn2 hl
  have hn : cells + σ0.2.1 ≤ σ.2.1 ∧ slots + σ0.2.2.1 ≤ σ.2.2.1 := ⟨hn1, hn2⟩
  have hl : lv_has ls 3 [(0, .ref v0), (1, .ref v1), (2, .int v2)] := hl
  have hx := X.1
  have hb : c.code = cX3_leastOf := X.2.1
  have hown : s.vm.findClass RX3 = some m.cls := X.2.2.2.2.2.1
  have hts := X.2.2.2.2.2.2.1
  refine W.eq (g2 := F0 m 2 ls []) rfl ?_
  unfold T_X3_leastOf_2 at hf
  obtain ⟨x1, h1, hf⟩ := s_bind hf
  obtain ⟨q2, h2, hf⟩ := s_bind hf
  have le3 : s_le q2.2 (e_I r).2 := by
    refine s_lek hem_I ?_ k
    rcases s_ite hf with ⟨-, hf⟩ | ⟨-, hf⟩
    · cases hf
      exact s_le.rf
    · obtain ⟨x3, -, hf⟩ := s_bind hf
      rcases s_ite hf with ⟨-, hf⟩ | ⟨-, hf⟩
      · cases hf
        exact s_le.rf
      · obtain ⟨x4, -, hf⟩ := s_bind hf
        obtain ⟨q5, hh, hf⟩ := s_bind hf
        refine s_lz.tr (l_J13_numberOfTrailingZeros_95d88 hh) ?_
        cases hf
        exact s_le.rf
  refine lv_iload_n hx hb dX3_leastOf_2 rfl (lv_at hl 2 rfl) ?_
  refine lv_aload_n hx hb dX3_leastOf_3 rfl (lv_at hl 0 rfl) ?_
  refine r_gr X I fl_X3_30 h1 dX3_leastOf_4 ?_
  refine r_callV (Y := M_X1_words) (v := some (.int q2.1)) X I w_1077 my_X1_words (by omega) (t_X1_words (G := G) (d := d + 0) h2) (b_X1_words h2) rfl rfl hl.1 rfl (Nat.le_of_ble_eq_true rfl) hn le3 dX3_leastOf_7 (fun H locs cells slots I hn1 hn2 => ?_)
  have I : s_I G q2.2 s H locs := I
  have hn : cells + σ0.2.1 ≤ q2.2.2.1 ∧ slots + σ0.2.2.1 ≤ q2.2.2.2.1 := ⟨hn1, hn2⟩
  rcases s_ite hf with ⟨c4, hf⟩ | ⟨c4, hf⟩
  · refine lv_icmp_ge (tgt := 39) hx hb dX3_leastOf_10 (by decide) (fun _ => ?_) (fun n => absurd c4 n)
    cases hf
    have k : _ = r := k
    subst k
    refine lv_iconst (v := (-1)) hx hb dX3_leastOf_39 (by decide) ?_
    exact r_iret X I rfl rfl rfl hn dX3_leastOf_40
  · refine lv_icmp_ge (tgt := 39) hx hb dX3_leastOf_10 (by decide) (fun n => absurd n c4) (fun _ => ?_)
    obtain ⟨x3, h5, hf⟩ := s_bind hf
    refine lv_aload_n hx hb dX3_leastOf_13 rfl (lv_at hl 1 rfl) ?_
    refine lv_iload_n hx hb dX3_leastOf_14 rfl (lv_at hl 2 rfl) ?_
    refine r_lald X I h5 dX3_leastOf_15 ?_
    refine lv_lconst (v := 0) hx hb dX3_leastOf_16 (by decide) ?_
    refine W.lcmp hx hb dX3_leastOf_17 ?_
    rcases s_ite hf with ⟨c6, hf⟩ | ⟨c6, hf⟩
    · refine lv_if_eq (tgt := 33) hx hb dX3_leastOf_18 (by decide) (fun _ => ?_) (fun n => absurd c6 n)
      cases hf
      have k : s_V G (d + 3) M_X3_leastOf vs0 σ0 Y_X3_leastOf (2, [.ref v0, .ref v1, .int (v2 + 1)], q2.2) (e_I r) := k
      refine lv_iinc (v := (v2 + 1)) (lv' := [(2, .int (v2 + 1)), (0, .ref v0), (1, .ref v1)]) hx hb dX3_leastOf_33 hl (k := 2) rfl rfl (by decide) rfl (fun ls hl => ?_)
      refine lv_goto (tgt := 2) hx hb dX3_leastOf_36 (by decide) ?_
      exact k.2 p e s m below meth c _ _ _ _ _ X I hn.1 hn.2 (lv_sub hl [1, 2, 0] rfl)
    · refine lv_if_eq (tgt := 33) hx hb dX3_leastOf_18 (by decide) (fun n => absurd n c6) (fun _ => ?_)
      obtain ⟨x4, h7, hf⟩ := s_bind hf
      obtain ⟨q5, h8, hf⟩ := s_bind hf
      cases hf
      have k : _ = r := k
      subst k
      have le9 : s_le q5.2 q5.2 := s_le.rf
      refine lv_iload_n hx hb dX3_leastOf_21 rfl (lv_at hl 2 rfl) ?_
      refine lv_bipush (v := 64) hx hb dX3_leastOf_22 (by decide) ?_
      refine lv_imul hx hb dX3_leastOf_24 ?_
      refine lv_aload_n hx hb dX3_leastOf_25 rfl (lv_at hl 1 rfl) ?_
      refine lv_iload_n hx hb dX3_leastOf_26 rfl (lv_at hl 2 rfl) ?_
      refine r_lald X I h7 dX3_leastOf_27 ?_
      refine r_callS (Y := M_J13_numberOfTrailingZeros_95d88) (v := some (.int q5.1)) X I w_1258 my_J13_numberOfTrailingZeros_95d88 (by omega) (t_J13_numberOfTrailingZeros_95d88 (G := G) (d := d + 0) h8) rfl rfl hl.1 rfl (Nat.le_of_ble_eq_true rfl) hn le9 dX3_leastOf_28 (fun H locs cells slots I hn1 hn2 => ?_)
      have I : s_I G q5.2 s H locs := I
      have hn : cells + σ0.2.1 ≤ q5.2.2.1 ∧ slots + σ0.2.2.1 ≤ q5.2.2.2.1 := ⟨hn1, hn2⟩
      refine lv_iadd hx hb dX3_leastOf_31 ?_
      exact r_iret X I rfl rfl rfl hn dX3_leastOf_32
theorem v_X3_leastOf {G : sG} {d : Nat} {vs0 : List Value} {σ0 : sS} {x : sL} {z : sZ Int32} {r : Int32 × sS} (hs : S_X3_leastOf x = some z) (k : s_K G (d + 3) M_X3_leastOf vs0 σ0 Y_X3_leastOf e_I z r) : s_V G (d + 3) M_X3_leastOf vs0 σ0 Y_X3_leastOf x (e_I r) := by
  obtain ⟨pc, vs, σ⟩ := x
  unfold S_X3_leastOf at hs
  dsimp only at hs
  rcases s_ite hs with ⟨c, hs⟩ | ⟨-, hs⟩
  · subst c
    unfold U_X3_leastOf_0 at hs
    obtain ⟨a0, g0, hs⟩ := s_bind hs
    obtain ⟨a1, g1, hs⟩ := s_bind hs
    obtain ⟨u9, ge, hs⟩ := s_bind hs
    rw [g_r_to g0, g_r_to g1, g_e_to ge]
    exact v_X3_leastOf_0 hs k
  rcases s_ite hs with ⟨c, hs⟩ | ⟨-, hs⟩
  · subst c
    unfold U_X3_leastOf_2 at hs
    obtain ⟨a0, g0, hs⟩ := s_bind hs
    obtain ⟨a1, g1, hs⟩ := s_bind hs
    obtain ⟨a2, g2, hs⟩ := s_bind hs
    obtain ⟨u9, ge, hs⟩ := s_bind hs
    rw [g_r_to g0, g_r_to g1, g_i_to g2, g_e_to ge]
    exact v_X3_leastOf_2 hs k
  cases hs
theorem t_X3_leastOf {G : sG} {d : Nat} {v0 : Nat} {v1 : Nat} {σ : sS} {q : Int32 × sS} (h : F_X3_leastOf v0 v1 σ = some q) : s_T G (d + 3) M_X3_leastOf [.ref v0, .ref v1] σ (e_I q) := by
  unfold F_X3_leastOf at h
  obtain ⟨-, -, h⟩ := s_bind h
  exact s_ofV rfl (by decide) (Nat.le_of_ble_eq_true rfl) rfl rfl (s_run_ind (V := fun x r => s_V G (d + 3) M_X3_leastOf [.ref v0, .ref v1] σ Y_X3_leastOf x (e_I r)) (fun x z r hs hk => v_X3_leastOf hs (by cases z <;> exact hk)) h)
/-! X3_leastWorld -/
noncomputable def T_X3_leastWorld_0 (v0 : Nat) (v1 : Int32) (σ : sS) : Option (sZ Int32) :=
  (s_fr σ v0 3 1).bind fun x1 =>
  (F_X3_gather v0 v1 x1 σ).bind fun q2 =>
  (s_fr q2.2 v0 3 1).bind fun x3 =>
  (F_X3_leastOf v0 x3 q2.2).bind fun q4 =>
  some (.inr (q4.1, q4.2))
noncomputable def U_X3_leastWorld_0 (vs : List Value) (σ : sS) : Option (sZ Int32) := (g_r vs).bind fun a0 => (g_i a0.2).bind fun a1 => (g_e a1.2).bind fun _ => T_X3_leastWorld_0 a0.1 a1.1 σ
noncomputable def S_X3_leastWorld (x : sL) : Option (sZ Int32) := if x.1 = 0 then U_X3_leastWorld_0 x.2.1 x.2.2 else none
def Y_X3_leastWorld (pc : Nat) : List Nat := if pc = 0 then [0, 1] else []
noncomputable def F_X3_leastWorld (v0 : Nat) (v1 : Int32) (σ : sS) : Option (Int32 × sS) := (s_is σ v0 3).bind fun _ => s_run S_X3_leastWorld (0, [.ref v0, .int v1], σ)
theorem l_X3_leastWorld_0 {v0 : Nat} {v1 : Int32} {σ : sS} {z : sZ Int32} (hf : T_X3_leastWorld_0 v0 v1 σ = some z) : s_lz σ z := by
  unfold T_X3_leastWorld_0 at hf
  obtain ⟨x1, -, hf⟩ := s_bind hf
  obtain ⟨q2, hh, hf⟩ := s_bind hf
  refine s_lz.tr (l_X3_gather hh) ?_
  obtain ⟨x3, -, hf⟩ := s_bind hf
  obtain ⟨q4, hh, hf⟩ := s_bind hf
  refine s_lz.tr (l_X3_leastOf hh) ?_
  cases hf
  exact s_le.rf
theorem l_X3_leastWorld_s {x : sL} {z : sZ Int32} (hs : S_X3_leastWorld x = some z) : s_lz x.2.2 z := by
  obtain ⟨pc, vs, σ⟩ := x
  unfold S_X3_leastWorld at hs
  dsimp only at hs ⊢
  rcases s_ite hs with ⟨c, hs⟩ | ⟨-, hs⟩
  · subst c
    unfold U_X3_leastWorld_0 at hs
    obtain ⟨a0, g0, hs⟩ := s_bind hs
    obtain ⟨a1, g1, hs⟩ := s_bind hs
    obtain ⟨u9, ge, hs⟩ := s_bind hs
    exact l_X3_leastWorld_0 hs
  cases hs
theorem l_X3_leastWorld {v0 : Nat} {v1 : Int32} {σ : sS} {q : Int32 × sS} (h : F_X3_leastWorld v0 v1 σ = some q) : s_le σ q.2 := by
  unfold F_X3_leastWorld at h
  obtain ⟨-, -, h⟩ := s_bind h
  exact s_run_ind (V := fun x r => s_le x.2.2 r.2) (fun x z r hs hk => by
    have h9 := l_X3_leastWorld_s hs
    cases z with
    | inl y => exact s_le.tr h9 hk
    | inr q => cases hk; exact h9) h
theorem b_X3_leastWorld {v0 : Nat} {v1 : Int32} {σ : sS} {q : Int32 × sS} (h : F_X3_leastWorld v0 v1 σ = some q) : ∃ fs, σ.1 v0 = some (.inr (3, fs)) := by
  unfold F_X3_leastWorld at h
  obtain ⟨u, hu, -⟩ := s_bind h
  exact s_is_to hu
set_option maxRecDepth 100000 in
set_option maxHeartbeats 4000000 in
theorem v_X3_leastWorld_0 {G : sG} {d : Nat} {vs0 : List Value} {σ0 : sS} {v0 : Nat} {v1 : Int32} {σ : sS} {z : sZ Int32} {r : Int32 × sS} (hf : T_X3_leastWorld_0 v0 v1 σ = some z) (k : s_K G (d + 5) M_X3_leastWorld vs0 σ0 Y_X3_leastWorld e_I z r) : s_V G (d + 5) M_X3_leastWorld vs0 σ0 Y_X3_leastWorld (0, [.ref v0, .int v1], σ) (e_I r) := by
  have le0 : s_le σ (e_I r).2 := s_lek hem_I (l_X3_leastWorld_0 hf) k
  refine ⟨le0, ?_⟩
  intro p e s m below meth c H locs cells slots ls X I hn1 hn2 hl
  have hn : cells + σ0.2.1 ≤ σ.2.1 ∧ slots + σ0.2.2.1 ≤ σ.2.2.1 := ⟨hn1, hn2⟩
  have hl : lv_has ls 2 [(0, .ref v0), (1, .int v1)] := hl
  have hx := X.1
  have hb : c.code = cX3_leastWorld := X.2.1
  have hown : s.vm.findClass RX3 = some m.cls := X.2.2.2.2.2.1
  have hts := X.2.2.2.2.2.2.1
  refine W.eq (g2 := F0 m 0 ls []) rfl ?_
  unfold T_X3_leastWorld_0 at hf
  obtain ⟨x1, h1, hf⟩ := s_bind hf
  obtain ⟨q2, h2, hf⟩ := s_bind hf
  obtain ⟨x3, h3, hf⟩ := s_bind hf
  obtain ⟨q4, h4, hf⟩ := s_bind hf
  cases hf
  have k : _ = r := k
  subst k
  have le5 : s_le q4.2 q4.2 := s_le.rf
  have le6 := s_le.tr (l_X3_leastOf h4) le5
  refine lv_aload_n hx hb dX3_leastWorld_0 rfl (lv_at hl 0 rfl) ?_
  refine lv_iload_n hx hb dX3_leastWorld_1 rfl (lv_at hl 1 rfl) ?_
  refine lv_aload_n hx hb dX3_leastWorld_2 rfl (lv_at hl 0 rfl) ?_
  refine r_gr X I fl_X3_11 h1 dX3_leastWorld_3 ?_
  refine r_callV (Y := M_X3_gather) (v := none) X I w_1242 my_X3_gather (by omega) (t_X3_gather (G := G) (d := d + 0) h2) (b_X3_gather h2) rfl rfl hl.1 rfl (Nat.le_of_ble_eq_true rfl) hn le6 dX3_leastWorld_6 (fun H locs cells slots I hn1 hn2 => ?_)
  have I : s_I G q2.2 s H locs := I
  have hn : cells + σ0.2.1 ≤ q2.2.2.1 ∧ slots + σ0.2.2.1 ≤ q2.2.2.2.1 := ⟨hn1, hn2⟩
  refine lv_aload_n hx hb dX3_leastWorld_9 rfl (lv_at hl 0 rfl) ?_
  refine lv_aload_n hx hb dX3_leastWorld_10 rfl (lv_at hl 0 rfl) ?_
  refine r_gr X I fl_X3_11 h3 dX3_leastWorld_11 ?_
  refine r_callV (Y := M_X3_leastOf) (v := some (.int q4.1)) X I w_1456 my_X3_leastOf (by omega) (t_X3_leastOf (G := G) (d := d + 1) h4) (b_X3_leastOf h4) rfl rfl hl.1 rfl (Nat.le_of_ble_eq_true rfl) hn le5 dX3_leastWorld_14 (fun H locs cells slots I hn1 hn2 => ?_)
  have I : s_I G q4.2 s H locs := I
  have hn : cells + σ0.2.1 ≤ q4.2.2.1 ∧ slots + σ0.2.2.1 ≤ q4.2.2.2.1 := ⟨hn1, hn2⟩
  exact r_iret X I rfl rfl rfl hn dX3_leastWorld_17
theorem v_X3_leastWorld {G : sG} {d : Nat} {vs0 : List Value} {σ0 : sS} {x : sL} {z : sZ Int32} {r : Int32 × sS} (hs : S_X3_leastWorld x = some z) (k : s_K G (d + 5) M_X3_leastWorld vs0 σ0 Y_X3_leastWorld e_I z r) : s_V G (d + 5) M_X3_leastWorld vs0 σ0 Y_X3_leastWorld x (e_I r) := by
  obtain ⟨pc, vs, σ⟩ := x
  unfold S_X3_leastWorld at hs
  dsimp only at hs
  rcases s_ite hs with ⟨c, hs⟩ | ⟨-, hs⟩
  · subst c
    unfold U_X3_leastWorld_0 at hs
    obtain ⟨a0, g0, hs⟩ := s_bind hs
    obtain ⟨a1, g1, hs⟩ := s_bind hs
    obtain ⟨u9, ge, hs⟩ := s_bind hs
    rw [g_r_to g0, g_i_to g1, g_e_to ge]
    exact v_X3_leastWorld_0 hs k
  cases hs
theorem t_X3_leastWorld {G : sG} {d : Nat} {v0 : Nat} {v1 : Int32} {σ : sS} {q : Int32 × sS} (h : F_X3_leastWorld v0 v1 σ = some q) : s_T G (d + 5) M_X3_leastWorld [.ref v0, .int v1] σ (e_I q) := by
  unfold F_X3_leastWorld at h
  obtain ⟨-, -, h⟩ := s_bind h
  exact s_ofV rfl (by decide) (Nat.le_of_ble_eq_true rfl) rfl rfl (s_run_ind (V := fun x r => s_V G (d + 5) M_X3_leastWorld [.ref v0, .int v1] σ Y_X3_leastWorld x (e_I r)) (fun x z r hs hk => v_X3_leastWorld hs (by cases z <;> exact hk)) h)
/-! X7_agree -/
noncomputable def T_X7_agree_0 (v0 : Nat) (v1 : Int32) (v2 : Int32) (σ : sS) : Option (sZ (Int32 ⊕ String)) :=
  (F_X7_needCustomer v0 v1 σ).bind fun q1 => s_sum q1.1 (fun x2 => (F_X7_needCustomer v0 v2 q1.2).bind fun q4 => s_sum q4.1 (fun x5 => (s_fr q4.2 v0 7 4).bind fun x7 =>
  (s_fr q4.2 v0 7 1).bind fun x8 =>
  (s_fr q4.2 x8 1 5).bind fun x9 =>
  (s_ai q4.2 x9 v1).bind fun x10 =>
  (s_fr q4.2 v0 7 1).bind fun x11 =>
  (s_fr q4.2 x11 1 5).bind fun x12 =>
  (s_ai q4.2 x12 v2).bind fun x13 =>
  (F_X3_leastWorld x7 (x10 ||| x13) q4.2).bind fun q14 =>
  some (.inr (.inl q14.1, q14.2))) (fun E6 => some (.inr (.inr E6, q4.2)))) (fun E3 => some (.inr (.inr E3, q1.2)))
noncomputable def U_X7_agree_0 (vs : List Value) (σ : sS) : Option (sZ (Int32 ⊕ String)) := (g_r vs).bind fun a0 => (g_i a0.2).bind fun a1 => (g_i a1.2).bind fun a2 => (g_e a2.2).bind fun _ => T_X7_agree_0 a0.1 a1.1 a2.1 σ
noncomputable def S_X7_agree (x : sL) : Option (sZ (Int32 ⊕ String)) := if x.1 = 0 then U_X7_agree_0 x.2.1 x.2.2 else none
def Y_X7_agree (pc : Nat) : List Nat := if pc = 0 then [0, 1, 2] else []
noncomputable def F_X7_agree (v0 : Nat) (v1 : Int32) (v2 : Int32) (σ : sS) : Option ((Int32 ⊕ String) × sS) := (s_is σ v0 7).bind fun _ => s_run S_X7_agree (0, [.ref v0, .int v1, .int v2], σ)
theorem l_X7_agree_0 {v0 : Nat} {v1 : Int32} {v2 : Int32} {σ : sS} {z : sZ (Int32 ⊕ String)} (hf : T_X7_agree_0 v0 v1 v2 σ = some z) : s_lz σ z := by
  unfold T_X7_agree_0 at hf
  obtain ⟨q1, hh, hf⟩ := s_bind hf
  refine s_lz.tr (l_X7_needCustomer hh) ?_
  rcases s_sum_some hf with ⟨x2, -, hf⟩ | ⟨E3, -, hf⟩
  · obtain ⟨q4, hh, hf⟩ := s_bind hf
    refine s_lz.tr (l_X7_needCustomer hh) ?_
    rcases s_sum_some hf with ⟨x5, -, hf⟩ | ⟨E6, -, hf⟩
    · obtain ⟨x7, -, hf⟩ := s_bind hf
      obtain ⟨x8, -, hf⟩ := s_bind hf
      obtain ⟨x9, -, hf⟩ := s_bind hf
      obtain ⟨x10, -, hf⟩ := s_bind hf
      obtain ⟨x11, -, hf⟩ := s_bind hf
      obtain ⟨x12, -, hf⟩ := s_bind hf
      obtain ⟨x13, -, hf⟩ := s_bind hf
      obtain ⟨q14, hh, hf⟩ := s_bind hf
      refine s_lz.tr (l_X3_leastWorld hh) ?_
      cases hf
      exact s_le.rf
    · cases hf
      exact s_le.rf
  · cases hf
    exact s_le.rf
theorem l_X7_agree_s {x : sL} {z : sZ (Int32 ⊕ String)} (hs : S_X7_agree x = some z) : s_lz x.2.2 z := by
  obtain ⟨pc, vs, σ⟩ := x
  unfold S_X7_agree at hs
  dsimp only at hs ⊢
  rcases s_ite hs with ⟨c, hs⟩ | ⟨-, hs⟩
  · subst c
    unfold U_X7_agree_0 at hs
    obtain ⟨a0, g0, hs⟩ := s_bind hs
    obtain ⟨a1, g1, hs⟩ := s_bind hs
    obtain ⟨a2, g2, hs⟩ := s_bind hs
    obtain ⟨u9, ge, hs⟩ := s_bind hs
    exact l_X7_agree_0 hs
  cases hs
theorem l_X7_agree {v0 : Nat} {v1 : Int32} {v2 : Int32} {σ : sS} {q : (Int32 ⊕ String) × sS} (h : F_X7_agree v0 v1 v2 σ = some q) : s_le σ q.2 := by
  unfold F_X7_agree at h
  obtain ⟨-, -, h⟩ := s_bind h
  exact s_run_ind (V := fun x r => s_le x.2.2 r.2) (fun x z r hs hk => by
    have h9 := l_X7_agree_s hs
    cases z with
    | inl y => exact s_le.tr h9 hk
    | inr q => cases hk; exact h9) h
theorem b_X7_agree {v0 : Nat} {v1 : Int32} {v2 : Int32} {σ : sS} {q : (Int32 ⊕ String) × sS} (h : F_X7_agree v0 v1 v2 σ = some q) : ∃ fs, σ.1 v0 = some (.inr (7, fs)) := by
  unfold F_X7_agree at h
  obtain ⟨u, hu, -⟩ := s_bind h
  exact s_is_to hu
set_option maxRecDepth 100000 in
set_option maxHeartbeats 4000000 in
theorem v_X7_agree_0 {G : sG} {d : Nat} {vs0 : List Value} {σ0 : sS} {v0 : Nat} {v1 : Int32} {v2 : Int32} {σ : sS} {z : sZ (Int32 ⊕ String)} {r : (Int32 ⊕ String) × sS} (hf : T_X7_agree_0 v0 v1 v2 σ = some z) (k : s_K G (d + 6) M_X7_agree vs0 σ0 Y_X7_agree e_IX z r) : s_V G (d + 6) M_X7_agree vs0 σ0 Y_X7_agree (0, [.ref v0, .int v1, .int v2], σ) (e_IX r) := by
  have le0 : s_le σ (e_IX r).2 := s_lek hem_IX (l_X7_agree_0 hf) k
  refine ⟨le0, ?_⟩
  intro p e s m below meth c H locs cells slots ls X I hn1 hn2 hl
  have hn : cells + σ0.2.1 ≤ σ.2.1 ∧ slots + σ0.2.2.1 ≤ σ.2.2.1 := ⟨hn1, hn2⟩
  have hl : lv_has ls 3 [(0, .ref v0), (1, .int v1), (2, .int v2)] := hl
  have hx := X.1
  have hb : c.code = cX7_agree := X.2.1
  have hown : s.vm.findClass RX7 = some m.cls := X.2.2.2.2.2.1
  have hts := X.2.2.2.2.2.2.1
  refine W.eq (g2 := F0 m 0 ls []) rfl ?_
  unfold T_X7_agree_0 at hf
  obtain ⟨q1, h1, hf⟩ := s_bind hf
  refine lv_aload_n hx hb dX7_agree_0 rfl (lv_at hl 0 rfl) ?_
  refine lv_iload_n hx hb dX7_agree_1 rfl (lv_at hl 1 rfl) ?_
  rcases s_sum_some hf with ⟨x2, hq2, hf⟩ | ⟨E3, hq2, hf⟩
  · have le3 : s_le q1.2 (e_IX r).2 := by
      refine s_lek hem_IX ?_ k
      obtain ⟨q4, hh, hf⟩ := s_bind hf
      refine s_lz.tr (l_X7_needCustomer hh) ?_
      rcases s_sum_some hf with ⟨x5, -, hf⟩ | ⟨E6, -, hf⟩
      · obtain ⟨x7, -, hf⟩ := s_bind hf
        obtain ⟨x8, -, hf⟩ := s_bind hf
        obtain ⟨x9, -, hf⟩ := s_bind hf
        obtain ⟨x10, -, hf⟩ := s_bind hf
        obtain ⟨x11, -, hf⟩ := s_bind hf
        obtain ⟨x12, -, hf⟩ := s_bind hf
        obtain ⟨x13, -, hf⟩ := s_bind hf
        obtain ⟨q14, hh, hf⟩ := s_bind hf
        refine s_lz.tr (l_X3_leastWorld hh) ?_
        cases hf
        exact s_le.rf
      · cases hf
        exact s_le.rf
    refine r_callV (Y := M_X7_needCustomer) (v := none) X I w_1115 my_X7_needCustomer (by omega) (t_X7_needCustomer (G := G) (d := d + 4) h1) (b_X7_needCustomer h1) (e_VX_l hq2) rfl hl.1 rfl (Nat.le_of_ble_eq_true rfl) hn le3 dX7_agree_2 (fun H locs cells slots I hn1 hn2 => ?_)
    have I : s_I G q1.2 s H locs := I
    have hn : cells + σ0.2.1 ≤ q1.2.2.1 ∧ slots + σ0.2.2.1 ≤ q1.2.2.2.1 := ⟨hn1, hn2⟩
    obtain ⟨q4, h4, hf⟩ := s_bind hf
    refine lv_aload_n hx hb dX7_agree_5 rfl (lv_at hl 0 rfl) ?_
    refine lv_iload_n hx hb dX7_agree_6 rfl (lv_at hl 2 rfl) ?_
    rcases s_sum_some hf with ⟨x5, hq5, hf⟩ | ⟨E6, hq5, hf⟩
    · have le6 : s_le q4.2 (e_IX r).2 := by
        refine s_lek hem_IX ?_ k
        obtain ⟨x7, -, hf⟩ := s_bind hf
        obtain ⟨x8, -, hf⟩ := s_bind hf
        obtain ⟨x9, -, hf⟩ := s_bind hf
        obtain ⟨x10, -, hf⟩ := s_bind hf
        obtain ⟨x11, -, hf⟩ := s_bind hf
        obtain ⟨x12, -, hf⟩ := s_bind hf
        obtain ⟨x13, -, hf⟩ := s_bind hf
        obtain ⟨q14, hh, hf⟩ := s_bind hf
        refine s_lz.tr (l_X3_leastWorld hh) ?_
        cases hf
        exact s_le.rf
      refine r_callV (Y := M_X7_needCustomer) (v := none) X I w_1115 my_X7_needCustomer (by omega) (t_X7_needCustomer (G := G) (d := d + 4) h4) (b_X7_needCustomer h4) (e_VX_l hq5) rfl hl.1 rfl (Nat.le_of_ble_eq_true rfl) hn le6 dX7_agree_7 (fun H locs cells slots I hn1 hn2 => ?_)
      have I : s_I G q4.2 s H locs := I
      have hn : cells + σ0.2.1 ≤ q4.2.2.1 ∧ slots + σ0.2.2.1 ≤ q4.2.2.2.1 := ⟨hn1, hn2⟩
      obtain ⟨x7, h7, hf⟩ := s_bind hf
      obtain ⟨x8, h8, hf⟩ := s_bind hf
      obtain ⟨x9, h9, hf⟩ := s_bind hf
      obtain ⟨x10, h10, hf⟩ := s_bind hf
      obtain ⟨x11, h11, hf⟩ := s_bind hf
      obtain ⟨x12, h12, hf⟩ := s_bind hf
      obtain ⟨x13, h13, hf⟩ := s_bind hf
      obtain ⟨q14, h14, hf⟩ := s_bind hf
      cases hf
      have k : _ = r := k
      subst k
      have le15 : s_le q14.2 q14.2 := s_le.rf
      refine lv_aload_n hx hb dX7_agree_10 rfl (lv_at hl 0 rfl) ?_
      refine r_gr X I fl_X7_40 h7 dX7_agree_11 ?_
      refine lv_aload_n hx hb dX7_agree_14 rfl (lv_at hl 0 rfl) ?_
      refine r_gr X I fl_X7_19 h8 dX7_agree_15 ?_
      refine r_gr X I fl_X7_174 h9 dX7_agree_18 ?_
      refine lv_iload_n hx hb dX7_agree_21 rfl (lv_at hl 1 rfl) ?_
      refine r_iald X I h10 dX7_agree_22 ?_
      refine lv_aload_n hx hb dX7_agree_23 rfl (lv_at hl 0 rfl) ?_
      refine r_gr X I fl_X7_19 h11 dX7_agree_24 ?_
      refine r_gr X I fl_X7_174 h12 dX7_agree_27 ?_
      refine lv_iload_n hx hb dX7_agree_30 rfl (lv_at hl 2 rfl) ?_
      refine r_iald X I h13 dX7_agree_31 ?_
      refine lv_ior hx hb dX7_agree_32 ?_
      refine r_callV (Y := M_X3_leastWorld) (v := some (.int q14.1)) X I w_1452 my_X3_leastWorld (by omega) (t_X3_leastWorld (G := G) (d := d + 0) h14) (b_X3_leastWorld h14) rfl rfl hl.1 rfl (Nat.le_of_ble_eq_true rfl) hn le15 dX7_agree_33 (fun H locs cells slots I hn1 hn2 => ?_)
      have I : s_I G q14.2 s H locs := I
      have hn : cells + σ0.2.1 ≤ q14.2.2.1 ∧ slots + σ0.2.2.1 ≤ q14.2.2.2.1 := ⟨hn1, hn2⟩
      exact r_iret X I rfl rfl rfl hn dX7_agree_36
    · cases hf
      have k : _ = r := k
      subst k
      exact r_callVx (Y := M_X7_needCustomer) X I rfl w_1115 my_X7_needCustomer (by omega) (t_X7_needCustomer (G := G) (d := d + 4) h4) (b_X7_needCustomer h4) (e_VX_r hq5) rfl hl.1 rfl (Nat.le_of_ble_eq_true rfl) hn rfl dX7_agree_7
  · cases hf
    have k : _ = r := k
    subst k
    exact r_callVx (Y := M_X7_needCustomer) X I rfl w_1115 my_X7_needCustomer (by omega) (t_X7_needCustomer (G := G) (d := d + 4) h1) (b_X7_needCustomer h1) (e_VX_r hq2) rfl hl.1 rfl (Nat.le_of_ble_eq_true rfl) hn rfl dX7_agree_2
theorem v_X7_agree {G : sG} {d : Nat} {vs0 : List Value} {σ0 : sS} {x : sL} {z : sZ (Int32 ⊕ String)} {r : (Int32 ⊕ String) × sS} (hs : S_X7_agree x = some z) (k : s_K G (d + 6) M_X7_agree vs0 σ0 Y_X7_agree e_IX z r) : s_V G (d + 6) M_X7_agree vs0 σ0 Y_X7_agree x (e_IX r) := by
  obtain ⟨pc, vs, σ⟩ := x
  unfold S_X7_agree at hs
  dsimp only at hs
  rcases s_ite hs with ⟨c, hs⟩ | ⟨-, hs⟩
  · subst c
    unfold U_X7_agree_0 at hs
    obtain ⟨a0, g0, hs⟩ := s_bind hs
    obtain ⟨a1, g1, hs⟩ := s_bind hs
    obtain ⟨a2, g2, hs⟩ := s_bind hs
    obtain ⟨u9, ge, hs⟩ := s_bind hs
    rw [g_r_to g0, g_i_to g1, g_i_to g2, g_e_to ge]
    exact v_X7_agree_0 hs k
  cases hs
theorem t_X7_agree {G : sG} {d : Nat} {v0 : Nat} {v1 : Int32} {v2 : Int32} {σ : sS} {q : (Int32 ⊕ String) × sS} (h : F_X7_agree v0 v1 v2 σ = some q) : s_T G (d + 6) M_X7_agree [.ref v0, .int v1, .int v2] σ (e_IX q) := by
  unfold F_X7_agree at h
  obtain ⟨-, -, h⟩ := s_bind h
  exact s_ofV rfl (by decide) (Nat.le_of_ble_eq_true rfl) rfl rfl (s_run_ind (V := fun x r => s_V G (d + 6) M_X7_agree [.ref v0, .int v1, .int v2] σ Y_X7_agree x (e_IX r)) (fun x z r hs hk => v_X7_agree hs (by cases z <;> exact hk)) h)
/-! L_agree -/
noncomputable def T_L_agree_0 (v0 : Nat) (v1 : Int32) (v2 : Int32) (v3 : Nat) (σ : sS) : Option (sZ Int32) :=
  (F_X7_agree v0 v1 v2 σ).bind fun q1 => s_sum q1.1 (fun x2 => (s_sl q1.2 v3 0 ((x2 : Int32).toInt64)).bind fun σ4 =>
  some (.inr (0, σ4))) (fun E3 => if E3 = "java/lang/IndexOutOfBoundsException" then (some (.inr (1, q1.2))) else none)
noncomputable def U_L_agree_0 (vs : List Value) (σ : sS) : Option (sZ Int32) := (g_r vs).bind fun a0 => (g_i a0.2).bind fun a1 => (g_i a1.2).bind fun a2 => (g_r a2.2).bind fun a3 => (g_e a3.2).bind fun _ => T_L_agree_0 a0.1 a1.1 a2.1 a3.1 σ
noncomputable def S_L_agree (x : sL) : Option (sZ Int32) := if x.1 = 0 then U_L_agree_0 x.2.1 x.2.2 else none
def Y_L_agree (pc : Nat) : List Nat := if pc = 0 then [0, 1, 2, 3] else []
noncomputable def F_L_agree (v0 : Nat) (v1 : Int32) (v2 : Int32) (v3 : Nat) (σ : sS) : Option (Int32 × sS) := s_run S_L_agree (0, [.ref v0, .int v1, .int v2, .ref v3], σ)
theorem l_L_agree_0 {v0 : Nat} {v1 : Int32} {v2 : Int32} {v3 : Nat} {σ : sS} {z : sZ Int32} (hf : T_L_agree_0 v0 v1 v2 v3 σ = some z) : s_lz σ z := by
  unfold T_L_agree_0 at hf
  obtain ⟨q1, hh, hf⟩ := s_bind hf
  refine s_lz.tr (l_X7_agree hh) ?_
  rcases s_sum_some hf with ⟨x2, -, hf⟩ | ⟨E3, -, hf⟩
  · obtain ⟨σ4, hh, hf⟩ := s_bind hf
    refine s_lz.tr (s_le2 (s_sl_2 hh)) ?_
    cases hf
    exact s_le.rf
  · rcases s_ite hf with ⟨-, hf⟩ | ⟨-, hf⟩
    · cases hf
      exact s_le.rf
    cases hf
theorem l_L_agree_s {x : sL} {z : sZ Int32} (hs : S_L_agree x = some z) : s_lz x.2.2 z := by
  obtain ⟨pc, vs, σ⟩ := x
  unfold S_L_agree at hs
  dsimp only at hs ⊢
  rcases s_ite hs with ⟨c, hs⟩ | ⟨-, hs⟩
  · subst c
    unfold U_L_agree_0 at hs
    obtain ⟨a0, g0, hs⟩ := s_bind hs
    obtain ⟨a1, g1, hs⟩ := s_bind hs
    obtain ⟨a2, g2, hs⟩ := s_bind hs
    obtain ⟨a3, g3, hs⟩ := s_bind hs
    obtain ⟨u9, ge, hs⟩ := s_bind hs
    exact l_L_agree_0 hs
  cases hs
theorem l_L_agree {v0 : Nat} {v1 : Int32} {v2 : Int32} {v3 : Nat} {σ : sS} {q : Int32 × sS} (h : F_L_agree v0 v1 v2 v3 σ = some q) : s_le σ q.2 := by
  unfold F_L_agree at h
  exact s_run_ind (V := fun x r => s_le x.2.2 r.2) (fun x z r hs hk => by
    have h9 := l_L_agree_s hs
    cases z with
    | inl y => exact s_le.tr h9 hk
    | inr q => cases hk; exact h9) h
set_option maxRecDepth 100000 in
set_option maxHeartbeats 4000000 in
theorem v_L_agree_0 {G : sG} {d : Nat} {vs0 : List Value} {σ0 : sS} {v0 : Nat} {v1 : Int32} {v2 : Int32} {v3 : Nat} {σ : sS} {z : sZ Int32} {r : Int32 × sS} (hf : T_L_agree_0 v0 v1 v2 v3 σ = some z) (k : s_K G (d + 7) M_L_agree vs0 σ0 Y_L_agree e_I z r) : s_V G (d + 7) M_L_agree vs0 σ0 Y_L_agree (0, [.ref v0, .int v1, .int v2, .ref v3], σ) (e_I r) := by
  have le0 : s_le σ (e_I r).2 := s_lek hem_I (l_L_agree_0 hf) k
  refine ⟨le0, ?_⟩
  intro p e s m below meth c H locs cells slots ls X I hn1 hn2 hl
  have hn : cells + σ0.2.1 ≤ σ.2.1 ∧ slots + σ0.2.2.1 ≤ σ.2.2.1 := ⟨hn1, hn2⟩
  have hl : lv_has ls 5 [(0, .ref v0), (1, .int v1), (2, .int v2), (3, .ref v3)] := hl
  have hx := X.1
  have hb : c.code = cL_agree := X.2.1
  have hown : s.vm.findClass RL = some m.cls := X.2.2.2.2.2.1
  have hts := X.2.2.2.2.2.2.1
  refine W.eq (g2 := F0 m 0 ls []) rfl ?_
  unfold T_L_agree_0 at hf
  obtain ⟨q1, h1, hf⟩ := s_bind hf
  refine lv_aload_n hx hb dL_agree_0 rfl (lv_at hl 3 rfl) ?_
  refine lv_iconst (v := 0) hx hb dL_agree_1 (by decide) ?_
  refine lv_aload_n hx hb dL_agree_2 rfl (lv_at hl 0 rfl) ?_
  refine lv_iload_n hx hb dL_agree_3 rfl (lv_at hl 1 rfl) ?_
  refine lv_iload_n hx hb dL_agree_4 rfl (lv_at hl 2 rfl) ?_
  rcases s_sum_some hf with ⟨x2, hq2, hf⟩ | ⟨E3, hq2, hf⟩
  · have le3 : s_le q1.2 (e_I r).2 := by
      refine s_lek hem_I ?_ k
      obtain ⟨σ4, hh, hf⟩ := s_bind hf
      refine s_lz.tr (s_le2 (s_sl_2 hh)) ?_
      cases hf
      exact s_le.rf
    refine r_callV (Y := M_X7_agree) (v := some (.int x2)) X I w_1448 my_X7_agree (by omega) (t_X7_agree (G := G) (d := d + 0) h1) (b_X7_agree h1) (e_IX_l hq2) rfl hl.1 rfl (Nat.le_of_ble_eq_true rfl) hn le3 dL_agree_5 (fun H locs cells slots I hn1 hn2 => ?_)
    have I : s_I G q1.2 s H locs := I
    have hn : cells + σ0.2.1 ≤ q1.2.2.1 ∧ slots + σ0.2.2.1 ≤ q1.2.2.2.1 := ⟨hn1, hn2⟩
    obtain ⟨σ4, h4, hf⟩ := s_bind hf
    cases hf
    have k : _ = r := k
    subst k
    have le5 : s_le σ4 σ4 := s_le.rf
    refine lv_i2l hx hb dL_agree_8 rfl ?_
    refine r_last X I h4 dL_agree_9 (fun H locs I => ?_)
    have hn := s_k2 (s_sl_2 h4) hn
    refine lv_goto (tgt := 17) hx hb dL_agree_10 (by decide) ?_
    refine lv_iconst (v := 0) hx hb dL_agree_17 (by decide) ?_
    exact r_iret X I rfl rfl rfl hn dL_agree_18
  · rcases s_ite hf with ⟨c6, hf⟩ | ⟨c6, hf⟩
    · subst c6
      have le7 : s_le q1.2 (e_I r).2 := by
        refine s_lek hem_I ?_ k
        cases hf
        exact s_le.rf
      refine r_callVh (x := (0, 10, 13, 27)) (Y := M_X7_agree) (E := "java/lang/IndexOutOfBoundsException") (name := "java/lang/IndexOutOfBoundsException") X I [] [] rfl (fun z hz => by cases hz) rfl (by decide) w_1011 (by decide +kernel) w_1448 my_X7_agree (by omega) (t_X7_agree (G := G) (d := d + 0) h1) (b_X7_agree h1) (e_IX_r hq2) rfl hl.1 rfl (Nat.le_of_ble_eq_true rfl) hn le7 dL_agree_5 (fun a5 H locs cells slots I hn1 hn2 => ?_)
      have I : s_I G q1.2 s H locs := I
      have hn : cells + σ0.2.1 ≤ q1.2.2.1 ∧ slots + σ0.2.2.1 ≤ q1.2.2.2.1 := ⟨hn1, hn2⟩
      cases hf
      have k : _ = r := k
      subst k
      refine lv_astore (lv' := [(4, .ref a5), (0, .ref v0), (1, .int v1), (2, .int v2), (3, .ref v3)]) hx hb dL_agree_13 hl (by decide) rfl (fun ls hl => ?_)
      refine lv_iconst (v := 1) hx hb dL_agree_15 (by decide) ?_
      exact r_iret X I rfl rfl rfl hn dL_agree_16
    cases hf
theorem v_L_agree {G : sG} {d : Nat} {vs0 : List Value} {σ0 : sS} {x : sL} {z : sZ Int32} {r : Int32 × sS} (hs : S_L_agree x = some z) (k : s_K G (d + 7) M_L_agree vs0 σ0 Y_L_agree e_I z r) : s_V G (d + 7) M_L_agree vs0 σ0 Y_L_agree x (e_I r) := by
  obtain ⟨pc, vs, σ⟩ := x
  unfold S_L_agree at hs
  dsimp only at hs
  rcases s_ite hs with ⟨c, hs⟩ | ⟨-, hs⟩
  · subst c
    unfold U_L_agree_0 at hs
    obtain ⟨a0, g0, hs⟩ := s_bind hs
    obtain ⟨a1, g1, hs⟩ := s_bind hs
    obtain ⟨a2, g2, hs⟩ := s_bind hs
    obtain ⟨a3, g3, hs⟩ := s_bind hs
    obtain ⟨u9, ge, hs⟩ := s_bind hs
    rw [g_r_to g0, g_i_to g1, g_i_to g2, g_r_to g3, g_e_to ge]
    exact v_L_agree_0 hs k
  cases hs
theorem t_L_agree {G : sG} {d : Nat} {v0 : Nat} {v1 : Int32} {v2 : Int32} {v3 : Nat} {σ : sS} {q : Int32 × sS} (h : F_L_agree v0 v1 v2 v3 σ = some q) : s_T G (d + 7) M_L_agree [.ref v0, .int v1, .int v2, .ref v3] σ (e_I q) := by
  unfold F_L_agree at h
  exact s_ofVH rfl (by decide) (Nat.le_of_ble_eq_true rfl) rfl rfl (s_run_ind (V := fun x r => s_V G (d + 7) M_L_agree [.ref v0, .int v1, .int v2, .ref v3] σ Y_L_agree x (e_I r)) (fun x z r hs hk => v_L_agree hs (by cases z <;> exact hk)) h)
/-! X7_needFormula -/
noncomputable def T_X7_needFormula_0 (v0 : Nat) (v1 : Int32) (σ : sS) : Option (sZ (Unit ⊕ String)) :=
  if v1 < 0 then (some (.inr (.inr "java/lang/IndexOutOfBoundsException", s_ex σ)))
  else ((s_fr σ v0 7 1).bind fun x1 =>
  (s_fi σ x1 1 2).bind fun x2 =>
  if v1 < x2 then (some (.inr (.inl (), σ)))
  else (some (.inr (.inr "java/lang/IndexOutOfBoundsException", s_ex σ))))
noncomputable def U_X7_needFormula_0 (vs : List Value) (σ : sS) : Option (sZ (Unit ⊕ String)) := (g_r vs).bind fun a0 => (g_i a0.2).bind fun a1 => (g_e a1.2).bind fun _ => T_X7_needFormula_0 a0.1 a1.1 σ
noncomputable def S_X7_needFormula (x : sL) : Option (sZ (Unit ⊕ String)) := if x.1 = 0 then U_X7_needFormula_0 x.2.1 x.2.2 else none
def Y_X7_needFormula (pc : Nat) : List Nat := if pc = 0 then [0, 1] else []
noncomputable def F_X7_needFormula (v0 : Nat) (v1 : Int32) (σ : sS) : Option ((Unit ⊕ String) × sS) := (s_is σ v0 7).bind fun _ => s_run S_X7_needFormula (0, [.ref v0, .int v1], σ)
theorem l_X7_needFormula_0 {v0 : Nat} {v1 : Int32} {σ : sS} {z : sZ (Unit ⊕ String)} (hf : T_X7_needFormula_0 v0 v1 σ = some z) : s_lz σ z := by
  unfold T_X7_needFormula_0 at hf
  rcases s_ite hf with ⟨-, hf⟩ | ⟨-, hf⟩
  · cases hf
    exact s_ex_le
  · obtain ⟨x1, -, hf⟩ := s_bind hf
    obtain ⟨x2, -, hf⟩ := s_bind hf
    rcases s_ite hf with ⟨-, hf⟩ | ⟨-, hf⟩
    · cases hf
      exact s_le.rf
    · cases hf
      exact s_ex_le
theorem l_X7_needFormula_s {x : sL} {z : sZ (Unit ⊕ String)} (hs : S_X7_needFormula x = some z) : s_lz x.2.2 z := by
  obtain ⟨pc, vs, σ⟩ := x
  unfold S_X7_needFormula at hs
  dsimp only at hs ⊢
  rcases s_ite hs with ⟨c, hs⟩ | ⟨-, hs⟩
  · subst c
    unfold U_X7_needFormula_0 at hs
    obtain ⟨a0, g0, hs⟩ := s_bind hs
    obtain ⟨a1, g1, hs⟩ := s_bind hs
    obtain ⟨u9, ge, hs⟩ := s_bind hs
    exact l_X7_needFormula_0 hs
  cases hs
theorem l_X7_needFormula {v0 : Nat} {v1 : Int32} {σ : sS} {q : (Unit ⊕ String) × sS} (h : F_X7_needFormula v0 v1 σ = some q) : s_le σ q.2 := by
  unfold F_X7_needFormula at h
  obtain ⟨-, -, h⟩ := s_bind h
  exact s_run_ind (V := fun x r => s_le x.2.2 r.2) (fun x z r hs hk => by
    have h9 := l_X7_needFormula_s hs
    cases z with
    | inl y => exact s_le.tr h9 hk
    | inr q => cases hk; exact h9) h
theorem b_X7_needFormula {v0 : Nat} {v1 : Int32} {σ : sS} {q : (Unit ⊕ String) × sS} (h : F_X7_needFormula v0 v1 σ = some q) : ∃ fs, σ.1 v0 = some (.inr (7, fs)) := by
  unfold F_X7_needFormula at h
  obtain ⟨u, hu, -⟩ := s_bind h
  exact s_is_to hu
set_option maxRecDepth 100000 in
set_option maxHeartbeats 4000000 in
theorem v_X7_needFormula_0 {G : sG} {d : Nat} {vs0 : List Value} {σ0 : sS} {v0 : Nat} {v1 : Int32} {σ : sS} {z : sZ (Unit ⊕ String)} {r : (Unit ⊕ String) × sS} (hf : T_X7_needFormula_0 v0 v1 σ = some z) (k : s_K G (d + 1) M_X7_needFormula vs0 σ0 Y_X7_needFormula e_VX z r) : s_V G (d + 1) M_X7_needFormula vs0 σ0 Y_X7_needFormula (0, [.ref v0, .int v1], σ) (e_VX r) := by
  have le0 : s_le σ (e_VX r).2 := s_lek hem_VX (l_X7_needFormula_0 hf) k
  refine ⟨le0, ?_⟩
  intro p e s m below meth c H locs cells slots ls X I hn1 hn2 hl
  have hn : cells + σ0.2.1 ≤ σ.2.1 ∧ slots + σ0.2.2.1 ≤ σ.2.2.1 := ⟨hn1, hn2⟩
  have hl : lv_has ls 2 [(0, .ref v0), (1, .int v1)] := hl
  have hx := X.1
  have hb : c.code = cX7_needFormula := X.2.1
  have hown : s.vm.findClass RX7 = some m.cls := X.2.2.2.2.2.1
  have hts := X.2.2.2.2.2.2.1
  refine W.eq (g2 := F0 m 0 ls []) rfl ?_
  unfold T_X7_needFormula_0 at hf
  refine lv_iload_n hx hb dX7_needFormula_0 rfl (lv_at hl 1 rfl) ?_
  rcases s_ite hf with ⟨c1, hf⟩ | ⟨c1, hf⟩
  · refine lv_if_lt (tgt := 15) hx hb dX7_needFormula_1 (by decide) (fun _ => ?_) (fun n => absurd c1 n)
    cases hf
    have k : _ = r := k
    subst k
    exact r_throwW X I rfl th_X7_156_346 hl.1 (Nat.le_of_ble_eq_true rfl) hn rfl dX7_needFormula_15 dX7_needFormula_18 dX7_needFormula_19 dX7_needFormula_22 dX7_needFormula_25
  · refine lv_if_lt (tgt := 15) hx hb dX7_needFormula_1 (by decide) (fun n => absurd n c1) (fun _ => ?_)
    obtain ⟨x1, h2, hf⟩ := s_bind hf
    obtain ⟨x2, h3, hf⟩ := s_bind hf
    refine lv_iload_n hx hb dX7_needFormula_4 rfl (lv_at hl 1 rfl) ?_
    refine lv_aload_n hx hb dX7_needFormula_5 rfl (lv_at hl 0 rfl) ?_
    refine r_gr X I fl_X7_19 h2 dX7_needFormula_6 ?_
    refine r_gi X I fl_X7_103 h3 dX7_needFormula_9 ?_
    rcases s_ite hf with ⟨c4, hf⟩ | ⟨c4, hf⟩
    · refine lv_icmp_lt (tgt := 26) hx hb dX7_needFormula_12 (by decide) (fun _ => ?_) (fun n => absurd c4 n)
      cases hf
      have k : _ = r := k
      subst k
      exact r_vret X I rfl rfl hn dX7_needFormula_26
    · refine lv_icmp_lt (tgt := 26) hx hb dX7_needFormula_12 (by decide) (fun n => absurd n c4) (fun _ => ?_)
      cases hf
      have k : _ = r := k
      subst k
      exact r_throwW X I rfl th_X7_156_346 hl.1 (Nat.le_of_ble_eq_true rfl) hn rfl dX7_needFormula_15 dX7_needFormula_18 dX7_needFormula_19 dX7_needFormula_22 dX7_needFormula_25
theorem v_X7_needFormula {G : sG} {d : Nat} {vs0 : List Value} {σ0 : sS} {x : sL} {z : sZ (Unit ⊕ String)} {r : (Unit ⊕ String) × sS} (hs : S_X7_needFormula x = some z) (k : s_K G (d + 1) M_X7_needFormula vs0 σ0 Y_X7_needFormula e_VX z r) : s_V G (d + 1) M_X7_needFormula vs0 σ0 Y_X7_needFormula x (e_VX r) := by
  obtain ⟨pc, vs, σ⟩ := x
  unfold S_X7_needFormula at hs
  dsimp only at hs
  rcases s_ite hs with ⟨c, hs⟩ | ⟨-, hs⟩
  · subst c
    unfold U_X7_needFormula_0 at hs
    obtain ⟨a0, g0, hs⟩ := s_bind hs
    obtain ⟨a1, g1, hs⟩ := s_bind hs
    obtain ⟨u9, ge, hs⟩ := s_bind hs
    rw [g_r_to g0, g_i_to g1, g_e_to ge]
    exact v_X7_needFormula_0 hs k
  cases hs
theorem t_X7_needFormula {G : sG} {d : Nat} {v0 : Nat} {v1 : Int32} {σ : sS} {q : (Unit ⊕ String) × sS} (h : F_X7_needFormula v0 v1 σ = some q) : s_T G (d + 1) M_X7_needFormula [.ref v0, .int v1] σ (e_VX q) := by
  unfold F_X7_needFormula at h
  obtain ⟨-, -, h⟩ := s_bind h
  exact s_ofV rfl (by decide) (Nat.le_of_ble_eq_true rfl) rfl rfl (s_run_ind (V := fun x r => s_V G (d + 1) M_X7_needFormula [.ref v0, .int v1] σ Y_X7_needFormula x (e_VX r)) (fun x z r hs hk => v_X7_needFormula hs (by cases z <;> exact hk)) h)
/-! X3_holdAlike -/
noncomputable def T_X3_holdAlike_0 (v0 : Nat) (v1 : Int32) (v2 : Int32) (σ : sS) : Option (sZ Int32) :=
  some (.inl (2, [.ref v0, .int v1, .int v2, .int 0], σ))
noncomputable def U_X3_holdAlike_0 (vs : List Value) (σ : sS) : Option (sZ Int32) := (g_r vs).bind fun a0 => (g_i a0.2).bind fun a1 => (g_i a1.2).bind fun a2 => (g_e a2.2).bind fun _ => T_X3_holdAlike_0 a0.1 a1.1 a2.1 σ
noncomputable def T_X3_holdAlike_2 (v0 : Nat) (v1 : Int32) (v2 : Int32) (v3 : Int32) (σ : sS) : Option (sZ Int32) :=
  (s_fr σ v0 3 0).bind fun x1 =>
  (F_X1_words x1 σ).bind fun q2 =>
  if q2.1 ≤ v3 then (some (.inr (1, q2.2)))
  else ((s_fr q2.2 v0 3 0).bind fun x3 =>
  (F_X1_truthOf x3 v1 v3 q2.2).bind fun q4 =>
  (s_fr q4.2 v0 3 0).bind fun x5 =>
  (F_X1_truthOf x5 v2 v3 q4.2).bind fun q6 =>
  if (lg_cmp q4.1 q6.1) = 0 then (some (.inl (2, [.ref v0, .int v1, .int v2, .int (v3 + 1)], q6.2)))
  else (some (.inr (0, q6.2))))
noncomputable def U_X3_holdAlike_2 (vs : List Value) (σ : sS) : Option (sZ Int32) := (g_r vs).bind fun a0 => (g_i a0.2).bind fun a1 => (g_i a1.2).bind fun a2 => (g_i a2.2).bind fun a3 => (g_e a3.2).bind fun _ => T_X3_holdAlike_2 a0.1 a1.1 a2.1 a3.1 σ
noncomputable def S_X3_holdAlike (x : sL) : Option (sZ Int32) := if x.1 = 0 then U_X3_holdAlike_0 x.2.1 x.2.2 else if x.1 = 2 then U_X3_holdAlike_2 x.2.1 x.2.2 else none
def Y_X3_holdAlike (pc : Nat) : List Nat := if pc = 0 then [0, 1, 2] else if pc = 2 then [0, 1, 2, 3] else []
noncomputable def F_X3_holdAlike (v0 : Nat) (v1 : Int32) (v2 : Int32) (σ : sS) : Option (Int32 × sS) := (s_is σ v0 3).bind fun _ => s_run S_X3_holdAlike (0, [.ref v0, .int v1, .int v2], σ)
theorem l_X3_holdAlike_0 {v0 : Nat} {v1 : Int32} {v2 : Int32} {σ : sS} {z : sZ Int32} (hf : T_X3_holdAlike_0 v0 v1 v2 σ = some z) : s_lz σ z := by
  unfold T_X3_holdAlike_0 at hf
  cases hf
  exact s_le.rf
theorem l_X3_holdAlike_2 {v0 : Nat} {v1 : Int32} {v2 : Int32} {v3 : Int32} {σ : sS} {z : sZ Int32} (hf : T_X3_holdAlike_2 v0 v1 v2 v3 σ = some z) : s_lz σ z := by
  unfold T_X3_holdAlike_2 at hf
  obtain ⟨x1, -, hf⟩ := s_bind hf
  obtain ⟨q2, hh, hf⟩ := s_bind hf
  refine s_lz.tr (l_X1_words hh) ?_
  rcases s_ite hf with ⟨-, hf⟩ | ⟨-, hf⟩
  · cases hf
    exact s_le.rf
  · obtain ⟨x3, -, hf⟩ := s_bind hf
    obtain ⟨q4, hh, hf⟩ := s_bind hf
    refine s_lz.tr (l_X1_truthOf hh) ?_
    obtain ⟨x5, -, hf⟩ := s_bind hf
    obtain ⟨q6, hh, hf⟩ := s_bind hf
    refine s_lz.tr (l_X1_truthOf hh) ?_
    rcases s_ite hf with ⟨-, hf⟩ | ⟨-, hf⟩
    · cases hf
      exact s_le.rf
    · cases hf
      exact s_le.rf
theorem l_X3_holdAlike_s {x : sL} {z : sZ Int32} (hs : S_X3_holdAlike x = some z) : s_lz x.2.2 z := by
  obtain ⟨pc, vs, σ⟩ := x
  unfold S_X3_holdAlike at hs
  dsimp only at hs ⊢
  rcases s_ite hs with ⟨c, hs⟩ | ⟨-, hs⟩
  · subst c
    unfold U_X3_holdAlike_0 at hs
    obtain ⟨a0, g0, hs⟩ := s_bind hs
    obtain ⟨a1, g1, hs⟩ := s_bind hs
    obtain ⟨a2, g2, hs⟩ := s_bind hs
    obtain ⟨u9, ge, hs⟩ := s_bind hs
    exact l_X3_holdAlike_0 hs
  rcases s_ite hs with ⟨c, hs⟩ | ⟨-, hs⟩
  · subst c
    unfold U_X3_holdAlike_2 at hs
    obtain ⟨a0, g0, hs⟩ := s_bind hs
    obtain ⟨a1, g1, hs⟩ := s_bind hs
    obtain ⟨a2, g2, hs⟩ := s_bind hs
    obtain ⟨a3, g3, hs⟩ := s_bind hs
    obtain ⟨u9, ge, hs⟩ := s_bind hs
    exact l_X3_holdAlike_2 hs
  cases hs
theorem l_X3_holdAlike {v0 : Nat} {v1 : Int32} {v2 : Int32} {σ : sS} {q : Int32 × sS} (h : F_X3_holdAlike v0 v1 v2 σ = some q) : s_le σ q.2 := by
  unfold F_X3_holdAlike at h
  obtain ⟨-, -, h⟩ := s_bind h
  exact s_run_ind (V := fun x r => s_le x.2.2 r.2) (fun x z r hs hk => by
    have h9 := l_X3_holdAlike_s hs
    cases z with
    | inl y => exact s_le.tr h9 hk
    | inr q => cases hk; exact h9) h
theorem b_X3_holdAlike {v0 : Nat} {v1 : Int32} {v2 : Int32} {σ : sS} {q : Int32 × sS} (h : F_X3_holdAlike v0 v1 v2 σ = some q) : ∃ fs, σ.1 v0 = some (.inr (3, fs)) := by
  unfold F_X3_holdAlike at h
  obtain ⟨u, hu, -⟩ := s_bind h
  exact s_is_to hu
set_option maxRecDepth 100000 in
set_option maxHeartbeats 4000000 in
theorem v_X3_holdAlike_0 {G : sG} {d : Nat} {vs0 : List Value} {σ0 : sS} {v0 : Nat} {v1 : Int32} {v2 : Int32} {σ : sS} {z : sZ Int32} {r : Int32 × sS} (hf : T_X3_holdAlike_0 v0 v1 v2 σ = some z) (k : s_K G (d + 3) M_X3_holdAlike vs0 σ0 Y_X3_holdAlike e_I z r) : s_V G (d + 3) M_X3_holdAlike vs0 σ0 Y_X3_holdAlike (0, [.ref v0, .int v1, .int v2], σ) (e_I r) := by
  have le0 : s_le σ (e_I r).2 := s_lek hem_I (l_X3_holdAlike_0 hf) k
  refine ⟨le0, ?_⟩
  intro p e s m below meth c H locs cells slots ls X I hn1 hn2 hl
  have hn : cells + σ0.2.1 ≤ σ.2.1 ∧ slots + σ0.2.2.1 ≤ σ.2.2.1 := ⟨hn1, hn2⟩
  have hl : lv_has ls 4 [(0, .ref v0), (1, .int v1), (2, .int v2)] := hl
  have hx := X.1
  have hb : c.code = cX3_holdAlike := X.2.1
  have hown : s.vm.findClass RX3 = some m.cls := X.2.2.2.2.2.1
  have hts := X.2.2.2.2.2.2.1
  refine W.eq (g2 := F0 m 0 ls []) rfl ?_
  unfold T_X3_holdAlike_0 at hf
  cases hf
  have k : s_V G (d + 3) M_X3_holdAlike vs0 σ0 Y_X3_holdAlike (2, [.ref v0, .int v1, .int v2, .int 0], σ) (e_I r) := k
  refine lv_iconst (v := 0) hx hb dX3_holdAlike_0 (by decide) ?_
  refine lv_istore_n (lv' := [(3, .int 0), (0, .ref v0), (1, .int v1), (2, .int v2)]) hx hb dX3_holdAlike_1 rfl hl (by decide) rfl (fun ls hl => ?_)
  exact k.2 p e s m below meth c _ _ _ _ _ X I hn.1 hn.2 (lv_sub hl [1, 2, 3, 0] rfl)
set_option maxRecDepth 100000 in
set_option maxHeartbeats 4000000 in
theorem v_X3_holdAlike_2 {G : sG} {d : Nat} {vs0 : List Value} {σ0 : sS} {v0 : Nat} {v1 : Int32} {v2 : Int32} {v3 : Int32} {σ : sS} {z : sZ Int32} {r : Int32 × sS} (hf : T_X3_holdAlike_2 v0 v1 v2 v3 σ = some z) (k : s_K G (d + 3) M_X3_holdAlike vs0 σ0 Y_X3_holdAlike e_I z r) : s_V G (d + 3) M_X3_holdAlike vs0 σ0 Y_X3_holdAlike (2, [.ref v0, .int v1, .int v2, .int v3], σ) (e_I r) := by
  have le0 : s_le σ (e_I r).2 := s_lek hem_I (l_X3_holdAlike_2 hf) k
  refine ⟨le0, ?_⟩
  intro p e s m below meth c H locs cells slots ls X I hn1 hn2 hl
  have hn : cells + σ0.2.1 ≤ σ.2.1 ∧ slots + σ0.2.2.1 ≤ σ.2.2.1 := ⟨hn1, hn2⟩
  have hl : lv_has ls 4 [(0, .ref v0), (1, .int v1), (2, .int v2), (3, .int v3)] := hl
  have hx := X.1
  have hb : c.code = cX3_holdAlike := X.2.1
  have hown : s.vm.findClass RX3 = some m.cls := X.2.2.2.2.2.1
  have hts := X.2.2.2.2.2.2.1
  refine W.eq (g2 := F0 m 2 ls []) rfl ?_
  unfold T_X3_holdAlike_2 at hf
  obtain ⟨x1, h1, hf⟩ := s_bind hf
  obtain ⟨q2, h2, hf⟩ := s_bind hf
  have le3 : s_le q2.2 (e_I r).2 := by
    refine s_lek hem_I ?_ k
    rcases s_ite hf with ⟨-, hf⟩ | ⟨-, hf⟩
    · cases hf
      exact s_le.rf
    · obtain ⟨x3, -, hf⟩ := s_bind hf
      obtain ⟨q4, hh, hf⟩ := s_bind hf
      refine s_lz.tr (l_X1_truthOf hh) ?_
      obtain ⟨x5, -, hf⟩ := s_bind hf
      obtain ⟨q6, hh, hf⟩ := s_bind hf
      refine s_lz.tr (l_X1_truthOf hh) ?_
      rcases s_ite hf with ⟨-, hf⟩ | ⟨-, hf⟩
      · cases hf
        exact s_le.rf
      · cases hf
        exact s_le.rf
  refine lv_iload_n hx hb dX3_holdAlike_2 rfl (lv_at hl 3 rfl) ?_
  refine lv_aload_n hx hb dX3_holdAlike_3 rfl (lv_at hl 0 rfl) ?_
  refine r_gr X I fl_X3_30 h1 dX3_holdAlike_4 ?_
  refine r_callV (Y := M_X1_words) (v := some (.int q2.1)) X I w_1077 my_X1_words (by omega) (t_X1_words (G := G) (d := d + 0) h2) (b_X1_words h2) rfl rfl hl.1 rfl (Nat.le_of_ble_eq_true rfl) hn le3 dX3_holdAlike_7 (fun H locs cells slots I hn1 hn2 => ?_)
  have I : s_I G q2.2 s H locs := I
  have hn : cells + σ0.2.1 ≤ q2.2.2.1 ∧ slots + σ0.2.2.1 ≤ q2.2.2.2.1 := ⟨hn1, hn2⟩
  rcases s_ite hf with ⟨c4, hf⟩ | ⟨c4, hf⟩
  · refine lv_icmp_ge (tgt := 43) hx hb dX3_holdAlike_10 (by decide) (fun _ => ?_) (fun n => absurd c4 n)
    cases hf
    have k : _ = r := k
    subst k
    refine lv_iconst (v := 1) hx hb dX3_holdAlike_43 (by decide) ?_
    exact r_iret X I rfl rfl rfl hn dX3_holdAlike_44
  · refine lv_icmp_ge (tgt := 43) hx hb dX3_holdAlike_10 (by decide) (fun n => absurd n c4) (fun _ => ?_)
    obtain ⟨x3, h5, hf⟩ := s_bind hf
    obtain ⟨q4, h6, hf⟩ := s_bind hf
    obtain ⟨x5, h7, hf⟩ := s_bind hf
    obtain ⟨q6, h8, hf⟩ := s_bind hf
    have le9 : s_le q6.2 (e_I r).2 := by
      refine s_lek hem_I ?_ k
      rcases s_ite hf with ⟨-, hf⟩ | ⟨-, hf⟩
      · cases hf
        exact s_le.rf
      · cases hf
        exact s_le.rf
    have le10 := s_le.tr (l_X1_truthOf h8) le9
    refine lv_aload_n hx hb dX3_holdAlike_13 rfl (lv_at hl 0 rfl) ?_
    refine r_gr X I fl_X3_30 h5 dX3_holdAlike_14 ?_
    refine lv_iload_n hx hb dX3_holdAlike_17 rfl (lv_at hl 1 rfl) ?_
    refine lv_iload_n hx hb dX3_holdAlike_18 rfl (lv_at hl 3 rfl) ?_
    refine r_callV (Y := M_X1_truthOf) (v := some (.long q4.1)) X I w_1078 my_X1_truthOf (by omega) (t_X1_truthOf (G := G) (d := d + 1) h6) (b_X1_truthOf h6) rfl rfl hl.1 rfl (Nat.le_of_ble_eq_true rfl) hn le10 dX3_holdAlike_19 (fun H locs cells slots I hn1 hn2 => ?_)
    have I : s_I G q4.2 s H locs := I
    have hn : cells + σ0.2.1 ≤ q4.2.2.1 ∧ slots + σ0.2.2.1 ≤ q4.2.2.2.1 := ⟨hn1, hn2⟩
    refine lv_aload_n hx hb dX3_holdAlike_22 rfl (lv_at hl 0 rfl) ?_
    refine r_gr X I fl_X3_30 h7 dX3_holdAlike_23 ?_
    refine lv_iload_n hx hb dX3_holdAlike_26 rfl (lv_at hl 2 rfl) ?_
    refine lv_iload_n hx hb dX3_holdAlike_27 rfl (lv_at hl 3 rfl) ?_
    refine r_callV (Y := M_X1_truthOf) (v := some (.long q6.1)) X I w_1078 my_X1_truthOf (by omega) (t_X1_truthOf (G := G) (d := d + 1) h8) (b_X1_truthOf h8) rfl rfl hl.1 rfl (Nat.le_of_ble_eq_true rfl) hn le9 dX3_holdAlike_28 (fun H locs cells slots I hn1 hn2 => ?_)
    have I : s_I G q6.2 s H locs := I
    have hn : cells + σ0.2.1 ≤ q6.2.2.1 ∧ slots + σ0.2.2.1 ≤ q6.2.2.2.1 := ⟨hn1, hn2⟩
    refine W.lcmp hx hb dX3_holdAlike_31 ?_
    rcases s_ite hf with ⟨c11, hf⟩ | ⟨c11, hf⟩
    · refine lv_if_eq (tgt := 37) hx hb dX3_holdAlike_32 (by decide) (fun _ => ?_) (fun n => absurd c11 n)
      cases hf
      have k : s_V G (d + 3) M_X3_holdAlike vs0 σ0 Y_X3_holdAlike (2, [.ref v0, .int v1, .int v2, .int (v3 + 1)], q6.2) (e_I r) := k
      refine lv_iinc (v := (v3 + 1)) (lv' := [(3, .int (v3 + 1)), (0, .ref v0), (1, .int v1), (2, .int v2)]) hx hb dX3_holdAlike_37 hl (k := 3) rfl rfl (by decide) rfl (fun ls hl => ?_)
      refine lv_goto (tgt := 2) hx hb dX3_holdAlike_40 (by decide) ?_
      exact k.2 p e s m below meth c _ _ _ _ _ X I hn.1 hn.2 (lv_sub hl [1, 2, 3, 0] rfl)
    · refine lv_if_eq (tgt := 37) hx hb dX3_holdAlike_32 (by decide) (fun n => absurd n c11) (fun _ => ?_)
      cases hf
      have k : _ = r := k
      subst k
      refine lv_iconst (v := 0) hx hb dX3_holdAlike_35 (by decide) ?_
      exact r_iret X I rfl rfl rfl hn dX3_holdAlike_36
theorem v_X3_holdAlike {G : sG} {d : Nat} {vs0 : List Value} {σ0 : sS} {x : sL} {z : sZ Int32} {r : Int32 × sS} (hs : S_X3_holdAlike x = some z) (k : s_K G (d + 3) M_X3_holdAlike vs0 σ0 Y_X3_holdAlike e_I z r) : s_V G (d + 3) M_X3_holdAlike vs0 σ0 Y_X3_holdAlike x (e_I r) := by
  obtain ⟨pc, vs, σ⟩ := x
  unfold S_X3_holdAlike at hs
  dsimp only at hs
  rcases s_ite hs with ⟨c, hs⟩ | ⟨-, hs⟩
  · subst c
    unfold U_X3_holdAlike_0 at hs
    obtain ⟨a0, g0, hs⟩ := s_bind hs
    obtain ⟨a1, g1, hs⟩ := s_bind hs
    obtain ⟨a2, g2, hs⟩ := s_bind hs
    obtain ⟨u9, ge, hs⟩ := s_bind hs
    rw [g_r_to g0, g_i_to g1, g_i_to g2, g_e_to ge]
    exact v_X3_holdAlike_0 hs k
  rcases s_ite hs with ⟨c, hs⟩ | ⟨-, hs⟩
  · subst c
    unfold U_X3_holdAlike_2 at hs
    obtain ⟨a0, g0, hs⟩ := s_bind hs
    obtain ⟨a1, g1, hs⟩ := s_bind hs
    obtain ⟨a2, g2, hs⟩ := s_bind hs
    obtain ⟨a3, g3, hs⟩ := s_bind hs
    obtain ⟨u9, ge, hs⟩ := s_bind hs
    rw [g_r_to g0, g_i_to g1, g_i_to g2, g_i_to g3, g_e_to ge]
    exact v_X3_holdAlike_2 hs k
  cases hs
theorem t_X3_holdAlike {G : sG} {d : Nat} {v0 : Nat} {v1 : Int32} {v2 : Int32} {σ : sS} {q : Int32 × sS} (h : F_X3_holdAlike v0 v1 v2 σ = some q) : s_T G (d + 3) M_X3_holdAlike [.ref v0, .int v1, .int v2] σ (e_I q) := by
  unfold F_X3_holdAlike at h
  obtain ⟨-, -, h⟩ := s_bind h
  exact s_ofV rfl (by decide) (Nat.le_of_ble_eq_true rfl) rfl rfl (s_run_ind (V := fun x r => s_V G (d + 3) M_X3_holdAlike [.ref v0, .int v1, .int v2] σ Y_X3_holdAlike x (e_I r)) (fun x z r hs hk => v_X3_holdAlike hs (by cases z <;> exact hk)) h)
