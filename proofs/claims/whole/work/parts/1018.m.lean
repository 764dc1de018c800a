/-! X7_end -/
noncomputable def T_X7_end_0 (v0 : Nat) (v1 : Int32) (σ : sS) : Option (sZ Int32) :=
  (s_fr σ v0 7 3).bind fun x1 =>
  (F_X5_cut x1 v1 σ).bind fun q2 =>
  if (q2.1 = 0 ∨ q2.1 = 1) then (some (.inr (q2.1, q2.2))) else none
noncomputable def U_X7_end_0 (vs : List Value) (σ : sS) : Option (sZ Int32) := (g_r vs).bind fun a0 => (g_i a0.2).bind fun a1 => (g_e a1.2).bind fun _ => T_X7_end_0 a0.1 a1.1 σ
noncomputable def S_X7_end (x : sL) : Option (sZ Int32) := if x.1 = 0 then U_X7_end_0 x.2.1 x.2.2 else none
def Y_X7_end (pc : Nat) : List Nat := if pc = 0 then [0, 1] else []
noncomputable def F_X7_end (v0 : Nat) (v1 : Int32) (σ : sS) : Option (Int32 × sS) := (s_is σ v0 7).bind fun _ => s_run S_X7_end (0, [.ref v0, .int v1], σ)
theorem l_X7_end_0 {v0 : Nat} {v1 : Int32} {σ : sS} {z : sZ Int32} (hf : T_X7_end_0 v0 v1 σ = some z) : s_lz σ z := by
  unfold T_X7_end_0 at hf
  obtain ⟨x1, -, hf⟩ := s_bind hf
  obtain ⟨q2, hh, hf⟩ := s_bind hf
  refine s_lz.tr (l_X5_cut hh) ?_
  rcases s_ite hf with ⟨-, hf⟩ | ⟨-, hf⟩
  · cases hf
    exact s_le.rf
  · cases hf
theorem l_X7_end_s {x : sL} {z : sZ Int32} (hs : S_X7_end x = some z) : s_lz x.2.2 z := by
  obtain ⟨pc, vs, σ⟩ := x
  unfold S_X7_end at hs
  dsimp only at hs ⊢
  rcases s_ite hs with ⟨c, hs⟩ | ⟨-, hs⟩
  · subst c
    unfold U_X7_end_0 at hs
    obtain ⟨a0, g0, hs⟩ := s_bind hs
    obtain ⟨a1, g1, hs⟩ := s_bind hs
    obtain ⟨u9, ge, hs⟩ := s_bind hs
    exact l_X7_end_0 hs
  cases hs
theorem l_X7_end {v0 : Nat} {v1 : Int32} {σ : sS} {q : Int32 × sS} (h : F_X7_end v0 v1 σ = some q) : s_le σ q.2 := by
  unfold F_X7_end at h
  obtain ⟨-, -, h⟩ := s_bind h
  exact s_run_ind (V := fun x r => s_le x.2.2 r.2) (fun x z r hs hk => by
    have h9 := l_X7_end_s hs
    cases z with
    | inl y => exact s_le.tr h9 hk
    | inr q => cases hk; exact h9) h
theorem b_X7_end {v0 : Nat} {v1 : Int32} {σ : sS} {q : Int32 × sS} (h : F_X7_end v0 v1 σ = some q) : ∃ fs, σ.1 v0 = some (.inr (7, fs)) := by
  unfold F_X7_end at h
  obtain ⟨u, hu, -⟩ := s_bind h
  exact s_is_to hu
set_option maxRecDepth 100000 in
set_option maxHeartbeats 4000000 in
theorem v_X7_end_0 {G : sG} {d : Nat} {vs0 : List Value} {σ0 : sS} {v0 : Nat} {v1 : Int32} {σ : sS} {z : sZ Int32} {r : Int32 × sS} (hf : T_X7_end_0 v0 v1 σ = some z) (k : s_K G (d + 2) M_X7_end vs0 σ0 Y_X7_end e_I z r) : s_V G (d + 2) M_X7_end vs0 σ0 Y_X7_end (0, [.ref v0, .int v1], σ) (e_I r) := by
  have le0 : s_le σ (e_I r).2 := s_lek hem_I (l_X7_end_0 hf) k
  refine ⟨le0, ?_⟩
  intro p e s m below meth c H locs cells slots ls X I hn1 hn2 hl
  have hn : cells + σ0.2.1 ≤ σ.2.1 ∧ slots + σ0.2.2.1 ≤ σ.2.2.1 := ⟨hn1, hn2⟩
  have hl : lv_has ls 2 [(0, .ref v0), (1, .int v1)] := hl
  have hx := X.1
  have hb : c.code = cX7_end := X.2.1
  have hown : s.vm.findClass RX7 = some m.cls := X.2.2.2.2.2.1
  have hts := X.2.2.2.2.2.2.1
  refine W.eq (g2 := F0 m 0 ls []) rfl ?_
  unfold T_X7_end_0 at hf
  obtain ⟨x1, h1, hf⟩ := s_bind hf
  obtain ⟨q2, h2, hf⟩ := s_bind hf
  have le3 : s_le q2.2 (e_I r).2 := by
    refine s_lek hem_I ?_ k
    rcases s_ite hf with ⟨-, hf⟩ | ⟨-, hf⟩
    · cases hf
      exact s_le.rf
    · cases hf
  refine lv_aload_n hx hb dX7_end_0 rfl (lv_at hl 0 rfl) ?_
  refine r_gr X I fl_X7_31 h1 dX7_end_1 ?_
  refine lv_iload_n hx hb dX7_end_4 rfl (lv_at hl 1 rfl) ?_
  refine r_callV (Y := M_X5_cut) (v := some (.int q2.1)) X I w_497 my_X5_cut (by omega) (t_X5_cut (G := G) (d := d + 0) h2) (b_X5_cut h2) rfl rfl hl.1 rfl (Nat.le_of_ble_eq_true rfl) hn le3 dX7_end_5 (fun H locs cells slots I hn1 hn2 => ?_)
  have I : s_I G q2.2 s H locs := I
  have hn : cells + σ0.2.1 ≤ q2.2.2.1 ∧ slots + σ0.2.2.1 ≤ q2.2.2.2.1 := ⟨hn1, hn2⟩
  rcases s_ite hf with ⟨hchk, hf⟩ | ⟨-, hf⟩
  · cases hf
    have k : _ = r := k
    subst k
    exact r_iret X I rfl (s_nb hchk) rfl hn dX7_end_8
  · cases hf
theorem v_X7_end {G : sG} {d : Nat} {vs0 : List Value} {σ0 : sS} {x : sL} {z : sZ Int32} {r : Int32 × sS} (hs : S_X7_end x = some z) (k : s_K G (d + 2) M_X7_end vs0 σ0 Y_X7_end e_I z r) : s_V G (d + 2) M_X7_end vs0 σ0 Y_X7_end x (e_I r) := by
  obtain ⟨pc, vs, σ⟩ := x
  unfold S_X7_end at hs
  dsimp only at hs
  rcases s_ite hs with ⟨c, hs⟩ | ⟨-, hs⟩
  · subst c
    unfold U_X7_end_0 at hs
    obtain ⟨a0, g0, hs⟩ := s_bind hs
    obtain ⟨a1, g1, hs⟩ := s_bind hs
    obtain ⟨u9, ge, hs⟩ := s_bind hs
    rw [g_r_to g0, g_i_to g1, g_e_to ge]
    exact v_X7_end_0 hs k
  cases hs
theorem t_X7_end {G : sG} {d : Nat} {v0 : Nat} {v1 : Int32} {σ : sS} {q : Int32 × sS} (h : F_X7_end v0 v1 σ = some q) : s_T G (d + 2) M_X7_end [.ref v0, .int v1] σ (e_I q) := by
  unfold F_X7_end at h
  obtain ⟨-, -, h⟩ := s_bind h
  exact s_ofV rfl (by decide) (Nat.le_of_ble_eq_true rfl) rfl rfl (s_run_ind (V := fun x r => s_V G (d + 2) M_X7_end [.ref v0, .int v1] σ Y_X7_end x (e_I r)) (fun x z r hs hk => v_X7_end hs (by cases z <;> exact hk)) h)
/-! X8_end -/
noncomputable def T_X8_end_0 (v0 : Nat) (v1 : Int32) (σ : sS) : Option (sZ Int32) :=
  (s_pf σ v0 8 0 (.int 0)).bind fun σ1 =>
  if v1 < 0 then (some (.inr (0, σ1)))
  else ((s_fi σ1 v0 8 7).bind fun x2 =>
  if v1 ≤ x2 then ((s_pf σ1 v0 8 7 (.int v1)).bind fun σ3 =>
  some (.inr (1, σ3)))
  else (some (.inr (0, σ1))))
noncomputable def U_X8_end_0 (vs : List Value) (σ : sS) : Option (sZ Int32) := (g_r vs).bind fun a0 => (g_i a0.2).bind fun a1 => (g_e a1.2).bind fun _ => T_X8_end_0 a0.1 a1.1 σ
noncomputable def S_X8_end (x : sL) : Option (sZ Int32) := if x.1 = 0 then U_X8_end_0 x.2.1 x.2.2 else none
def Y_X8_end (pc : Nat) : List Nat := if pc = 0 then [0, 1] else []
noncomputable def F_X8_end (v0 : Nat) (v1 : Int32) (σ : sS) : Option (Int32 × sS) := (s_is σ v0 8).bind fun _ => s_run S_X8_end (0, [.ref v0, .int v1], σ)
theorem l_X8_end_0 {v0 : Nat} {v1 : Int32} {σ : sS} {z : sZ Int32} (hf : T_X8_end_0 v0 v1 σ = some z) : s_lz σ z := by
  unfold T_X8_end_0 at hf
  obtain ⟨σ1, hh, hf⟩ := s_bind hf
  refine s_lz.tr (s_le2 (s_pf_2 hh)) ?_
  rcases s_ite hf with ⟨-, hf⟩ | ⟨-, hf⟩
  · cases hf
    exact s_le.rf
  · obtain ⟨x2, -, hf⟩ := s_bind hf
    rcases s_ite hf with ⟨-, hf⟩ | ⟨-, hf⟩
    · obtain ⟨σ3, hh, hf⟩ := s_bind hf
      refine s_lz.tr (s_le2 (s_pf_2 hh)) ?_
      cases hf
      exact s_le.rf
    · cases hf
      exact s_le.rf
theorem l_X8_end_s {x : sL} {z : sZ Int32} (hs : S_X8_end x = some z) : s_lz x.2.2 z := by
  obtain ⟨pc, vs, σ⟩ := x
  unfold S_X8_end at hs
  dsimp only at hs ⊢
  rcases s_ite hs with ⟨c, hs⟩ | ⟨-, hs⟩
  · subst c
    unfold U_X8_end_0 at hs
    obtain ⟨a0, g0, hs⟩ := s_bind hs
    obtain ⟨a1, g1, hs⟩ := s_bind hs
    obtain ⟨u9, ge, hs⟩ := s_bind hs
    exact l_X8_end_0 hs
  cases hs
theorem l_X8_end {v0 : Nat} {v1 : Int32} {σ : sS} {q : Int32 × sS} (h : F_X8_end v0 v1 σ = some q) : s_le σ q.2 := by
  unfold F_X8_end at h
  obtain ⟨-, -, h⟩ := s_bind h
  exact s_run_ind (V := fun x r => s_le x.2.2 r.2) (fun x z r hs hk => by
    have h9 := l_X8_end_s hs
    cases z with
    | inl y => exact s_le.tr h9 hk
    | inr q => cases hk; exact h9) h
theorem b_X8_end {v0 : Nat} {v1 : Int32} {σ : sS} {q : Int32 × sS} (h : F_X8_end v0 v1 σ = some q) : ∃ fs, σ.1 v0 = some (.inr (8, fs)) := by
  unfold F_X8_end at h
  obtain ⟨u, hu, -⟩ := s_bind h
  exact s_is_to hu
set_option maxRecDepth 100000 in
set_option maxHeartbeats 4000000 in
theorem v_X8_end_0 {G : sG} {d : Nat} {vs0 : List Value} {σ0 : sS} {v0 : Nat} {v1 : Int32} {σ : sS} {z : sZ Int32} {r : Int32 × sS} (hf : T_X8_end_0 v0 v1 σ = some z) (k : s_K G (d + 1) M_X8_end vs0 σ0 Y_X8_end e_I z r) : s_V G (d + 1) M_X8_end vs0 σ0 Y_X8_end (0, [.ref v0, .int v1], σ) (e_I r) := by
  have le0 : s_le σ (e_I r).2 := s_lek hem_I (l_X8_end_0 hf) k
  refine ⟨le0, ?_⟩
  intro p e s m below meth c H locs cells slots ls X I hn1 hn2 hl
  have hn : cells + σ0.2.1 ≤ σ.2.1 ∧ slots + σ0.2.2.1 ≤ σ.2.2.1 := ⟨hn1, hn2⟩
  have hl : lv_has ls 2 [(0, .ref v0), (1, .int v1)] := hl
  have hx := X.1
  have hb : c.code = cX8_end := X.2.1
  have hown : s.vm.findClass RX8 = some m.cls := X.2.2.2.2.2.1
  have hts := X.2.2.2.2.2.2.1
  refine W.eq (g2 := F0 m 0 ls []) rfl ?_
  unfold T_X8_end_0 at hf
  obtain ⟨σ1, h1, hf⟩ := s_bind hf
  have le2 : s_le σ1 (e_I r).2 := by
    refine s_lek hem_I ?_ k
    rcases s_ite hf with ⟨-, hf⟩ | ⟨-, hf⟩
    · cases hf
      exact s_le.rf
    · obtain ⟨x2, -, hf⟩ := s_bind hf
      rcases s_ite hf with ⟨-, hf⟩ | ⟨-, hf⟩
      · obtain ⟨σ3, hh, hf⟩ := s_bind hf
        refine s_lz.tr (s_le2 (s_pf_2 hh)) ?_
        cases hf
        exact s_le.rf
      · cases hf
        exact s_le.rf
  refine lv_aload_n hx hb dX8_end_0 rfl (lv_at hl 0 rfl) ?_
  refine lv_iconst (v := 0) hx hb dX8_end_1 (by decide) ?_
  refine r_put X I fp_X8_3 (fun h => by cases h) h1 rfl rfl dX8_end_2 (fun H locs I => ?_)
  have hn := s_k2 (s_pf_2 h1) hn
  refine lv_iload_n hx hb dX8_end_5 rfl (lv_at hl 1 rfl) ?_
  rcases s_ite hf with ⟨c3, hf⟩ | ⟨c3, hf⟩
  · refine lv_if_lt (tgt := 17) hx hb dX8_end_6 (by decide) (fun _ => ?_) (fun n => absurd c3 n)
    cases hf
    have k : _ = r := k
    subst k
    refine lv_iconst (v := 0) hx hb dX8_end_17 (by decide) ?_
    exact r_iret X I rfl rfl rfl hn dX8_end_18
  · refine lv_if_lt (tgt := 17) hx hb dX8_end_6 (by decide) (fun n => absurd n c3) (fun _ => ?_)
    obtain ⟨x2, h4, hf⟩ := s_bind hf
    refine lv_iload_n hx hb dX8_end_9 rfl (lv_at hl 1 rfl) ?_
    refine lv_aload_n hx hb dX8_end_10 rfl (lv_at hl 0 rfl) ?_
    refine r_gi X I fl_X8_145 h4 dX8_end_11 ?_
    rcases s_ite hf with ⟨c5, hf⟩ | ⟨c5, hf⟩
    · refine lv_icmp_le (tgt := 19) hx hb dX8_end_14 (by decide) (fun _ => ?_) (fun n => absurd c5 n)
      obtain ⟨σ3, h6, hf⟩ := s_bind hf
      cases hf
      have k : _ = r := k
      subst k
      have le7 : s_le σ3 σ3 := s_le.rf
      refine lv_aload_n hx hb dX8_end_19 rfl (lv_at hl 0 rfl) ?_
      refine lv_iload_n hx hb dX8_end_20 rfl (lv_at hl 1 rfl) ?_
      refine r_put X I fp_X8_145 (fun h => by cases h) h6 rfl rfl dX8_end_21 (fun H locs I => ?_)
      have hn := s_k2 (s_pf_2 h6) hn
      refine lv_iconst (v := 1) hx hb dX8_end_24 (by decide) ?_
      exact r_iret X I rfl rfl rfl hn dX8_end_25
    · refine lv_icmp_le (tgt := 19) hx hb dX8_end_14 (by decide) (fun n => absurd n c5) (fun _ => ?_)
      cases hf
      have k : _ = r := k
      subst k
      refine lv_iconst (v := 0) hx hb dX8_end_17 (by decide) ?_
      exact r_iret X I rfl rfl rfl hn dX8_end_18
theorem v_X8_end {G : sG} {d : Nat} {vs0 : List Value} {σ0 : sS} {x : sL} {z : sZ Int32} {r : Int32 × sS} (hs : S_X8_end x = some z) (k : s_K G (d + 1) M_X8_end vs0 σ0 Y_X8_end e_I z r) : s_V G (d + 1) M_X8_end vs0 σ0 Y_X8_end x (e_I r) := by
  obtain ⟨pc, vs, σ⟩ := x
  unfold S_X8_end at hs
  dsimp only at hs
  rcases s_ite hs with ⟨c, hs⟩ | ⟨-, hs⟩
  · subst c
    unfold U_X8_end_0 at hs
    obtain ⟨a0, g0, hs⟩ := s_bind hs
    obtain ⟨a1, g1, hs⟩ := s_bind hs
    obtain ⟨u9, ge, hs⟩ := s_bind hs
    rw [g_r_to g0, g_i_to g1, g_e_to ge]
    exact v_X8_end_0 hs k
  cases hs
theorem t_X8_end {G : sG} {d : Nat} {v0 : Nat} {v1 : Int32} {σ : sS} {q : Int32 × sS} (h : F_X8_end v0 v1 σ = some q) : s_T G (d + 1) M_X8_end [.ref v0, .int v1] σ (e_I q) := by
  unfold F_X8_end at h
  obtain ⟨-, -, h⟩ := s_bind h
  exact s_ofV rfl (by decide) (Nat.le_of_ble_eq_true rfl) rfl rfl (s_run_ind (V := fun x r => s_V G (d + 1) M_X8_end [.ref v0, .int v1] σ Y_X8_end x (e_I r)) (fun x z r hs hk => v_X8_end hs (by cases z <;> exact hk)) h)
/-! X8_isAt -/
noncomputable def T_X8_isAt_0 (v0 : Nat) (v1 : Int32) (v2 : Int32) (σ : sS) : Option (sZ Int32) :=
  (s_fi σ v0 8 8).bind fun x1 =>
  (s_fi σ v0 8 9).bind fun x2 =>
  if x2 ≤ x1 then (some (.inr (0, σ)))
  else ((s_fr σ v0 8 6).bind fun x3 =>
  (s_fi σ v0 8 8).bind fun x4 =>
  (s_ab σ x3 x4).bind fun x5 =>
  if x5 < v1 then (some (.inr (0, σ)))
  else ((s_fr σ v0 8 6).bind fun x6 =>
  (s_fi σ v0 8 8).bind fun x7 =>
  (s_ab σ x6 x7).bind fun x8 =>
  if v2 < x8 then (some (.inr (0, σ)))
  else (some (.inr (1, σ)))))
noncomputable def U_X8_isAt_0 (vs : List Value) (σ : sS) : Option (sZ Int32) := (g_r vs).bind fun a0 => (g_i a0.2).bind fun a1 => (g_i a1.2).bind fun a2 => (g_e a2.2).bind fun _ => T_X8_isAt_0 a0.1 a1.1 a2.1 σ
noncomputable def S_X8_isAt (x : sL) : Option (sZ Int32) := if x.1 = 0 then U_X8_isAt_0 x.2.1 x.2.2 else none
def Y_X8_isAt (pc : Nat) : List Nat := if pc = 0 then [0, 1, 2] else []
noncomputable def F_X8_isAt (v0 : Nat) (v1 : Int32) (v2 : Int32) (σ : sS) : Option (Int32 × sS) := (s_is σ v0 8).bind fun _ => s_run S_X8_isAt (0, [.ref v0, .int v1, .int v2], σ)
theorem l_X8_isAt_0 {v0 : Nat} {v1 : Int32} {v2 : Int32} {σ : sS} {z : sZ Int32} (hf : T_X8_isAt_0 v0 v1 v2 σ = some z) : s_lz σ z := by
  unfold T_X8_isAt_0 at hf
  obtain ⟨x1, -, hf⟩ := s_bind hf
  obtain ⟨x2, -, hf⟩ := s_bind hf
  rcases s_ite hf with ⟨-, hf⟩ | ⟨-, hf⟩
  · cases hf
    exact s_le.rf
  · obtain ⟨x3, -, hf⟩ := s_bind hf
    obtain ⟨x4, -, hf⟩ := s_bind hf
    obtain ⟨x5, -, hf⟩ := s_bind hf
    rcases s_ite hf with ⟨-, hf⟩ | ⟨-, hf⟩
    · cases hf
      exact s_le.rf
    · obtain ⟨x6, -, hf⟩ := s_bind hf
      obtain ⟨x7, -, hf⟩ := s_bind hf
      obtain ⟨x8, -, hf⟩ := s_bind hf
      rcases s_ite hf with ⟨-, hf⟩ | ⟨-, hf⟩
      · cases hf
        exact s_le.rf
      · cases hf
        exact s_le.rf
theorem l_X8_isAt_s {x : sL} {z : sZ Int32} (hs : S_X8_isAt x = some z) : s_lz x.2.2 z := by
  obtain ⟨pc, vs, σ⟩ := x
  unfold S_X8_isAt at hs
  dsimp only at hs ⊢
  rcases s_ite hs with ⟨c, hs⟩ | ⟨-, hs⟩
  · subst c
    unfold U_X8_isAt_0 at hs
    obtain ⟨a0, g0, hs⟩ := s_bind hs
    obtain ⟨a1, g1, hs⟩ := s_bind hs
    obtain ⟨a2, g2, hs⟩ := s_bind hs
    obtain ⟨u9, ge, hs⟩ := s_bind hs
    exact l_X8_isAt_0 hs
  cases hs
theorem l_X8_isAt {v0 : Nat} {v1 : Int32} {v2 : Int32} {σ : sS} {q : Int32 × sS} (h : F_X8_isAt v0 v1 v2 σ = some q) : s_le σ q.2 := by
  unfold F_X8_isAt at h
  obtain ⟨-, -, h⟩ := s_bind h
  exact s_run_ind (V := fun x r => s_le x.2.2 r.2) (fun x z r hs hk => by
    have h9 := l_X8_isAt_s hs
    cases z with
    | inl y => exact s_le.tr h9 hk
    | inr q => cases hk; exact h9) h
theorem b_X8_isAt {v0 : Nat} {v1 : Int32} {v2 : Int32} {σ : sS} {q : Int32 × sS} (h : F_X8_isAt v0 v1 v2 σ = some q) : ∃ fs, σ.1 v0 = some (.inr (8, fs)) := by
  unfold F_X8_isAt at h
  obtain ⟨u, hu, -⟩ := s_bind h
  exact s_is_to hu
set_option maxRecDepth 100000 in
set_option maxHeartbeats 4000000 in
theorem v_X8_isAt_0 {G : sG} {d : Nat} {vs0 : List Value} {σ0 : sS} {v0 : Nat} {v1 : Int32} {v2 : Int32} {σ : sS} {z : sZ Int32} {r : Int32 × sS} (hf : T_X8_isAt_0 v0 v1 v2 σ = some z) (k : s_K G (d + 1) M_X8_isAt vs0 σ0 Y_X8_isAt e_I z r) : s_V G (d + 1) M_X8_isAt vs0 σ0 Y_X8_isAt (0, [.ref v0, .int v1, .int v2], σ) (e_I r) := by
  have le0 : s_le σ (e_I r).2 := s_lek hem_I (l_X8_isAt_0 hf) k
  refine ⟨le0, ?_⟩
  intro p e s m below meth c H locs cells slots ls X I hn1 hn2 hl
  have hn : cells + σ0.2.1 ≤ σ.2.1 ∧ slots + σ0.2.2.1 ≤ σ.2.2.1 := ⟨hn1, hn2⟩
  have hl : lv_has ls 3 [(0, .ref v0), (1, .int v1), (2, .int v2)] := hl
  have hx := X.1
  have hb : c.code = cX8_isAt := X.2.1
  have hown : s.vm.findClass RX8 = some m.cls := X.2.2.2.2.2.1
  have hts := X.2.2.2.2.2.2.1
  refine W.eq (g2 := F0 m 0 ls []) rfl ?_
  unfold T_X8_isAt_0 at hf
  obtain ⟨x1, h1, hf⟩ := s_bind hf
  obtain ⟨x2, h2, hf⟩ := s_bind hf
  refine lv_aload_n hx hb dX8_isAt_0 rfl (lv_at hl 0 rfl) ?_
  refine r_gi X I fl_X8_148 h1 dX8_isAt_1 ?_
  refine lv_aload_n hx hb dX8_isAt_4 rfl (lv_at hl 0 rfl) ?_
  refine r_gi X I fl_X8_151 h2 dX8_isAt_5 ?_
  rcases s_ite hf with ⟨c3, hf⟩ | ⟨c3, hf⟩
  · refine lv_icmp_ge (tgt := 41) hx hb dX8_isAt_8 (by decide) (fun _ => ?_) (fun n => absurd c3 n)
    cases hf
    have k : _ = r := k
    subst k
    refine lv_iconst (v := 0) hx hb dX8_isAt_41 (by decide) ?_
    exact r_iret X I rfl rfl rfl hn dX8_isAt_42
  · refine lv_icmp_ge (tgt := 41) hx hb dX8_isAt_8 (by decide) (fun n => absurd n c3) (fun _ => ?_)
    obtain ⟨x3, h4, hf⟩ := s_bind hf
    obtain ⟨x4, h5, hf⟩ := s_bind hf
    obtain ⟨x5, h6, hf⟩ := s_bind hf
    refine lv_aload_n hx hb dX8_isAt_11 rfl (lv_at hl 0 rfl) ?_
    refine r_gr X I fl_X8_26 h4 dX8_isAt_12 ?_
    refine lv_aload_n hx hb dX8_isAt_15 rfl (lv_at hl 0 rfl) ?_
    refine r_gi X I fl_X8_148 h5 dX8_isAt_16 ?_
    refine r_bald X I h6 dX8_isAt_19 ?_
    refine lv_iload_n hx hb dX8_isAt_20 rfl (lv_at hl 1 rfl) ?_
    rcases s_ite hf with ⟨c7, hf⟩ | ⟨c7, hf⟩
    · refine lv_icmp_lt (tgt := 41) hx hb dX8_isAt_21 (by decide) (fun _ => ?_) (fun n => absurd c7 n)
      cases hf
      have k : _ = r := k
      subst k
      refine lv_iconst (v := 0) hx hb dX8_isAt_41 (by decide) ?_
      exact r_iret X I rfl rfl rfl hn dX8_isAt_42
    · refine lv_icmp_lt (tgt := 41) hx hb dX8_isAt_21 (by decide) (fun n => absurd n c7) (fun _ => ?_)
      obtain ⟨x6, h8, hf⟩ := s_bind hf
      obtain ⟨x7, h9, hf⟩ := s_bind hf
      obtain ⟨x8, h10, hf⟩ := s_bind hf
      refine lv_aload_n hx hb dX8_isAt_24 rfl (lv_at hl 0 rfl) ?_
      refine r_gr X I fl_X8_26 h8 dX8_isAt_25 ?_
      refine lv_aload_n hx hb dX8_isAt_28 rfl (lv_at hl 0 rfl) ?_
      refine r_gi X I fl_X8_148 h9 dX8_isAt_29 ?_
      refine r_bald X I h10 dX8_isAt_32 ?_
      refine lv_iload_n hx hb dX8_isAt_33 rfl (lv_at hl 2 rfl) ?_
      rcases s_ite hf with ⟨c11, hf⟩ | ⟨c11, hf⟩
      · refine lv_icmp_gt (tgt := 41) hx hb dX8_isAt_34 (by decide) (fun _ => ?_) (fun n => absurd c11 n)
        cases hf
        have k : _ = r := k
        subst k
        refine lv_iconst (v := 0) hx hb dX8_isAt_41 (by decide) ?_
        exact r_iret X I rfl rfl rfl hn dX8_isAt_42
      · refine lv_icmp_gt (tgt := 41) hx hb dX8_isAt_34 (by decide) (fun n => absurd n c11) (fun _ => ?_)
        cases hf
        have k : _ = r := k
        subst k
        refine lv_iconst (v := 1) hx hb dX8_isAt_37 (by decide) ?_
        refine lv_goto (tgt := 42) hx hb dX8_isAt_38 (by decide) ?_
        exact r_iret X I rfl rfl rfl hn dX8_isAt_42
theorem v_X8_isAt {G : sG} {d : Nat} {vs0 : List Value} {σ0 : sS} {x : sL} {z : sZ Int32} {r : Int32 × sS} (hs : S_X8_isAt x = some z) (k : s_K G (d + 1) M_X8_isAt vs0 σ0 Y_X8_isAt e_I z r) : s_V G (d + 1) M_X8_isAt vs0 σ0 Y_X8_isAt x (e_I r) := by
  obtain ⟨pc, vs, σ⟩ := x
  unfold S_X8_isAt at hs
  dsimp only at hs
  rcases s_ite hs with ⟨c, hs⟩ | ⟨-, hs⟩
  · subst c
    unfold U_X8_isAt_0 at hs
    obtain ⟨a0, g0, hs⟩ := s_bind hs
    obtain ⟨a1, g1, hs⟩ := s_bind hs
    obtain ⟨a2, g2, hs⟩ := s_bind hs
    obtain ⟨u9, ge, hs⟩ := s_bind hs
    rw [g_r_to g0, g_i_to g1, g_i_to g2, g_e_to ge]
    exact v_X8_isAt_0 hs k
  cases hs
theorem t_X8_isAt {G : sG} {d : Nat} {v0 : Nat} {v1 : Int32} {v2 : Int32} {σ : sS} {q : Int32 × sS} (h : F_X8_isAt v0 v1 v2 σ = some q) : s_T G (d + 1) M_X8_isAt [.ref v0, .int v1, .int v2] σ (e_I q) := by
  unfold F_X8_isAt at h
  obtain ⟨-, -, h⟩ := s_bind h
  exact s_ofV rfl (by decide) (Nat.le_of_ble_eq_true rfl) rfl rfl (s_run_ind (V := fun x r => s_V G (d + 1) M_X8_isAt [.ref v0, .int v1, .int v2] σ Y_X8_isAt x (e_I r)) (fun x z r hs hk => v_X8_isAt hs (by cases z <;> exact hk)) h)
/-! X8_blanks -/
noncomputable def T_X8_blanks_0 (v0 : Nat) (σ : sS) : Option (sZ Unit) :=
  (F_X8_isAt v0 32 32 σ).bind fun q1 =>
  if q1.1 = 0 then ((s_fi q1.2 v0 8 8).bind fun x2 =>
  (s_pf q1.2 v0 8 10 (.int x2)).bind fun σ3 =>
  some (.inr ((), σ3)))
  else ((s_fi q1.2 v0 8 8).bind fun x4 =>
  (s_pf q1.2 v0 8 8 (.int (x4 + 1))).bind fun σ5 =>
  some (.inl (0, [.ref v0], σ5)))
noncomputable def U_X8_blanks_0 (vs : List Value) (σ : sS) : Option (sZ Unit) := (g_r vs).bind fun a0 => (g_e a0.2).bind fun _ => T_X8_blanks_0 a0.1 σ
noncomputable def S_X8_blanks (x : sL) : Option (sZ Unit) := if x.1 = 0 then U_X8_blanks_0 x.2.1 x.2.2 else none
def Y_X8_blanks (pc : Nat) : List Nat := if pc = 0 then [0] else []
noncomputable def F_X8_blanks (v0 : Nat) (σ : sS) : Option (Unit × sS) := (s_is σ v0 8).bind fun _ => s_run S_X8_blanks (0, [.ref v0], σ)
theorem l_X8_blanks_0 {v0 : Nat} {σ : sS} {z : sZ Unit} (hf : T_X8_blanks_0 v0 σ = some z) : s_lz σ z := by
  unfold T_X8_blanks_0 at hf
  obtain ⟨q1, hh, hf⟩ := s_bind hf
  refine s_lz.tr (l_X8_isAt hh) ?_
  rcases s_ite hf with ⟨-, hf⟩ | ⟨-, hf⟩
  · obtain ⟨x2, -, hf⟩ := s_bind hf
    obtain ⟨σ3, hh, hf⟩ := s_bind hf
    refine s_lz.tr (s_le2 (s_pf_2 hh)) ?_
    cases hf
    exact s_le.rf
  · obtain ⟨x4, -, hf⟩ := s_bind hf
    obtain ⟨σ5, hh, hf⟩ := s_bind hf
    refine s_lz.tr (s_le2 (s_pf_2 hh)) ?_
    cases hf
    exact s_le.rf
theorem l_X8_blanks_s {x : sL} {z : sZ Unit} (hs : S_X8_blanks x = some z) : s_lz x.2.2 z := by
  obtain ⟨pc, vs, σ⟩ := x
  unfold S_X8_blanks at hs
  dsimp only at hs ⊢
  rcases s_ite hs with ⟨c, hs⟩ | ⟨-, hs⟩
  · subst c
    unfold U_X8_blanks_0 at hs
    obtain ⟨a0, g0, hs⟩ := s_bind hs
    obtain ⟨u9, ge, hs⟩ := s_bind hs
    exact l_X8_blanks_0 hs
  cases hs
theorem l_X8_blanks {v0 : Nat} {σ : sS} {q : Unit × sS} (h : F_X8_blanks v0 σ = some q) : s_le σ q.2 := by
  unfold F_X8_blanks at h
  obtain ⟨-, -, h⟩ := s_bind h
  exact s_run_ind (V := fun x r => s_le x.2.2 r.2) (fun x z r hs hk => by
    have h9 := l_X8_blanks_s hs
    cases z with
    | inl y => exact s_le.tr h9 hk
    | inr q => cases hk; exact h9) h
theorem b_X8_blanks {v0 : Nat} {σ : sS} {q : Unit × sS} (h : F_X8_blanks v0 σ = some q) : ∃ fs, σ.1 v0 = some (.inr (8, fs)) := by
  unfold F_X8_blanks at h
  obtain ⟨u, hu, -⟩ := s_bind h
  exact s_is_to hu
set_option maxRecDepth 100000 in
set_option maxHeartbeats 4000000 in
theorem v_X8_blanks_0 {G : sG} {d : Nat} {vs0 : List Value} {σ0 : sS} {v0 : Nat} {σ : sS} {z : sZ Unit} {r : Unit × sS} (hf : T_X8_blanks_0 v0 σ = some z) (k : s_K G (d + 2) M_X8_blanks vs0 σ0 Y_X8_blanks e_V z r) : s_V G (d + 2) M_X8_blanks vs0 σ0 Y_X8_blanks (0, [.ref v0], σ) (e_V r) := by
  have le0 : s_le σ (e_V r).2 := s_lek hem_V (l_X8_blanks_0 hf) k
  refine ⟨le0, ?_⟩
  intro p e s m below meth c H locs cells slots ls X I hn1 hn2 hl
  have hn : cells + σ0.2.1 ≤ σ.2.1 ∧ slots + σ0.2.2.1 ≤ σ.2.2.1 := ⟨hn1, hn2⟩
  have hl : lv_has ls 1 [(0, .ref v0)] := hl
  have hx := X.1
  have hb : c.code = cX8_blanks := X.2.1
  have hown : s.vm.findClass RX8 = some m.cls := X.2.2.2.2.2.1
  have hts := X.2.2.2.2.2.2.1
  refine W.eq (g2 := F0 m 0 ls []) rfl ?_
  unfold T_X8_blanks_0 at hf
  obtain ⟨q1, h1, hf⟩ := s_bind hf
  have le2 : s_le q1.2 (e_V r).2 := by
    refine s_lek hem_V ?_ k
    rcases s_ite hf with ⟨-, hf⟩ | ⟨-, hf⟩
    · obtain ⟨x2, -, hf⟩ := s_bind hf
      obtain ⟨σ3, hh, hf⟩ := s_bind hf
      refine s_lz.tr (s_le2 (s_pf_2 hh)) ?_
      cases hf
      exact s_le.rf
    · obtain ⟨x4, -, hf⟩ := s_bind hf
      obtain ⟨σ5, hh, hf⟩ := s_bind hf
      refine s_lz.tr (s_le2 (s_pf_2 hh)) ?_
      cases hf
      exact s_le.rf
  refine lv_aload_n hx hb dX8_blanks_0 rfl (lv_at hl 0 rfl) ?_
  refine lv_bipush (v := 32) hx hb dX8_blanks_1 (by decide) ?_
  refine lv_bipush (v := 32) hx hb dX8_blanks_3 (by decide) ?_
  refine r_callV (Y := M_X8_isAt) (v := some (.int q1.1)) X I w_1857 my_X8_isAt (by omega) (t_X8_isAt (G := G) (d := d + 0) h1) (b_X8_isAt h1) rfl rfl hl.1 rfl (Nat.le_of_ble_eq_true rfl) hn le2 dX8_blanks_5 (fun H locs cells slots I hn1 hn2 => ?_)
  have I : s_I G q1.2 s H locs := I
  have hn : cells + σ0.2.1 ≤ q1.2.2.1 ∧ slots + σ0.2.2.1 ≤ q1.2.2.2.1 := ⟨hn1, hn2⟩
  rcases s_ite hf with ⟨c3, hf⟩ | ⟨c3, hf⟩
  · refine lv_if_eq (tgt := 24) hx hb dX8_blanks_8 (by decide) (fun _ => ?_) (fun n => absurd c3 n)
    obtain ⟨x2, h4, hf⟩ := s_bind hf
    obtain ⟨σ3, h5, hf⟩ := s_bind hf
    cases hf
    have k : _ = r := k
    subst k
    have le6 : s_le σ3 σ3 := s_le.rf
    refine lv_aload_n hx hb dX8_blanks_24 rfl (lv_at hl 0 rfl) ?_
    refine lv_aload_n hx hb dX8_blanks_25 rfl (lv_at hl 0 rfl) ?_
    refine r_gi X I fl_X8_148 h4 dX8_blanks_26 ?_
    refine r_put X I fp_X8_158 (fun h => by cases h) h5 rfl rfl dX8_blanks_29 (fun H locs I => ?_)
    have hn := s_k2 (s_pf_2 h5) hn
    exact r_vret X I rfl rfl hn dX8_blanks_32
  · refine lv_if_eq (tgt := 24) hx hb dX8_blanks_8 (by decide) (fun n => absurd n c3) (fun _ => ?_)
    obtain ⟨x4, h7, hf⟩ := s_bind hf
    obtain ⟨σ5, h8, hf⟩ := s_bind hf
    cases hf
    have k : s_V G (d + 2) M_X8_blanks vs0 σ0 Y_X8_blanks (0, [.ref v0], σ5) (e_V r) := k
    have le9 : s_le σ5 (e_V r).2 := k.1
    refine lv_aload_n hx hb dX8_blanks_11 rfl (lv_at hl 0 rfl) ?_
    refine lv_dup hx hb dX8_blanks_12 rfl ?_
    refine r_gi X I fl_X8_148 h7 dX8_blanks_13 ?_
    refine lv_iconst (v := 1) hx hb dX8_blanks_16 (by decide) ?_
    refine lv_iadd hx hb dX8_blanks_17 ?_
    refine r_put X I fp_X8_148 (fun h => by cases h) h8 rfl rfl dX8_blanks_18 (fun H locs I => ?_)
    have hn := s_k2 (s_pf_2 h8) hn
    refine lv_goto (tgt := 0) hx hb dX8_blanks_21 (by decide) ?_
    exact k.2 p e s m below meth c _ _ _ _ _ X I hn.1 hn.2 (lv_sub hl [0] rfl)
theorem v_X8_blanks {G : sG} {d : Nat} {vs0 : List Value} {σ0 : sS} {x : sL} {z : sZ Unit} {r : Unit × sS} (hs : S_X8_blanks x = some z) (k : s_K G (d + 2) M_X8_blanks vs0 σ0 Y_X8_blanks e_V z r) : s_V G (d + 2) M_X8_blanks vs0 σ0 Y_X8_blanks x (e_V r) := by
  obtain ⟨pc, vs, σ⟩ := x
  unfold S_X8_blanks at hs
  dsimp only at hs
  rcases s_ite hs with ⟨c, hs⟩ | ⟨-, hs⟩
  · subst c
    unfold U_X8_blanks_0 at hs
    obtain ⟨a0, g0, hs⟩ := s_bind hs
    obtain ⟨u9, ge, hs⟩ := s_bind hs
    rw [g_r_to g0, g_e_to ge]
    exact v_X8_blanks_0 hs k
  cases hs
theorem t_X8_blanks {G : sG} {d : Nat} {v0 : Nat} {σ : sS} {q : Unit × sS} (h : F_X8_blanks v0 σ = some q) : s_T G (d + 2) M_X8_blanks [.ref v0] σ (e_V q) := by
  unfold F_X8_blanks at h
  obtain ⟨-, -, h⟩ := s_bind h
  exact s_ofV rfl (by decide) (Nat.le_of_ble_eq_true rfl) rfl rfl (s_run_ind (V := fun x r => s_V G (d + 2) M_X8_blanks [.ref v0] σ Y_X8_blanks x (e_V r)) (fun x z r hs hk => v_X8_blanks hs (by cases z <;> exact hk)) h)
/-! X8_has -/
noncomputable def T_X8_has_0 (v0 : Nat) (v1 : Int32) (σ : sS) : Option (sZ Int32) :=
  (F_X8_blanks v0 σ).bind fun q1 =>
  (F_X8_isAt v0 v1 v1 q1.2).bind fun q2 =>
  if q2.1 = 0 then (some (.inr (0, q2.2)))
  else ((s_fi q2.2 v0 8 8).bind fun x3 =>
  (s_pf q2.2 v0 8 8 (.int (x3 + 1))).bind fun σ4 =>
  some (.inr (1, σ4)))
noncomputable def U_X8_has_0 (vs : List Value) (σ : sS) : Option (sZ Int32) := (g_r vs).bind fun a0 => (g_i a0.2).bind fun a1 => (g_e a1.2).bind fun _ => T_X8_has_0 a0.1 a1.1 σ
noncomputable def S_X8_has (x : sL) : Option (sZ Int32) := if x.1 = 0 then U_X8_has_0 x.2.1 x.2.2 else none
def Y_X8_has (pc : Nat) : List Nat := if pc = 0 then [0, 1] else []
noncomputable def F_X8_has (v0 : Nat) (v1 : Int32) (σ : sS) : Option (Int32 × sS) := (s_is σ v0 8).bind fun _ => s_run S_X8_has (0, [.ref v0, .int v1], σ)
theorem l_X8_has_0 {v0 : Nat} {v1 : Int32} {σ : sS} {z : sZ Int32} (hf : T_X8_has_0 v0 v1 σ = some z) : s_lz σ z := by
  unfold T_X8_has_0 at hf
  obtain ⟨q1, hh, hf⟩ := s_bind hf
  refine s_lz.tr (l_X8_blanks hh) ?_
  obtain ⟨q2, hh, hf⟩ := s_bind hf
  refine s_lz.tr (l_X8_isAt hh) ?_
  rcases s_ite hf with ⟨-, hf⟩ | ⟨-, hf⟩
  · cases hf
    exact s_le.rf
  · obtain ⟨x3, -, hf⟩ := s_bind hf
    obtain ⟨σ4, hh, hf⟩ := s_bind hf
    refine s_lz.tr (s_le2 (s_pf_2 hh)) ?_
    cases hf
    exact s_le.rf
theorem l_X8_has_s {x : sL} {z : sZ Int32} (hs : S_X8_has x = some z) : s_lz x.2.2 z := by
  obtain ⟨pc, vs, σ⟩ := x
  unfold S_X8_has at hs
  dsimp only at hs ⊢
  rcases s_ite hs with ⟨c, hs⟩ | ⟨-, hs⟩
  · subst c
    unfold U_X8_has_0 at hs
    obtain ⟨a0, g0, hs⟩ := s_bind hs
    obtain ⟨a1, g1, hs⟩ := s_bind hs
    obtain ⟨u9, ge, hs⟩ := s_bind hs
    exact l_X8_has_0 hs
  cases hs
theorem l_X8_has {v0 : Nat} {v1 : Int32} {σ : sS} {q : Int32 × sS} (h : F_X8_has v0 v1 σ = some q) : s_le σ q.2 := by
  unfold F_X8_has at h
  obtain ⟨-, -, h⟩ := s_bind h
  exact s_run_ind (V := fun x r => s_le x.2.2 r.2) (fun x z r hs hk => by
    have h9 := l_X8_has_s hs
    cases z with
    | inl y => exact s_le.tr h9 hk
    | inr q => cases hk; exact h9) h
theorem b_X8_has {v0 : Nat} {v1 : Int32} {σ : sS} {q : Int32 × sS} (h : F_X8_has v0 v1 σ = some q) : ∃ fs, σ.1 v0 = some (.inr (8, fs)) := by
  unfold F_X8_has at h
  obtain ⟨u, hu, -⟩ := s_bind h
  exact s_is_to hu
set_option maxRecDepth 100000 in
set_option maxHeartbeats 4000000 in
theorem v_X8_has_0 {G : sG} {d : Nat} {vs0 : List Value} {σ0 : sS} {v0 : Nat} {v1 : Int32} {σ : sS} {z : sZ Int32} {r : Int32 × sS} (hf : T_X8_has_0 v0 v1 σ = some z) (k : s_K G (d + 3) M_X8_has vs0 σ0 Y_X8_has e_I z r) : s_V G (d + 3) M_X8_has vs0 σ0 Y_X8_has (0, [.ref v0, .int v1], σ) (e_I r) := by
  have le0 : s_le σ (e_I r).2 := s_lek hem_I (l_X8_has_0 hf) k
  refine ⟨le0, ?_⟩
  intro p e s m below meth c H locs cells slots ls X I hn1 hn2 hl
  have hn : cells + σ0.2.1 ≤ σ.2.1 ∧ slots + σ0.2.2.1 ≤ σ.2.2.1 := ⟨hn1, hn2⟩
  have hl : lv_has ls 2 [(0, .ref v0), (1, .int v1)] := hl
  have hx := X.1
  have hb : c.code = cX8_has := X.2.1
  have hown : s.vm.findClass RX8 = some m.cls := X.2.2.2.2.2.1
  have hts := X.2.2.2.2.2.2.1
  refine W.eq (g2 := F0 m 0 ls []) rfl ?_
  unfold T_X8_has_0 at hf
  obtain ⟨q1, h1, hf⟩ := s_bind hf
  obtain ⟨q2, h2, hf⟩ := s_bind hf
  have le3 : s_le q2.2 (e_I r).2 := by
    refine s_lek hem_I ?_ k
    rcases s_ite hf with ⟨-, hf⟩ | ⟨-, hf⟩
    · cases hf
      exact s_le.rf
    · obtain ⟨x3, -, hf⟩ := s_bind hf
      obtain ⟨σ4, hh, hf⟩ := s_bind hf
      refine s_lz.tr (s_le2 (s_pf_2 hh)) ?_
      cases hf
      exact s_le.rf
  have le4 := s_le.tr (l_X8_isAt h2) le3
  refine lv_aload_n hx hb dX8_has_0 rfl (lv_at hl 0 rfl) ?_
  refine r_callV (Y := M_X8_blanks) (v := none) X I w_1853 my_X8_blanks (by omega) (t_X8_blanks (G := G) (d := d + 0) h1) (b_X8_blanks h1) rfl rfl hl.1 rfl (Nat.le_of_ble_eq_true rfl) hn le4 dX8_has_1 (fun H locs cells slots I hn1 hn2 => ?_)
  have I : s_I G q1.2 s H locs := I
  have hn : cells + σ0.2.1 ≤ q1.2.2.1 ∧ slots + σ0.2.2.1 ≤ q1.2.2.2.1 := ⟨hn1, hn2⟩
  refine lv_aload_n hx hb dX8_has_4 rfl (lv_at hl 0 rfl) ?_
  refine lv_iload_n hx hb dX8_has_5 rfl (lv_at hl 1 rfl) ?_
  refine lv_iload_n hx hb dX8_has_6 rfl (lv_at hl 1 rfl) ?_
  refine r_callV (Y := M_X8_isAt) (v := some (.int q2.1)) X I w_1857 my_X8_isAt (by omega) (t_X8_isAt (G := G) (d := d + 1) h2) (b_X8_isAt h2) rfl rfl hl.1 rfl (Nat.le_of_ble_eq_true rfl) hn le3 dX8_has_7 (fun H locs cells slots I hn1 hn2 => ?_)
  have I : s_I G q2.2 s H locs := I
  have hn : cells + σ0.2.1 ≤ q2.2.2.1 ∧ slots + σ0.2.2.1 ≤ q2.2.2.2.1 := ⟨hn1, hn2⟩
  rcases s_ite hf with ⟨c5, hf⟩ | ⟨c5, hf⟩
  · refine lv_if_ne (tgt := 15) hx hb dX8_has_10 (by decide) (fun n => absurd c5 n) (fun _ => ?_)
    cases hf
    have k : _ = r := k
    subst k
    refine lv_iconst (v := 0) hx hb dX8_has_13 (by decide) ?_
    exact r_iret X I rfl rfl rfl hn dX8_has_14
  · refine lv_if_ne (tgt := 15) hx hb dX8_has_10 (by decide) (fun _ => ?_) (fun n => absurd n c5)
    obtain ⟨x3, h6, hf⟩ := s_bind hf
    obtain ⟨σ4, h7, hf⟩ := s_bind hf
    cases hf
    have k : _ = r := k
    subst k
    have le8 : s_le σ4 σ4 := s_le.rf
    refine lv_aload_n hx hb dX8_has_15 rfl (lv_at hl 0 rfl) ?_
    refine lv_dup hx hb dX8_has_16 rfl ?_
    refine r_gi X I fl_X8_148 h6 dX8_has_17 ?_
    refine lv_iconst (v := 1) hx hb dX8_has_20 (by decide) ?_
    refine lv_iadd hx hb dX8_has_21 ?_
    refine r_put X I fp_X8_148 (fun h => by cases h) h7 rfl rfl dX8_has_22 (fun H locs I => ?_)
    have hn := s_k2 (s_pf_2 h7) hn
    refine lv_iconst (v := 1) hx hb dX8_has_25 (by decide) ?_
    exact r_iret X I rfl rfl rfl hn dX8_has_26
theorem v_X8_has {G : sG} {d : Nat} {vs0 : List Value} {σ0 : sS} {x : sL} {z : sZ Int32} {r : Int32 × sS} (hs : S_X8_has x = some z) (k : s_K G (d + 3) M_X8_has vs0 σ0 Y_X8_has e_I z r) : s_V G (d + 3) M_X8_has vs0 σ0 Y_X8_has x (e_I r) := by
  obtain ⟨pc, vs, σ⟩ := x
  unfold S_X8_has at hs
  dsimp only at hs
  rcases s_ite hs with ⟨c, hs⟩ | ⟨-, hs⟩
  · subst c
    unfold U_X8_has_0 at hs
    obtain ⟨a0, g0, hs⟩ := s_bind hs
    obtain ⟨a1, g1, hs⟩ := s_bind hs
    obtain ⟨u9, ge, hs⟩ := s_bind hs
    rw [g_r_to g0, g_i_to g1, g_e_to ge]
    exact v_X8_has_0 hs k
  cases hs
theorem t_X8_has {G : sG} {d : Nat} {v0 : Nat} {v1 : Int32} {σ : sS} {q : Int32 × sS} (h : F_X8_has v0 v1 σ = some q) : s_T G (d + 3) M_X8_has [.ref v0, .int v1] σ (e_I q) := by
  unfold F_X8_has at h
  obtain ⟨-, -, h⟩ := s_bind h
  exact s_ofV rfl (by decide) (Nat.le_of_ble_eq_true rfl) rfl rfl (s_run_ind (V := fun x r => s_V G (d + 3) M_X8_has [.ref v0, .int v1] σ Y_X8_has x (e_I r)) (fun x z r hs hk => v_X8_has hs (by cases z <;> exact hk)) h)
/-! X8_deeper -/
noncomputable def T_X8_deeper_0 (v0 : Nat) (σ : sS) : Option (sZ Int32) :=
  (s_fi σ v0 8 11).bind fun x1 =>
  (s_pf σ v0 8 11 (.int (x1 + 1))).bind fun σ2 =>
  (s_fi σ2 v0 8 11).bind fun x3 =>
  if (8 : Int32) < x3 then (some (.inr (0, σ2)))
  else (some (.inr (1, σ2)))
noncomputable def U_X8_deeper_0 (vs : List Value) (σ : sS) : Option (sZ Int32) := (g_r vs).bind fun a0 => (g_e a0.2).bind fun _ => T_X8_deeper_0 a0.1 σ
noncomputable def S_X8_deeper (x : sL) : Option (sZ Int32) := if x.1 = 0 then U_X8_deeper_0 x.2.1 x.2.2 else none
def Y_X8_deeper (pc : Nat) : List Nat := if pc = 0 then [0] else []
noncomputable def F_X8_deeper (v0 : Nat) (σ : sS) : Option (Int32 × sS) := (s_is σ v0 8).bind fun _ => s_run S_X8_deeper (0, [.ref v0], σ)
theorem l_X8_deeper_0 {v0 : Nat} {σ : sS} {z : sZ Int32} (hf : T_X8_deeper_0 v0 σ = some z) : s_lz σ z := by
  unfold T_X8_deeper_0 at hf
  obtain ⟨x1, -, hf⟩ := s_bind hf
  obtain ⟨σ2, hh, hf⟩ := s_bind hf
  refine s_lz.tr (s_le2 (s_pf_2 hh)) ?_
  obtain ⟨x3, -, hf⟩ := s_bind hf
  rcases s_ite hf with ⟨-, hf⟩ | ⟨-, hf⟩
  · cases hf
    exact s_le.rf
  · cases hf
    exact s_le.rf
theorem l_X8_deeper_s {x : sL} {z : sZ Int32} (hs : S_X8_deeper x = some z) : s_lz x.2.2 z := by
  obtain ⟨pc, vs, σ⟩ := x
  unfold S_X8_deeper at hs
  dsimp only at hs ⊢
  rcases s_ite hs with ⟨c, hs⟩ | ⟨-, hs⟩
  · subst c
    unfold U_X8_deeper_0 at hs
    obtain ⟨a0, g0, hs⟩ := s_bind hs
    obtain ⟨u9, ge, hs⟩ := s_bind hs
    exact l_X8_deeper_0 hs
  cases hs
theorem l_X8_deeper {v0 : Nat} {σ : sS} {q : Int32 × sS} (h : F_X8_deeper v0 σ = some q) : s_le σ q.2 := by
  unfold F_X8_deeper at h
  obtain ⟨-, -, h⟩ := s_bind h
  exact s_run_ind (V := fun x r => s_le x.2.2 r.2) (fun x z r hs hk => by
    have h9 := l_X8_deeper_s hs
    cases z with
    | inl y => exact s_le.tr h9 hk
    | inr q => cases hk; exact h9) h
theorem b_X8_deeper {v0 : Nat} {σ : sS} {q : Int32 × sS} (h : F_X8_deeper v0 σ = some q) : ∃ fs, σ.1 v0 = some (.inr (8, fs)) := by
  unfold F_X8_deeper at h
  obtain ⟨u, hu, -⟩ := s_bind h
  exact s_is_to hu
set_option maxRecDepth 100000 in
set_option maxHeartbeats 4000000 in
theorem v_X8_deeper_0 {G : sG} {d : Nat} {vs0 : List Value} {σ0 : sS} {v0 : Nat} {σ : sS} {z : sZ Int32} {r : Int32 × sS} (hf : T_X8_deeper_0 v0 σ = some z) (k : s_K G (d + 1) M_X8_deeper vs0 σ0 Y_X8_deeper e_I z r) : s_V G (d + 1) M_X8_deeper vs0 σ0 Y_X8_deeper (0, [.ref v0], σ) (e_I r) := by
  have le0 : s_le σ (e_I r).2 := s_lek hem_I (l_X8_deeper_0 hf) k
  refine ⟨le0, ?_⟩
  intro p e s m below meth c H locs cells slots ls X I hn1 hn2 hl
  have hn : cells + σ0.2.1 ≤ σ.2.1 ∧ slots + σ0.2.2.1 ≤ σ.2.2.1 := ⟨hn1, hn2⟩
  have hl : lv_has ls 1 [(0, .ref v0)] := hl
  have hx := X.1
  have hb : c.code = cX8_deeper := X.2.1
  have hown : s.vm.findClass RX8 = some m.cls := X.2.2.2.2.2.1
  have hts := X.2.2.2.2.2.2.1
  refine W.eq (g2 := F0 m 0 ls []) rfl ?_
  unfold T_X8_deeper_0 at hf
  obtain ⟨x1, h1, hf⟩ := s_bind hf
  obtain ⟨σ2, h2, hf⟩ := s_bind hf
  obtain ⟨x3, h3, hf⟩ := s_bind hf
  have le4 : s_le σ2 (e_I r).2 := by
    refine s_lek hem_I ?_ k
    rcases s_ite hf with ⟨-, hf⟩ | ⟨-, hf⟩
    · cases hf
      exact s_le.rf
    · cases hf
      exact s_le.rf
  refine lv_aload_n hx hb dX8_deeper_0 rfl (lv_at hl 0 rfl) ?_
  refine lv_dup hx hb dX8_deeper_1 rfl ?_
  refine r_gi X I fl_X8_179 h1 dX8_deeper_2 ?_
  refine lv_iconst (v := 1) hx hb dX8_deeper_5 (by decide) ?_
  refine lv_iadd hx hb dX8_deeper_6 ?_
  refine r_put X I fp_X8_179 (fun h => by cases h) h2 rfl rfl dX8_deeper_7 (fun H locs I => ?_)
  have hn := s_k2 (s_pf_2 h2) hn
  refine lv_aload_n hx hb dX8_deeper_10 rfl (lv_at hl 0 rfl) ?_
  refine r_gi X I fl_X8_179 h3 dX8_deeper_11 ?_
  refine lv_bipush (v := 8) hx hb dX8_deeper_14 (by decide) ?_
  rcases s_ite hf with ⟨c5, hf⟩ | ⟨c5, hf⟩
  · refine lv_icmp_gt (tgt := 23) hx hb dX8_deeper_16 (by decide) (fun _ => ?_) (fun n => absurd c5 n)
    cases hf
    have k : _ = r := k
    subst k
    refine lv_iconst (v := 0) hx hb dX8_deeper_23 (by decide) ?_
    exact r_iret X I rfl rfl rfl hn dX8_deeper_24
  · refine lv_icmp_gt (tgt := 23) hx hb dX8_deeper_16 (by decide) (fun n => absurd n c5) (fun _ => ?_)
    cases hf
    have k : _ = r := k
    subst k
    refine lv_iconst (v := 1) hx hb dX8_deeper_19 (by decide) ?_
    refine lv_goto (tgt := 24) hx hb dX8_deeper_20 (by decide) ?_
    exact r_iret X I rfl rfl rfl hn dX8_deeper_24
theorem v_X8_deeper {G : sG} {d : Nat} {vs0 : List Value} {σ0 : sS} {x : sL} {z : sZ Int32} {r : Int32 × sS} (hs : S_X8_deeper x = some z) (k : s_K G (d + 1) M_X8_deeper vs0 σ0 Y_X8_deeper e_I z r) : s_V G (d + 1) M_X8_deeper vs0 σ0 Y_X8_deeper x (e_I r) := by
  obtain ⟨pc, vs, σ⟩ := x
  unfold S_X8_deeper at hs
  dsimp only at hs
  rcases s_ite hs with ⟨c, hs⟩ | ⟨-, hs⟩
  · subst c
    unfold U_X8_deeper_0 at hs
    obtain ⟨a0, g0, hs⟩ := s_bind hs
    obtain ⟨u9, ge, hs⟩ := s_bind hs
    rw [g_r_to g0, g_e_to ge]
    exact v_X8_deeper_0 hs k
  cases hs
theorem t_X8_deeper {G : sG} {d : Nat} {v0 : Nat} {σ : sS} {q : Int32 × sS} (h : F_X8_deeper v0 σ = some q) : s_T G (d + 1) M_X8_deeper [.ref v0] σ (e_I q) := by
  unfold F_X8_deeper at h
  obtain ⟨-, -, h⟩ := s_bind h
  exact s_ofV rfl (by decide) (Nat.le_of_ble_eq_true rfl) rfl rfl (s_run_ind (V := fun x r => s_V G (d + 1) M_X8_deeper [.ref v0] σ Y_X8_deeper x (e_I r)) (fun x z r hs hk => v_X8_deeper hs (by cases z <;> exact hk)) h)
/-! X8_counts -/
noncomputable def T_X8_counts_0 (v0 : Nat) (σ : sS) : Option (sZ Int32) :=
  (s_fi σ v0 8 12).bind fun x1 =>
  (s_pf σ v0 8 12 (.int (x1 + 1))).bind fun σ2 =>
  (s_fi σ2 v0 8 12).bind fun x3 =>
  if (40 : Int32) < x3 then (some (.inr (0, σ2)))
  else (some (.inr (1, σ2)))
noncomputable def U_X8_counts_0 (vs : List Value) (σ : sS) : Option (sZ Int32) := (g_r vs).bind fun a0 => (g_e a0.2).bind fun _ => T_X8_counts_0 a0.1 σ
noncomputable def S_X8_counts (x : sL) : Option (sZ Int32) := if x.1 = 0 then U_X8_counts_0 x.2.1 x.2.2 else none
def Y_X8_counts (pc : Nat) : List Nat := if pc = 0 then [0] else []
noncomputable def F_X8_counts (v0 : Nat) (σ : sS) : Option (Int32 × sS) := (s_is σ v0 8).bind fun _ => s_run S_X8_counts (0, [.ref v0], σ)
theorem l_X8_counts_0 {v0 : Nat} {σ : sS} {z : sZ Int32} (hf : T_X8_counts_0 v0 σ = some z) : s_lz σ z := by
  unfold T_X8_counts_0 at hf
  obtain ⟨x1, -, hf⟩ := s_bind hf
  obtain ⟨σ2, hh, hf⟩ := s_bind hf
  refine s_lz.tr (s_le2 (s_pf_2 hh)) ?_
  obtain ⟨x3, -, hf⟩ := s_bind hf
  rcases s_ite hf with ⟨-, hf⟩ | ⟨-, hf⟩
  · cases hf
    exact s_le.rf
  · cases hf
    exact s_le.rf
theorem l_X8_counts_s {x : sL} {z : sZ Int32} (hs : S_X8_counts x = some z) : s_lz x.2.2 z := by
  obtain ⟨pc, vs, σ⟩ := x
  unfold S_X8_counts at hs
  dsimp only at hs ⊢
  rcases s_ite hs with ⟨c, hs⟩ | ⟨-, hs⟩
  · subst c
    unfold U_X8_counts_0 at hs
    obtain ⟨a0, g0, hs⟩ := s_bind hs
    obtain ⟨u9, ge, hs⟩ := s_bind hs
    exact l_X8_counts_0 hs
  cases hs
theorem l_X8_counts {v0 : Nat} {σ : sS} {q : Int32 × sS} (h : F_X8_counts v0 σ = some q) : s_le σ q.2 := by
  unfold F_X8_counts at h
  obtain ⟨-, -, h⟩ := s_bind h
  exact s_run_ind (V := fun x r => s_le x.2.2 r.2) (fun x z r hs hk => by
    have h9 := l_X8_counts_s hs
    cases z with
    | inl y => exact s_le.tr h9 hk
    | inr q => cases hk; exact h9) h
theorem b_X8_counts {v0 : Nat} {σ : sS} {q : Int32 × sS} (h : F_X8_counts v0 σ = some q) : ∃ fs, σ.1 v0 = some (.inr (8, fs)) := by
  unfold F_X8_counts at h
  obtain ⟨u, hu, -⟩ := s_bind h
  exact s_is_to hu
set_option maxRecDepth 100000 in
set_option maxHeartbeats 4000000 in
theorem v_X8_counts_0 {G : sG} {d : Nat} {vs0 : List Value} {σ0 : sS} {v0 : Nat} {σ : sS} {z : sZ Int32} {r : Int32 × sS} (hf : T_X8_counts_0 v0 σ = some z) (k : s_K G (d + 1) M_X8_counts vs0 σ0 Y_X8_counts e_I z r) : s_V G (d + 1) M_X8_counts vs0 σ0 Y_X8_counts (0, [.ref v0], σ) (e_I r) := by
  have le0 : s_le σ (e_I r).2 := s_lek hem_I (l_X8_counts_0 hf) k
  refine ⟨le0, ?_⟩
  intro p e s m below meth c H locs cells slots ls X I hn1 hn2 hl
  have hn : cells + σ0.2.1 ≤ σ.2.1 ∧ slots + σ0.2.2.1 ≤ σ.2.2.1 := ⟨hn1, hn2⟩
  have hl : lv_has ls 1 [(0, .ref v0)] := hl
  have hx := X.1
  have hb : c.code = cX8_counts := X.2.1
  have hown : s.vm.findClass RX8 = some m.cls := X.2.2.2.2.2.1
  have hts := X.2.2.2.2.2.2.1
  refine W.eq (g2 := F0 m 0 ls []) rfl ?_
  unfold T_X8_counts_0 at hf
  obtain ⟨x1, h1, hf⟩ := s_bind hf
  obtain ⟨σ2, h2, hf⟩ := s_bind hf
  obtain ⟨x3, h3, hf⟩ := s_bind hf
  have le4 : s_le σ2 (e_I r).2 := by
    refine s_lek hem_I ?_ k
    rcases s_ite hf with ⟨-, hf⟩ | ⟨-, hf⟩
    · cases hf
      exact s_le.rf
    · cases hf
      exact s_le.rf
  refine lv_aload_n hx hb dX8_counts_0 rfl (lv_at hl 0 rfl) ?_
  refine lv_dup hx hb dX8_counts_1 rfl ?_
  refine r_gi X I fl_X8_172 h1 dX8_counts_2 ?_
  refine lv_iconst (v := 1) hx hb dX8_counts_5 (by decide) ?_
  refine lv_iadd hx hb dX8_counts_6 ?_
  refine r_put X I fp_X8_172 (fun h => by cases h) h2 rfl rfl dX8_counts_7 (fun H locs I => ?_)
  have hn := s_k2 (s_pf_2 h2) hn
  refine lv_aload_n hx hb dX8_counts_10 rfl (lv_at hl 0 rfl) ?_
  refine r_gi X I fl_X8_172 h3 dX8_counts_11 ?_
  refine lv_bipush (v := 40) hx hb dX8_counts_14 (by decide) ?_
  rcases s_ite hf with ⟨c5, hf⟩ | ⟨c5, hf⟩
  · refine lv_icmp_gt (tgt := 23) hx hb dX8_counts_16 (by decide) (fun _ => ?_) (fun n => absurd c5 n)
    cases hf
    have k : _ = r := k
    subst k
    refine lv_iconst (v := 0) hx hb dX8_counts_23 (by decide) ?_
    exact r_iret X I rfl rfl rfl hn dX8_counts_24
  · refine lv_icmp_gt (tgt := 23) hx hb dX8_counts_16 (by decide) (fun n => absurd n c5) (fun _ => ?_)
    cases hf
    have k : _ = r := k
    subst k
    refine lv_iconst (v := 1) hx hb dX8_counts_19 (by decide) ?_
    refine lv_goto (tgt := 24) hx hb dX8_counts_20 (by decide) ?_
    exact r_iret X I rfl rfl rfl hn dX8_counts_24
theorem v_X8_counts {G : sG} {d : Nat} {vs0 : List Value} {σ0 : sS} {x : sL} {z : sZ Int32} {r : Int32 × sS} (hs : S_X8_counts x = some z) (k : s_K G (d + 1) M_X8_counts vs0 σ0 Y_X8_counts e_I z r) : s_V G (d + 1) M_X8_counts vs0 σ0 Y_X8_counts x (e_I r) := by
  obtain ⟨pc, vs, σ⟩ := x
  unfold S_X8_counts at hs
  dsimp only at hs
  rcases s_ite hs with ⟨c, hs⟩ | ⟨-, hs⟩
  · subst c
    unfold U_X8_counts_0 at hs
    obtain ⟨a0, g0, hs⟩ := s_bind hs
    obtain ⟨u9, ge, hs⟩ := s_bind hs
    rw [g_r_to g0, g_e_to ge]
    exact v_X8_counts_0 hs k
  cases hs
theorem t_X8_counts {G : sG} {d : Nat} {v0 : Nat} {σ : sS} {q : Int32 × sS} (h : F_X8_counts v0 σ = some q) : s_T G (d + 1) M_X8_counts [.ref v0] σ (e_I q) := by
  unfold F_X8_counts at h
  obtain ⟨-, -, h⟩ := s_bind h
  exact s_ofV rfl (by decide) (Nat.le_of_ble_eq_true rfl) rfl rfl (s_run_ind (V := fun x r => s_V G (d + 1) M_X8_counts [.ref v0] σ Y_X8_counts x (e_I r)) (fun x z r hs hk => v_X8_counts hs (by cases z <;> exact hk)) h)
/-! X8_puts -/
noncomputable def T_X8_puts_0 (v0 : Nat) (v1 : Int32) (σ : sS) : Option (sZ Int32) :=
  (F_X8_counts v0 σ).bind fun q1 =>
  if q1.1 = 0 then (some (.inr (0, q1.2)))
  else ((s_fr q1.2 v0 8 5).bind fun x2 =>
  (s_fr q1.2 v0 8 4).bind fun x3 =>
  (s_ai q1.2 x3 70).bind fun x4 =>
  (s_si q1.2 x2 (2800 + x4) v1).bind fun σ5 =>
  (s_fr σ5 v0 8 4).bind fun x6 =>
  (s_ai σ5 x6 70).bind fun x7 =>
  (s_si σ5 x6 70 (x7 + 1)).bind fun σ8 =>
  some (.inr (1, σ8)))
noncomputable def U_X8_puts_0 (vs : List Value) (σ : sS) : Option (sZ Int32) := (g_r vs).bind fun a0 => (g_i a0.2).bind fun a1 => (g_e a1.2).bind fun _ => T_X8_puts_0 a0.1 a1.1 σ
noncomputable def S_X8_puts (x : sL) : Option (sZ Int32) := if x.1 = 0 then U_X8_puts_0 x.2.1 x.2.2 else none
def Y_X8_puts (pc : Nat) : List Nat := if pc = 0 then [0, 1] else []
noncomputable def F_X8_puts (v0 : Nat) (v1 : Int32) (σ : sS) : Option (Int32 × sS) := (s_is σ v0 8).bind fun _ => s_run S_X8_puts (0, [.ref v0, .int v1], σ)
theorem l_X8_puts_0 {v0 : Nat} {v1 : Int32} {σ : sS} {z : sZ Int32} (hf : T_X8_puts_0 v0 v1 σ = some z) : s_lz σ z := by
  unfold T_X8_puts_0 at hf
  obtain ⟨q1, hh, hf⟩ := s_bind hf
  refine s_lz.tr (l_X8_counts hh) ?_
  rcases s_ite hf with ⟨-, hf⟩ | ⟨-, hf⟩
  · cases hf
    exact s_le.rf
  · obtain ⟨x2, -, hf⟩ := s_bind hf
    obtain ⟨x3, -, hf⟩ := s_bind hf
    obtain ⟨x4, -, hf⟩ := s_bind hf
    obtain ⟨σ5, hh, hf⟩ := s_bind hf
    refine s_lz.tr (s_le2 (s_si_2 hh)) ?_
    obtain ⟨x6, -, hf⟩ := s_bind hf
    obtain ⟨x7, -, hf⟩ := s_bind hf
    obtain ⟨σ8, hh, hf⟩ := s_bind hf
    refine s_lz.tr (s_le2 (s_si_2 hh)) ?_
    cases hf
    exact s_le.rf
theorem l_X8_puts_s {x : sL} {z : sZ Int32} (hs : S_X8_puts x = some z) : s_lz x.2.2 z := by
  obtain ⟨pc, vs, σ⟩ := x
  unfold S_X8_puts at hs
  dsimp only at hs ⊢
  rcases s_ite hs with ⟨c, hs⟩ | ⟨-, hs⟩
  · subst c
    unfold U_X8_puts_0 at hs
    obtain ⟨a0, g0, hs⟩ := s_bind hs
    obtain ⟨a1, g1, hs⟩ := s_bind hs
    obtain ⟨u9, ge, hs⟩ := s_bind hs
    exact l_X8_puts_0 hs
  cases hs
theorem l_X8_puts {v0 : Nat} {v1 : Int32} {σ : sS} {q : Int32 × sS} (h : F_X8_puts v0 v1 σ = some q) : s_le σ q.2 := by
  unfold F_X8_puts at h
  obtain ⟨-, -, h⟩ := s_bind h
  exact s_run_ind (V := fun x r => s_le x.2.2 r.2) (fun x z r hs hk => by
    have h9 := l_X8_puts_s hs
    cases z with
    | inl y => exact s_le.tr h9 hk
    | inr q => cases hk; exact h9) h
theorem b_X8_puts {v0 : Nat} {v1 : Int32} {σ : sS} {q : Int32 × sS} (h : F_X8_puts v0 v1 σ = some q) : ∃ fs, σ.1 v0 = some (.inr (8, fs)) := by
  unfold F_X8_puts at h
  obtain ⟨u, hu, -⟩ := s_bind h
  exact s_is_to hu
set_option maxRecDepth 100000 in
set_option maxHeartbeats 4000000 in
theorem v_X8_puts_0 {G : sG} {d : Nat} {vs0 : List Value} {σ0 : sS} {v0 : Nat} {v1 : Int32} {σ : sS} {z : sZ Int32} {r : Int32 × sS} (hf : T_X8_puts_0 v0 v1 σ = some z) (k : s_K G (d + 2) M_X8_puts vs0 σ0 Y_X8_puts e_I z r) : s_V G (d + 2) M_X8_puts vs0 σ0 Y_X8_puts (0, [.ref v0, .int v1], σ) (e_I r) := by
  have le0 : s_le σ (e_I r).2 := s_lek hem_I (l_X8_puts_0 hf) k
  refine ⟨le0, ?_⟩
  intro p e s m below meth c H locs cells slots ls X I hn1 hn2 hl
  have hn : cells + σ0.2.1 ≤ σ.2.1 ∧ slots + σ0.2.2.1 ≤ σ.2.2.1 := ⟨hn1, hn2⟩
  have hl : lv_has ls 2 [(0, .ref v0), (1, .int v1)] := hl
  have hx := X.1
  have hb : c.code = cX8_puts := X.2.1
  have hown : s.vm.findClass RX8 = some m.cls := X.2.2.2.2.2.1
  have hts := X.2.2.2.2.2.2.1
  refine W.eq (g2 := F0 m 0 ls []) rfl ?_
  unfold T_X8_puts_0 at hf
  obtain ⟨q1, h1, hf⟩ := s_bind hf
  have le2 : s_le q1.2 (e_I r).2 := by
    refine s_lek hem_I ?_ k
    rcases s_ite hf with ⟨-, hf⟩ | ⟨-, hf⟩
    · cases hf
      exact s_le.rf
    · obtain ⟨x2, -, hf⟩ := s_bind hf
      obtain ⟨x3, -, hf⟩ := s_bind hf
      obtain ⟨x4, -, hf⟩ := s_bind hf
      obtain ⟨σ5, hh, hf⟩ := s_bind hf
      refine s_lz.tr (s_le2 (s_si_2 hh)) ?_
      obtain ⟨x6, -, hf⟩ := s_bind hf
      obtain ⟨x7, -, hf⟩ := s_bind hf
      obtain ⟨σ8, hh, hf⟩ := s_bind hf
      refine s_lz.tr (s_le2 (s_si_2 hh)) ?_
      cases hf
      exact s_le.rf
  refine lv_aload_n hx hb dX8_puts_0 rfl (lv_at hl 0 rfl) ?_
  refine r_callV (Y := M_X8_counts) (v := some (.int q1.1)) X I w_1869 my_X8_counts (by omega) (t_X8_counts (G := G) (d := d + 0) h1) (b_X8_counts h1) rfl rfl hl.1 rfl (Nat.le_of_ble_eq_true rfl) hn le2 dX8_puts_1 (fun H locs cells slots I hn1 hn2 => ?_)
  have I : s_I G q1.2 s H locs := I
  have hn : cells + σ0.2.1 ≤ q1.2.2.1 ∧ slots + σ0.2.2.1 ≤ q1.2.2.2.1 := ⟨hn1, hn2⟩
  rcases s_ite hf with ⟨c3, hf⟩ | ⟨c3, hf⟩
  · refine lv_if_ne (tgt := 9) hx hb dX8_puts_4 (by decide) (fun n => absurd c3 n) (fun _ => ?_)
    cases hf
    have k : _ = r := k
    subst k
    refine lv_iconst (v := 0) hx hb dX8_puts_7 (by decide) ?_
    exact r_iret X I rfl rfl rfl hn dX8_puts_8
  · refine lv_if_ne (tgt := 9) hx hb dX8_puts_4 (by decide) (fun _ => ?_) (fun n => absurd n c3)
    obtain ⟨x2, h4, hf⟩ := s_bind hf
    obtain ⟨x3, h5, hf⟩ := s_bind hf
    obtain ⟨x4, h6, hf⟩ := s_bind hf
    obtain ⟨σ5, h7, hf⟩ := s_bind hf
    obtain ⟨x6, h8, hf⟩ := s_bind hf
    obtain ⟨x7, h9, hf⟩ := s_bind hf
    obtain ⟨σ8, h10, hf⟩ := s_bind hf
    cases hf
    have k : _ = r := k
    subst k
    have le11 : s_le σ8 σ8 := s_le.rf
    have le12 := s_le.tr (s_le2 (s_si_2 h10)) le11
    refine lv_aload_n hx hb dX8_puts_9 rfl (lv_at hl 0 rfl) ?_
    refine r_gr X I fl_X8_23 h4 dX8_puts_10 ?_
    refine lv_sipush (v := 2800) hx hb dX8_puts_13 (by decide) ?_
    refine lv_aload_n hx hb dX8_puts_16 rfl (lv_at hl 0 rfl) ?_
    refine r_gr X I fl_X8_20 h5 dX8_puts_17 ?_
    refine lv_bipush (v := 70) hx hb dX8_puts_20 (by decide) ?_
    refine r_iald X I h6 dX8_puts_22 ?_
    refine lv_iadd hx hb dX8_puts_23 ?_
    refine lv_iload_n hx hb dX8_puts_24 rfl (lv_at hl 1 rfl) ?_
    refine r_iast X I h7 dX8_puts_25 (fun H locs I => ?_)
    have hn := s_k2 (s_si_2 h7) hn
    refine lv_aload_n hx hb dX8_puts_26 rfl (lv_at hl 0 rfl) ?_
    refine r_gr X I fl_X8_20 h8 dX8_puts_27 ?_
    refine lv_bipush (v := 70) hx hb dX8_puts_30 (by decide) ?_
    refine lv_dup2_11 hx hb dX8_puts_32 rfl rfl ?_
    refine r_iald X I h9 dX8_puts_33 ?_
    refine lv_iconst (v := 1) hx hb dX8_puts_34 (by decide) ?_
    refine lv_iadd hx hb dX8_puts_35 ?_
    refine r_iast X I h10 dX8_puts_36 (fun H locs I => ?_)
    have hn := s_k2 (s_si_2 h10) hn
    refine lv_iconst (v := 1) hx hb dX8_puts_37 (by decide) ?_
    exact r_iret X I rfl rfl rfl hn dX8_puts_38
theorem v_X8_puts {G : sG} {d : Nat} {vs0 : List Value} {σ0 : sS} {x : sL} {z : sZ Int32} {r : Int32 × sS} (hs : S_X8_puts x = some z) (k : s_K G (d + 2) M_X8_puts vs0 σ0 Y_X8_puts e_I z r) : s_V G (d + 2) M_X8_puts vs0 σ0 Y_X8_puts x (e_I r) := by
  obtain ⟨pc, vs, σ⟩ := x
  unfold S_X8_puts at hs
  dsimp only at hs
  rcases s_ite hs with ⟨c, hs⟩ | ⟨-, hs⟩
  · subst c
    unfold U_X8_puts_0 at hs
    obtain ⟨a0, g0, hs⟩ := s_bind hs
    obtain ⟨a1, g1, hs⟩ := s_bind hs
    obtain ⟨u9, ge, hs⟩ := s_bind hs
    rw [g_r_to g0, g_i_to g1, g_e_to ge]
    exact v_X8_puts_0 hs k
  cases hs
theorem t_X8_puts {G : sG} {d : Nat} {v0 : Nat} {v1 : Int32} {σ : sS} {q : Int32 × sS} (h : F_X8_puts v0 v1 σ = some q) : s_T G (d + 2) M_X8_puts [.ref v0, .int v1] σ (e_I q) := by
  unfold F_X8_puts at h
  obtain ⟨-, -, h⟩ := s_bind h
  exact s_ofV rfl (by decide) (Nat.le_of_ble_eq_true rfl) rfl rfl (s_run_ind (V := fun x r => s_V G (d + 2) M_X8_puts [.ref v0, .int v1] σ Y_X8_puts x (e_I r)) (fun x z r hs hk => v_X8_puts hs (by cases z <;> exact hk)) h)
/-! X8_letters -/
noncomputable def T_X8_letters_0 (v0 : Nat) (σ : sS) : Option (sZ Unit) :=
  (F_X8_blanks v0 σ).bind fun q1 =>
  some (.inl (4, [.ref v0], q1.2))
noncomputable def U_X8_letters_0 (vs : List Value) (σ : sS) : Option (sZ Unit) := (g_r vs).bind fun a0 => (g_e a0.2).bind fun _ => T_X8_letters_0 a0.1 σ
noncomputable def T_X8_letters_4 (v0 : Nat) (σ : sS) : Option (sZ Unit) :=
  (F_X8_isAt v0 97 122 σ).bind fun q1 =>
  if q1.1 = 0 then (some (.inr ((), q1.2)))
  else ((s_fi q1.2 v0 8 8).bind fun x2 =>
  (s_pf q1.2 v0 8 8 (.int (x2 + 1))).bind fun σ3 =>
  some (.inl (4, [.ref v0], σ3)))
noncomputable def U_X8_letters_4 (vs : List Value) (σ : sS) : Option (sZ Unit) := (g_r vs).bind fun a0 => (g_e a0.2).bind fun _ => T_X8_letters_4 a0.1 σ
noncomputable def S_X8_letters (x : sL) : Option (sZ Unit) := if x.1 = 0 then U_X8_letters_0 x.2.1 x.2.2 else if x.1 = 4 then U_X8_letters_4 x.2.1 x.2.2 else none
def Y_X8_letters (pc : Nat) : List Nat := if pc = 0 then [0] else if pc = 4 then [0] else []
noncomputable def F_X8_letters (v0 : Nat) (σ : sS) : Option (Unit × sS) := (s_is σ v0 8).bind fun _ => s_run S_X8_letters (0, [.ref v0], σ)
theorem l_X8_letters_0 {v0 : Nat} {σ : sS} {z : sZ Unit} (hf : T_X8_letters_0 v0 σ = some z) : s_lz σ z := by
  unfold T_X8_letters_0 at hf
  obtain ⟨q1, hh, hf⟩ := s_bind hf
  refine s_lz.tr (l_X8_blanks hh) ?_
  cases hf
  exact s_le.rf
theorem l_X8_letters_4 {v0 : Nat} {σ : sS} {z : sZ Unit} (hf : T_X8_letters_4 v0 σ = some z) : s_lz σ z := by
  unfold T_X8_letters_4 at hf
  obtain ⟨q1, hh, hf⟩ := s_bind hf
  refine s_lz.tr (l_X8_isAt hh) ?_
  rcases s_ite hf with ⟨-, hf⟩ | ⟨-, hf⟩
  · cases hf
    exact s_le.rf
  · obtain ⟨x2, -, hf⟩ := s_bind hf
    obtain ⟨σ3, hh, hf⟩ := s_bind hf
    refine s_lz.tr (s_le2 (s_pf_2 hh)) ?_
    cases hf
    exact s_le.rf
theorem l_X8_letters_s {x : sL} {z : sZ Unit} (hs : S_X8_letters x = some z) : s_lz x.2.2 z := by
  obtain ⟨pc, vs, σ⟩ := x
  unfold S_X8_letters at hs
  dsimp only at hs ⊢
  rcases s_ite hs with ⟨c, hs⟩ | ⟨-, hs⟩
  · subst c
    unfold U_X8_letters_0 at hs
    obtain ⟨a0, g0, hs⟩ := s_bind hs
    obtain ⟨u9, ge, hs⟩ := s_bind hs
    exact l_X8_letters_0 hs
  rcases s_ite hs with ⟨c, hs⟩ | ⟨-, hs⟩
  · subst c
    unfold U_X8_letters_4 at hs
    obtain ⟨a0, g0, hs⟩ := s_bind hs
    obtain ⟨u9, ge, hs⟩ := s_bind hs
    exact l_X8_letters_4 hs
  cases hs
theorem l_X8_letters {v0 : Nat} {σ : sS} {q : Unit × sS} (h : F_X8_letters v0 σ = some q) : s_le σ q.2 := by
  unfold F_X8_letters at h
  obtain ⟨-, -, h⟩ := s_bind h
  exact s_run_ind (V := fun x r => s_le x.2.2 r.2) (fun x z r hs hk => by
    have h9 := l_X8_letters_s hs
    cases z with
    | inl y => exact s_le.tr h9 hk
    | inr q => cases hk; exact h9) h
theorem b_X8_letters {v0 : Nat} {σ : sS} {q : Unit × sS} (h : F_X8_letters v0 σ = some q) : ∃ fs, σ.1 v0 = some (.inr (8, fs)) := by
  unfold F_X8_letters at h
  obtain ⟨u, hu, -⟩ := s_bind h
  exact s_is_to hu
set_option maxRecDepth 100000 in
set_option maxHeartbeats 4000000 in
theorem v_X8_letters_0 {G : sG} {d : Nat} {vs0 : List Value} {σ0 : sS} {v0 : Nat} {σ : sS} {z : sZ Unit} {r : Unit × sS} (hf : T_X8_letters_0 v0 σ = some z) (k : s_K G (d + 3) M_X8_letters vs0 σ0 Y_X8_letters e_V z r) : s_V G (d + 3) M_X8_letters vs0 σ0 Y_X8_letters (0, [.ref v0], σ) (e_V r) := by
  have le0 : s_le σ (e_V r).2 := s_lek hem_V (l_X8_letters_0 hf) k
  refine ⟨le0, ?_⟩
  intro p e s m below meth c H locs cells slots ls X I hn1 hn2 hl
  have hn : cells + σ0.2.1 ≤ σ.2.1 ∧ slots + σ0.2.2.1 ≤ σ.2.2.1 := ⟨hn1, hn2⟩
  have hl : lv_has ls 1 [(0, .ref v0)] := hl
  have hx := X.1
  have hb : c.code = cX8_letters := X.2.1
  have hown : s.vm.findClass RX8 = some m.cls := X.2.2.2.2.2.1
  have hts := X.2.2.2.2.2.2.1
  refine W.eq (g2 := F0 m 0 ls []) rfl ?_
  unfold T_X8_letters_0 at hf
  obtain ⟨q1, h1, hf⟩ := s_bind hf
  cases hf
  have k : s_V G (d + 3) M_X8_letters vs0 σ0 Y_X8_letters (4, [.ref v0], q1.2) (e_V r) := k
  have le2 : s_le q1.2 (e_V r).2 := k.1
  refine lv_aload_n hx hb dX8_letters_0 rfl (lv_at hl 0 rfl) ?_
  refine r_callV (Y := M_X8_blanks) (v := none) X I w_1853 my_X8_blanks (by omega) (t_X8_blanks (G := G) (d := d + 0) h1) (b_X8_blanks h1) rfl rfl hl.1 rfl (Nat.le_of_ble_eq_true rfl) hn le2 dX8_letters_1 (fun H locs cells slots I hn1 hn2 => ?_)
  have I : s_I G q1.2 s H locs := I
  have hn : cells + σ0.2.1 ≤ q1.2.2.1 ∧ slots + σ0.2.2.1 ≤ q1.2.2.2.1 := ⟨hn1, hn2⟩
  exact k.2 p e s m below meth c _ _ _ _ _ X I hn.1 hn.2 (lv_sub hl [0] rfl)
set_option maxRecDepth 100000 in
set_option maxHeartbeats 4000000 in
theorem v_X8_letters_4 {G : sG} {d : Nat} {vs0 : List Value} {σ0 : sS} {v0 : Nat} {σ : sS} {z : sZ Unit} {r : Unit × sS} (hf : T_X8_letters_4 v0 σ = some z) (k : s_K G (d + 3) M_X8_letters vs0 σ0 Y_X8_letters e_V z r) : s_V G (d + 3) M_X8_letters vs0 σ0 Y_X8_letters (4, [.ref v0], σ) (e_V r) := by
  have le0 : s_le σ (e_V r).2 := s_lek hem_V (l_X8_letters_4 hf) k
  refine ⟨le0, ?_⟩
  intro p e s m below meth c H locs cells slots ls X I hn1 hn2 hl
  have hn : cells + σ0.2.1 ≤ σ.2.1 ∧ slots + σ0.2.2.1 ≤ σ.2.2.1 := ⟨hn1, hn2⟩
  have hl : lv_has ls 1 [(0, .ref v0)] := hl
  have hx := X.1
  have hb : c.code = cX8_letters := X.2.1
  have hown : s.vm.findClass RX8 = some m.cls := X.2.2.2.2.2.1
  have hts := X.2.2.2.2.2.2.1
  refine W.eq (g2 := F0 m 4 ls []) rfl ?_
  unfold T_X8_letters_4 at hf
  obtain ⟨q1, h1, hf⟩ := s_bind hf
  have le2 : s_le q1.2 (e_V r).2 := by
    refine s_lek hem_V ?_ k
    rcases s_ite hf with ⟨-, hf⟩ | ⟨-, hf⟩
    · cases hf
      exact s_le.rf
    · obtain ⟨x2, -, hf⟩ := s_bind hf
      obtain ⟨σ3, hh, hf⟩ := s_bind hf
      refine s_lz.tr (s_le2 (s_pf_2 hh)) ?_
      cases hf
      exact s_le.rf
  refine lv_aload_n hx hb dX8_letters_4 rfl (lv_at hl 0 rfl) ?_
  refine lv_bipush (v := 97) hx hb dX8_letters_5 (by decide) ?_
  refine lv_bipush (v := 122) hx hb dX8_letters_7 (by decide) ?_
  refine r_callV (Y := M_X8_isAt) (v := some (.int q1.1)) X I w_1857 my_X8_isAt (by omega) (t_X8_isAt (G := G) (d := d + 1) h1) (b_X8_isAt h1) rfl rfl hl.1 rfl (Nat.le_of_ble_eq_true rfl) hn le2 dX8_letters_9 (fun H locs cells slots I hn1 hn2 => ?_)
  have I : s_I G q1.2 s H locs := I
  have hn : cells + σ0.2.1 ≤ q1.2.2.1 ∧ slots + σ0.2.2.1 ≤ q1.2.2.2.1 := ⟨hn1, hn2⟩
  rcases s_ite hf with ⟨c3, hf⟩ | ⟨c3, hf⟩
  · refine lv_if_eq (tgt := 28) hx hb dX8_letters_12 (by decide) (fun _ => ?_) (fun n => absurd c3 n)
    cases hf
    have k : _ = r := k
    subst k
    exact r_vret X I rfl rfl hn dX8_letters_28
  · refine lv_if_eq (tgt := 28) hx hb dX8_letters_12 (by decide) (fun n => absurd n c3) (fun _ => ?_)
    obtain ⟨x2, h4, hf⟩ := s_bind hf
    obtain ⟨σ3, h5, hf⟩ := s_bind hf
    cases hf
    have k : s_V G (d + 3) M_X8_letters vs0 σ0 Y_X8_letters (4, [.ref v0], σ3) (e_V r) := k
    have le6 : s_le σ3 (e_V r).2 := k.1
    refine lv_aload_n hx hb dX8_letters_15 rfl (lv_at hl 0 rfl) ?_
    refine lv_dup hx hb dX8_letters_16 rfl ?_
    refine r_gi X I fl_X8_148 h4 dX8_letters_17 ?_
    refine lv_iconst (v := 1) hx hb dX8_letters_20 (by decide) ?_
    refine lv_iadd hx hb dX8_letters_21 ?_
    refine r_put X I fp_X8_148 (fun h => by cases h) h5 rfl rfl dX8_letters_22 (fun H locs I => ?_)
    have hn := s_k2 (s_pf_2 h5) hn
    refine lv_goto (tgt := 4) hx hb dX8_letters_25 (by decide) ?_
    exact k.2 p e s m below meth c _ _ _ _ _ X I hn.1 hn.2 (lv_sub hl [0] rfl)
theorem v_X8_letters {G : sG} {d : Nat} {vs0 : List Value} {σ0 : sS} {x : sL} {z : sZ Unit} {r : Unit × sS} (hs : S_X8_letters x = some z) (k : s_K G (d + 3) M_X8_letters vs0 σ0 Y_X8_letters e_V z r) : s_V G (d + 3) M_X8_letters vs0 σ0 Y_X8_letters x (e_V r) := by
  obtain ⟨pc, vs, σ⟩ := x
  unfold S_X8_letters at hs
  dsimp only at hs
  rcases s_ite hs with ⟨c, hs⟩ | ⟨-, hs⟩
  · subst c
    unfold U_X8_letters_0 at hs
    obtain ⟨a0, g0, hs⟩ := s_bind hs
    obtain ⟨u9, ge, hs⟩ := s_bind hs
    rw [g_r_to g0, g_e_to ge]
    exact v_X8_letters_0 hs k
  rcases s_ite hs with ⟨c, hs⟩ | ⟨-, hs⟩
  · subst c
    unfold U_X8_letters_4 at hs
    obtain ⟨a0, g0, hs⟩ := s_bind hs
    obtain ⟨u9, ge, hs⟩ := s_bind hs
    rw [g_r_to g0, g_e_to ge]
    exact v_X8_letters_4 hs k
  cases hs
theorem t_X8_letters {G : sG} {d : Nat} {v0 : Nat} {σ : sS} {q : Unit × sS} (h : F_X8_letters v0 σ = some q) : s_T G (d + 3) M_X8_letters [.ref v0] σ (e_V q) := by
  unfold F_X8_letters at h
  obtain ⟨-, -, h⟩ := s_bind h
  exact s_ofV rfl (by decide) (Nat.le_of_ble_eq_true rfl) rfl rfl (s_run_ind (V := fun x r => s_V G (d + 3) M_X8_letters [.ref v0] σ Y_X8_letters x (e_V r)) (fun x z r hs hk => v_X8_letters hs (by cases z <;> exact hk)) h)
/-! X8_isWord -/
noncomputable def T_X8_isWord_0 (v0 : Nat) (v1 : Nat) (σ : sS) : Option (sZ Int32) :=
  (s_fi σ v0 8 8).bind fun x1 =>
  (s_fi σ v0 8 10).bind fun x2 =>
  (F_J0_length_8abf5 v1 σ).bind fun q3 =>
  if (x1 - x2) = q3.1 then (some (.inl (21, [.ref v0, .ref v1, .int 1], q3.2)))
  else (some (.inl (21, [.ref v0, .ref v1, .int 0], q3.2)))
noncomputable def U_X8_isWord_0 (vs : List Value) (σ : sS) : Option (sZ Int32) := (g_r vs).bind fun a0 => (g_r a0.2).bind fun a1 => (g_e a1.2).bind fun _ => T_X8_isWord_0 a0.1 a1.1 σ
noncomputable def T_X8_isWord_21 (v0 : Nat) (v1 : Nat) (w0 : Int32) (σ : sS) : Option (sZ Int32) :=
  some (.inl (24, [.ref v0, .ref v1, .int w0, .int 0], σ))
noncomputable def U_X8_isWord_21 (vs : List Value) (σ : sS) : Option (sZ Int32) := (g_r vs).bind fun a0 => (g_r a0.2).bind fun a1 => (g_i a1.2).bind fun a2 => (g_e a2.2).bind fun _ => T_X8_isWord_21 a0.1 a1.1 a2.1 σ
noncomputable def T_X8_isWord_24 (v0 : Nat) (v1 : Nat) (v2 : Int32) (v3 : Int32) (σ : sS) : Option (sZ Int32) :=
  if v2 = 0 then (if (v2 = 0 ∨ v2 = 1) then (some (.inr (v2, σ))) else none)
  else ((F_J0_length_8abf5 v1 σ).bind fun q1 =>
  if q1.1 ≤ v3 then (if (v2 = 0 ∨ v2 = 1) then (some (.inr (v2, q1.2))) else none)
  else ((s_fr q1.2 v0 8 6).bind fun x2 =>
  (s_fi q1.2 v0 8 10).bind fun x3 =>
  (s_ab q1.2 x2 (x3 + v3)).bind fun x4 =>
  (F_J0_charAt_5068e v1 v3 q1.2).bind fun q5 =>
  if x4 = q5.1 then (some (.inl (60, [.ref v0, .ref v1, .int v3, .int 1], q5.2)))
  else (some (.inl (60, [.ref v0, .ref v1, .int v3, .int 0], q5.2)))))
noncomputable def U_X8_isWord_24 (vs : List Value) (σ : sS) : Option (sZ Int32) := (g_r vs).bind fun a0 => (g_r a0.2).bind fun a1 => (g_i a1.2).bind fun a2 => (g_i a2.2).bind fun a3 => (g_e a3.2).bind fun _ => T_X8_isWord_24 a0.1 a1.1 a2.1 a3.1 σ
noncomputable def T_X8_isWord_60 (v0 : Nat) (v1 : Nat) (v3 : Int32) (w0 : Int32) (σ : sS) : Option (sZ Int32) :=
  some (.inl (24, [.ref v0, .ref v1, .int w0, .int (v3 + 1)], σ))
noncomputable def U_X8_isWord_60 (vs : List Value) (σ : sS) : Option (sZ Int32) := (g_r vs).bind fun a0 => (g_r a0.2).bind fun a1 => (g_i a1.2).bind fun a2 => (g_i a2.2).bind fun a3 => (g_e a3.2).bind fun _ => T_X8_isWord_60 a0.1 a1.1 a2.1 a3.1 σ
noncomputable def S_X8_isWord (x : sL) : Option (sZ Int32) := if x.1 = 0 then U_X8_isWord_0 x.2.1 x.2.2 else if x.1 = 21 then U_X8_isWord_21 x.2.1 x.2.2 else if x.1 = 24 then U_X8_isWord_24 x.2.1 x.2.2 else if x.1 = 60 then U_X8_isWord_60 x.2.1 x.2.2 else none
def Y_X8_isWord (pc : Nat) : List Nat := if pc = 0 then [0, 1] else if pc = 21 then [0, 1] else if pc = 24 then [0, 1, 2, 3] else if pc = 60 then [0, 1, 3] else []
noncomputable def F_X8_isWord (v0 : Nat) (v1 : Nat) (σ : sS) : Option (Int32 × sS) := (s_is σ v0 8).bind fun _ => s_run S_X8_isWord (0, [.ref v0, .ref v1], σ)
theorem l_X8_isWord_0 {v0 : Nat} {v1 : Nat} {σ : sS} {z : sZ Int32} (hf : T_X8_isWord_0 v0 v1 σ = some z) : s_lz σ z := by
  unfold T_X8_isWord_0 at hf
  obtain ⟨x1, -, hf⟩ := s_bind hf
  obtain ⟨x2, -, hf⟩ := s_bind hf
  obtain ⟨q3, hh, hf⟩ := s_bind hf
  refine s_lz.tr (l_J0_length_8abf5 hh) ?_
  rcases s_ite hf with ⟨-, hf⟩ | ⟨-, hf⟩
  · cases hf
    exact s_le.rf
  · cases hf
    exact s_le.rf
theorem l_X8_isWord_21 {v0 : Nat} {v1 : Nat} {w0 : Int32} {σ : sS} {z : sZ Int32} (hf : T_X8_isWord_21 v0 v1 w0 σ = some z) : s_lz σ z := by
  unfold T_X8_isWord_21 at hf
  cases hf
  exact s_le.rf
theorem l_X8_isWord_24 {v0 : Nat} {v1 : Nat} {v2 : Int32} {v3 : Int32} {σ : sS} {z : sZ Int32} (hf : T_X8_isWord_24 v0 v1 v2 v3 σ = some z) : s_lz σ z := by
  unfold T_X8_isWord_24 at hf
  rcases s_ite hf with ⟨-, hf⟩ | ⟨-, hf⟩
  · rcases s_ite hf with ⟨-, hf⟩ | ⟨-, hf⟩
    · cases hf
      exact s_le.rf
    · cases hf
  · obtain ⟨q1, hh, hf⟩ := s_bind hf
    refine s_lz.tr (l_J0_length_8abf5 hh) ?_
    rcases s_ite hf with ⟨-, hf⟩ | ⟨-, hf⟩
    · rcases s_ite hf with ⟨-, hf⟩ | ⟨-, hf⟩
      · cases hf
        exact s_le.rf
      · cases hf
    · obtain ⟨x2, -, hf⟩ := s_bind hf
      obtain ⟨x3, -, hf⟩ := s_bind hf
      obtain ⟨x4, -, hf⟩ := s_bind hf
      obtain ⟨q5, hh, hf⟩ := s_bind hf
      refine s_lz.tr (l_J0_charAt_5068e hh) ?_
      rcases s_ite hf with ⟨-, hf⟩ | ⟨-, hf⟩
      · cases hf
        exact s_le.rf
      · cases hf
        exact s_le.rf
theorem l_X8_isWord_60 {v0 : Nat} {v1 : Nat} {v3 : Int32} {w0 : Int32} {σ : sS} {z : sZ Int32} (hf : T_X8_isWord_60 v0 v1 v3 w0 σ = some z) : s_lz σ z := by
  unfold T_X8_isWord_60 at hf
  cases hf
  exact s_le.rf
theorem l_X8_isWord_s {x : sL} {z : sZ Int32} (hs : S_X8_isWord x = some z) : s_lz x.2.2 z := by
  obtain ⟨pc, vs, σ⟩ := x
  unfold S_X8_isWord at hs
  dsimp only at hs ⊢
  rcases s_ite hs with ⟨c, hs⟩ | ⟨-, hs⟩
  · subst c
    unfold U_X8_isWord_0 at hs
    obtain ⟨a0, g0, hs⟩ := s_bind hs
    obtain ⟨a1, g1, hs⟩ := s_bind hs
    obtain ⟨u9, ge, hs⟩ := s_bind hs
    exact l_X8_isWord_0 hs
  rcases s_ite hs with ⟨c, hs⟩ | ⟨-, hs⟩
  · subst c
    unfold U_X8_isWord_21 at hs
    obtain ⟨a0, g0, hs⟩ := s_bind hs
    obtain ⟨a1, g1, hs⟩ := s_bind hs
    obtain ⟨a2, g2, hs⟩ := s_bind hs
    obtain ⟨u9, ge, hs⟩ := s_bind hs
    exact l_X8_isWord_21 hs
  rcases s_ite hs with ⟨c, hs⟩ | ⟨-, hs⟩
  · subst c
    unfold U_X8_isWord_24 at hs
    obtain ⟨a0, g0, hs⟩ := s_bind hs
    obtain ⟨a1, g1, hs⟩ := s_bind hs
    obtain ⟨a2, g2, hs⟩ := s_bind hs
    obtain ⟨a3, g3, hs⟩ := s_bind hs
    obtain ⟨u9, ge, hs⟩ := s_bind hs
    exact l_X8_isWord_24 hs
  rcases s_ite hs with ⟨c, hs⟩ | ⟨-, hs⟩
  · subst c
    unfold U_X8_isWord_60 at hs
    obtain ⟨a0, g0, hs⟩ := s_bind hs
    obtain ⟨a1, g1, hs⟩ := s_bind hs
    obtain ⟨a2, g2, hs⟩ := s_bind hs
    obtain ⟨a3, g3, hs⟩ := s_bind hs
    obtain ⟨u9, ge, hs⟩ := s_bind hs
    exact l_X8_isWord_60 hs
  cases hs
theorem l_X8_isWord {v0 : Nat} {v1 : Nat} {σ : sS} {q : Int32 × sS} (h : F_X8_isWord v0 v1 σ = some q) : s_le σ q.2 := by
  unfold F_X8_isWord at h
  obtain ⟨-, -, h⟩ := s_bind h
  exact s_run_ind (V := fun x r => s_le x.2.2 r.2) (fun x z r hs hk => by
    have h9 := l_X8_isWord_s hs
    cases z with
    | inl y => exact s_le.tr h9 hk
    | inr q => cases hk; exact h9) h
theorem b_X8_isWord {v0 : Nat} {v1 : Nat} {σ : sS} {q : Int32 × sS} (h : F_X8_isWord v0 v1 σ = some q) : ∃ fs, σ.1 v0 = some (.inr (8, fs)) := by
  unfold F_X8_isWord at h
  obtain ⟨u, hu, -⟩ := s_bind h
  exact s_is_to hu
set_option maxRecDepth 100000 in
set_option maxHeartbeats 4000000 in
theorem v_X8_isWord_0 {G : sG} {d : Nat} {vs0 : List Value} {σ0 : sS} {v0 : Nat} {v1 : Nat} {σ : sS} {z : sZ Int32} {r : Int32 × sS} (hf : T_X8_isWord_0 v0 v1 σ = some z) (k : s_K G (d + 6) M_X8_isWord vs0 σ0 Y_X8_isWord e_I z r) : s_V G (d + 6) M_X8_isWord vs0 σ0 Y_X8_isWord (0, [.ref v0, .ref v1], σ) (e_I r) := by
  have le0 : s_le σ (e_I r).2 := s_lek hem_I (l_X8_isWord_0 hf) k
  refine ⟨le0, ?_⟩
  intro p e s m below meth c H locs cells slots ls X I hn1 hn2 hl
  have hn : cells + σ0.2.1 ≤ σ.2.1 ∧ slots + σ0.2.2.1 ≤ σ.2.2.1 := ⟨hn1, hn2⟩
  have hl : lv_has ls 4 [(0, .ref v0), (1, .ref v1)] := hl
  have hx := X.1
  have hb : c.code = cX8_isWord := X.2.1
  have hown : s.vm.findClass RX8 = some m.cls := X.2.2.2.2.2.1
  have hts := X.2.2.2.2.2.2.1
  refine W.eq (g2 := F0 m 0 ls []) rfl ?_
  unfold T_X8_isWord_0 at hf
  obtain ⟨x1, h1, hf⟩ := s_bind hf
  obtain ⟨x2, h2, hf⟩ := s_bind hf
  obtain ⟨q3, h3, hf⟩ := s_bind hf
  have le4 : s_le q3.2 (e_I r).2 := by
    refine s_lek hem_I ?_ k
    rcases s_ite hf with ⟨-, hf⟩ | ⟨-, hf⟩
    · cases hf
      exact s_le.rf
    · cases hf
      exact s_le.rf
  refine lv_aload_n hx hb dX8_isWord_0 rfl (lv_at hl 0 rfl) ?_
  refine r_gi X I fl_X8_148 h1 dX8_isWord_1 ?_
  refine lv_aload_n hx hb dX8_isWord_4 rfl (lv_at hl 0 rfl) ?_
  refine r_gi X I fl_X8_158 h2 dX8_isWord_5 ?_
  refine lv_isub hx hb dX8_isWord_8 ?_
  refine lv_aload_n hx hb dX8_isWord_9 rfl (lv_at hl 1 rfl) ?_
  refine r_callVs (Y := M_J0_length_8abf5) (v := some (.int q3.1)) X I w_1882 my_J0_length_8abf5 (by omega) (t_J0_length_8abf5 (G := G) (d := d + 3) h3) (b_J0_length_8abf5 h3) rfl rfl hl.1 rfl (Nat.le_of_ble_eq_true rfl) hn le4 dX8_isWord_10 (fun H locs cells slots I hn1 hn2 => ?_)
  have I : s_I G q3.2 s H locs := I
  have hn : cells + σ0.2.1 ≤ q3.2.2.1 ∧ slots + σ0.2.2.1 ≤ q3.2.2.2.1 := ⟨hn1, hn2⟩
  rcases s_ite hf with ⟨c5, hf⟩ | ⟨c5, hf⟩
  · refine lv_icmp_ne (tgt := 20) hx hb dX8_isWord_13 (by decide) (fun n => absurd c5 n) (fun _ => ?_)
    cases hf
    have k : s_V G (d + 6) M_X8_isWord vs0 σ0 Y_X8_isWord (21, [.ref v0, .ref v1, .int 1], q3.2) (e_I r) := k
    refine lv_iconst (v := 1) hx hb dX8_isWord_16 (by decide) ?_
    refine lv_goto (tgt := 21) hx hb dX8_isWord_17 (by decide) ?_
    exact k.2 p e s m below meth c _ _ _ _ _ X I hn.1 hn.2 (lv_sub hl [0, 1] rfl)
  · refine lv_icmp_ne (tgt := 20) hx hb dX8_isWord_13 (by decide) (fun _ => ?_) (fun n => absurd n c5)
    cases hf
    have k : s_V G (d + 6) M_X8_isWord vs0 σ0 Y_X8_isWord (21, [.ref v0, .ref v1, .int 0], q3.2) (e_I r) := k
    refine lv_iconst (v := 0) hx hb dX8_isWord_20 (by decide) ?_
    exact k.2 p e s m below meth c _ _ _ _ _ X I hn.1 hn.2 (lv_sub hl [0, 1] rfl)
set_option maxRecDepth 100000 in
set_option maxHeartbeats 4000000 in
theorem v_X8_isWord_21 {G : sG} {d : Nat} {vs0 : List Value} {σ0 : sS} {v0 : Nat} {v1 : Nat} {w0 : Int32} {σ : sS} {z : sZ Int32} {r : Int32 × sS} (hf : T_X8_isWord_21 v0 v1 w0 σ = some z) (k : s_K G (d + 6) M_X8_isWord vs0 σ0 Y_X8_isWord e_I z r) : s_V G (d + 6) M_X8_isWord vs0 σ0 Y_X8_isWord (21, [.ref v0, .ref v1, .int w0], σ) (e_I r) := by
  have le0 : s_le σ (e_I r).2 := s_lek hem_I (l_X8_isWord_21 hf) k
  refine ⟨le0, ?_⟩
  intro p e s m below meth c H locs cells slots ls X I hn1 hn2 hl
  have hn : cells + σ0.2.1 ≤ σ.2.1 ∧ slots + σ0.2.2.1 ≤ σ.2.2.1 := ⟨hn1, hn2⟩
  have hl : lv_has ls 4 [(0, .ref v0), (1, .ref v1)] := hl
  have hx := X.1
  have hb : c.code = cX8_isWord := X.2.1
  have hown : s.vm.findClass RX8 = some m.cls := X.2.2.2.2.2.1
  have hts := X.2.2.2.2.2.2.1
  refine W.eq (g2 := F0 m 21 ls [.int w0]) rfl ?_
  unfold T_X8_isWord_21 at hf
  cases hf
  have k : s_V G (d + 6) M_X8_isWord vs0 σ0 Y_X8_isWord (24, [.ref v0, .ref v1, .int w0, .int 0], σ) (e_I r) := k
  refine lv_istore_n (lv' := [(2, .int w0), (0, .ref v0), (1, .ref v1)]) hx hb dX8_isWord_21 rfl hl (by decide) rfl (fun ls hl => ?_)
  refine lv_iconst (v := 0) hx hb dX8_isWord_22 (by decide) ?_
  refine lv_istore_n (lv' := [(3, .int 0), (2, .int w0), (0, .ref v0), (1, .ref v1)]) hx hb dX8_isWord_23 rfl hl (by decide) rfl (fun ls hl => ?_)
  exact k.2 p e s m below meth c _ _ _ _ _ X I hn.1 hn.2 (lv_sub hl [2, 3, 1, 0] rfl)
set_option maxRecDepth 100000 in
set_option maxHeartbeats 4000000 in
theorem v_X8_isWord_24 {G : sG} {d : Nat} {vs0 : List Value} {σ0 : sS} {v0 : Nat} {v1 : Nat} {v2 : Int32} {v3 : Int32} {σ : sS} {z : sZ Int32} {r : Int32 × sS} (hf : T_X8_isWord_24 v0 v1 v2 v3 σ = some z) (k : s_K G (d + 6) M_X8_isWord vs0 σ0 Y_X8_isWord e_I z r) : s_V G (d + 6) M_X8_isWord vs0 σ0 Y_X8_isWord (24, [.ref v0, .ref v1, .int v2, .int v3], σ) (e_I r) := by
  have le0 : s_le σ (e_I r).2 := s_lek hem_I (l_X8_isWord_24 hf) k
  refine ⟨le0, ?_⟩
  intro p e s m below meth c H locs cells slots ls X I hn1 hn2 hl
  have hn : cells + σ0.2.1 ≤ σ.2.1 ∧ slots + σ0.2.2.1 ≤ σ.2.2.1 := ⟨hn1, hn2⟩
  have hl : lv_has ls 4 [(0, .ref v0), (1, .ref v1), (2, .int v2), (3, .int v3)] := hl
  have hx := X.1
  have hb : c.code = cX8_isWord := X.2.1
  have hown : s.vm.findClass RX8 = some m.cls := X.2.2.2.2.2.1
  have hts := X.2.2.2.2.2.2.1
  refine W.eq (g2 := F0 m 24 ls []) rfl ?_
  unfold T_X8_isWord_24 at hf
  refine lv_iload_n hx hb dX8_isWord_24 rfl (lv_at hl 2 rfl) ?_
  rcases s_ite hf with ⟨c1, hf⟩ | ⟨c1, hf⟩
  · refine lv_if_eq (tgt := 67) hx hb dX8_isWord_25 (by decide) (fun _ => ?_) (fun n => absurd c1 n)
    refine lv_iload_n hx hb dX8_isWord_67 rfl (lv_at hl 2 rfl) ?_
    rcases s_ite hf with ⟨hchk, hf⟩ | ⟨-, hf⟩
    · cases hf
      have k : _ = r := k
      subst k
      exact r_iret X I rfl (s_nb hchk) rfl hn dX8_isWord_68
    · cases hf
  · refine lv_if_eq (tgt := 67) hx hb dX8_isWord_25 (by decide) (fun n => absurd n c1) (fun _ => ?_)
    obtain ⟨q1, h2, hf⟩ := s_bind hf
    have le3 : s_le q1.2 (e_I r).2 := by
      refine s_lek hem_I ?_ k
      rcases s_ite hf with ⟨-, hf⟩ | ⟨-, hf⟩
      · rcases s_ite hf with ⟨-, hf⟩ | ⟨-, hf⟩
        · cases hf
          exact s_le.rf
        · cases hf
      · obtain ⟨x2, -, hf⟩ := s_bind hf
        obtain ⟨x3, -, hf⟩ := s_bind hf
        obtain ⟨x4, -, hf⟩ := s_bind hf
        obtain ⟨q5, hh, hf⟩ := s_bind hf
        refine s_lz.tr (l_J0_charAt_5068e hh) ?_
        rcases s_ite hf with ⟨-, hf⟩ | ⟨-, hf⟩
        · cases hf
          exact s_le.rf
        · cases hf
          exact s_le.rf
    refine lv_iload_n hx hb dX8_isWord_28 rfl (lv_at hl 3 rfl) ?_
    refine lv_aload_n hx hb dX8_isWord_29 rfl (lv_at hl 1 rfl) ?_
    refine r_callVs (Y := M_J0_length_8abf5) (v := some (.int q1.1)) X I w_1882 my_J0_length_8abf5 (by omega) (t_J0_length_8abf5 (G := G) (d := d + 3) h2) (b_J0_length_8abf5 h2) rfl rfl hl.1 rfl (Nat.le_of_ble_eq_true rfl) hn le3 dX8_isWord_30 (fun H locs cells slots I hn1 hn2 => ?_)
    have I : s_I G q1.2 s H locs := I
    have hn : cells + σ0.2.1 ≤ q1.2.2.1 ∧ slots + σ0.2.2.1 ≤ q1.2.2.2.1 := ⟨hn1, hn2⟩
    rcases s_ite hf with ⟨c4, hf⟩ | ⟨c4, hf⟩
    · refine lv_icmp_ge (tgt := 67) hx hb dX8_isWord_33 (by decide) (fun _ => ?_) (fun n => absurd c4 n)
      refine lv_iload_n hx hb dX8_isWord_67 rfl (lv_at hl 2 rfl) ?_
      rcases s_ite hf with ⟨hchk, hf⟩ | ⟨-, hf⟩
      · cases hf
        have k : _ = r := k
        subst k
        exact r_iret X I rfl (s_nb hchk) rfl hn dX8_isWord_68
      · cases hf
    · refine lv_icmp_ge (tgt := 67) hx hb dX8_isWord_33 (by decide) (fun n => absurd n c4) (fun _ => ?_)
      obtain ⟨x2, h5, hf⟩ := s_bind hf
      obtain ⟨x3, h6, hf⟩ := s_bind hf
      obtain ⟨x4, h7, hf⟩ := s_bind hf
      obtain ⟨q5, h8, hf⟩ := s_bind hf
      have le9 : s_le q5.2 (e_I r).2 := by
        refine s_lek hem_I ?_ k
        rcases s_ite hf with ⟨-, hf⟩ | ⟨-, hf⟩
        · cases hf
          exact s_le.rf
        · cases hf
          exact s_le.rf
      refine lv_aload_n hx hb dX8_isWord_36 rfl (lv_at hl 0 rfl) ?_
      refine r_gr X I fl_X8_26 h5 dX8_isWord_37 ?_
      refine lv_aload_n hx hb dX8_isWord_40 rfl (lv_at hl 0 rfl) ?_
      refine r_gi X I fl_X8_158 h6 dX8_isWord_41 ?_
      refine lv_iload_n hx hb dX8_isWord_44 rfl (lv_at hl 3 rfl) ?_
      refine lv_iadd hx hb dX8_isWord_45 ?_
      refine r_bald X I h7 dX8_isWord_46 ?_
      refine lv_aload_n hx hb dX8_isWord_47 rfl (lv_at hl 1 rfl) ?_
      refine lv_iload_n hx hb dX8_isWord_48 rfl (lv_at hl 3 rfl) ?_
      refine r_callVs (Y := M_J0_charAt_5068e) (v := some (.int q5.1)) X I w_1883 my_J0_charAt_5068e (by omega) (t_J0_charAt_5068e (G := G) (d := d + 0) h8) (b_J0_charAt_5068e h8) rfl rfl hl.1 rfl (Nat.le_of_ble_eq_true rfl) hn le9 dX8_isWord_49 (fun H locs cells slots I hn1 hn2 => ?_)
      have I : s_I G q5.2 s H locs := I
      have hn : cells + σ0.2.1 ≤ q5.2.2.1 ∧ slots + σ0.2.2.1 ≤ q5.2.2.2.1 := ⟨hn1, hn2⟩
      rcases s_ite hf with ⟨c10, hf⟩ | ⟨c10, hf⟩
      · refine lv_icmp_ne (tgt := 59) hx hb dX8_isWord_52 (by decide) (fun n => absurd c10 n) (fun _ => ?_)
        cases hf
        have k : s_V G (d + 6) M_X8_isWord vs0 σ0 Y_X8_isWord (60, [.ref v0, .ref v1, .int v3, .int 1], q5.2) (e_I r) := k
        refine lv_iconst (v := 1) hx hb dX8_isWord_55 (by decide) ?_
        refine lv_goto (tgt := 60) hx hb dX8_isWord_56 (by decide) ?_
        exact k.2 p e s m below meth c _ _ _ _ _ X I hn.1 hn.2 (lv_sub hl [0, 1, 3] rfl)
      · refine lv_icmp_ne (tgt := 59) hx hb dX8_isWord_52 (by decide) (fun _ => ?_) (fun n => absurd n c10)
        cases hf
        have k : s_V G (d + 6) M_X8_isWord vs0 σ0 Y_X8_isWord (60, [.ref v0, .ref v1, .int v3, .int 0], q5.2) (e_I r) := k
        refine lv_iconst (v := 0) hx hb dX8_isWord_59 (by decide) ?_
        exact k.2 p e s m below meth c _ _ _ _ _ X I hn.1 hn.2 (lv_sub hl [0, 1, 3] rfl)
set_option maxRecDepth 100000 in
set_option maxHeartbeats 4000000 in
theorem v_X8_isWord_60 {G : sG} {d : Nat} {vs0 : List Value} {σ0 : sS} {v0 : Nat} {v1 : Nat} {v3 : Int32} {w0 : Int32} {σ : sS} {z : sZ Int32} {r : Int32 × sS} (hf : T_X8_isWord_60 v0 v1 v3 w0 σ = some z) (k : s_K G (d + 6) M_X8_isWord vs0 σ0 Y_X8_isWord e_I z r) : s_V G (d + 6) M_X8_isWord vs0 σ0 Y_X8_isWord (60, [.ref v0, .ref v1, .int v3, .int w0], σ) (e_I r) := by
  have le0 : s_le σ (e_I r).2 := s_lek hem_I (l_X8_isWord_60 hf) k
  refine ⟨le0, ?_⟩
  intro p e s m below meth c H locs cells slots ls X I hn1 hn2 hl
  have hn : cells + σ0.2.1 ≤ σ.2.1 ∧ slots + σ0.2.2.1 ≤ σ.2.2.1 := ⟨hn1, hn2⟩
  have hl : lv_has ls 4 [(0, .ref v0), (1, .ref v1), (3, .int v3)] := hl
  have hx := X.1
  have hb : c.code = cX8_isWord := X.2.1
  have hown : s.vm.findClass RX8 = some m.cls := X.2.2.2.2.2.1
  have hts := X.2.2.2.2.2.2.1
  refine W.eq (g2 := F0 m 60 ls [.int w0]) rfl ?_
  unfold T_X8_isWord_60 at hf
  cases hf
  have k : s_V G (d + 6) M_X8_isWord vs0 σ0 Y_X8_isWord (24, [.ref v0, .ref v1, .int w0, .int (v3 + 1)], σ) (e_I r) := k
  refine lv_istore_n (lv' := [(2, .int w0), (0, .ref v0), (1, .ref v1), (3, .int v3)]) hx hb dX8_isWord_60 rfl hl (by decide) rfl (fun ls hl => ?_)
  refine lv_iinc (v := (v3 + 1)) (lv' := [(3, .int (v3 + 1)), (2, .int w0), (0, .ref v0), (1, .ref v1)]) hx hb dX8_isWord_61 hl (k := 3) rfl rfl (by decide) rfl (fun ls hl => ?_)
  refine lv_goto (tgt := 24) hx hb dX8_isWord_64 (by decide) ?_
  exact k.2 p e s m below meth c _ _ _ _ _ X I hn.1 hn.2 (lv_sub hl [2, 3, 1, 0] rfl)
theorem v_X8_isWord {G : sG} {d : Nat} {vs0 : List Value} {σ0 : sS} {x : sL} {z : sZ Int32} {r : Int32 × sS} (hs : S_X8_isWord x = some z) (k : s_K G (d + 6) M_X8_isWord vs0 σ0 Y_X8_isWord e_I z r) : s_V G (d + 6) M_X8_isWord vs0 σ0 Y_X8_isWord x (e_I r) := by
  obtain ⟨pc, vs, σ⟩ := x
  unfold S_X8_isWord at hs
  dsimp only at hs
  rcases s_ite hs with ⟨c, hs⟩ | ⟨-, hs⟩
  · subst c
    unfold U_X8_isWord_0 at hs
    obtain ⟨a0, g0, hs⟩ := s_bind hs
    obtain ⟨a1, g1, hs⟩ := s_bind hs
    obtain ⟨u9, ge, hs⟩ := s_bind hs
    rw [g_r_to g0, g_r_to g1, g_e_to ge]
    exact v_X8_isWord_0 hs k
  rcases s_ite hs with ⟨c, hs⟩ | ⟨-, hs⟩
  · subst c
    unfold U_X8_isWord_21 at hs
    obtain ⟨a0, g0, hs⟩ := s_bind hs
    obtain ⟨a1, g1, hs⟩ := s_bind hs
    obtain ⟨a2, g2, hs⟩ := s_bind hs
    obtain ⟨u9, ge, hs⟩ := s_bind hs
    rw [g_r_to g0, g_r_to g1, g_i_to g2, g_e_to ge]
    exact v_X8_isWord_21 hs k
  rcases s_ite hs with ⟨c, hs⟩ | ⟨-, hs⟩
  · subst c
    unfold U_X8_isWord_24 at hs
    obtain ⟨a0, g0, hs⟩ := s_bind hs
    obtain ⟨a1, g1, hs⟩ := s_bind hs
    obtain ⟨a2, g2, hs⟩ := s_bind hs
    obtain ⟨a3, g3, hs⟩ := s_bind hs
    obtain ⟨u9, ge, hs⟩ := s_bind hs
    rw [g_r_to g0, g_r_to g1, g_i_to g2, g_i_to g3, g_e_to ge]
    exact v_X8_isWord_24 hs k
  rcases s_ite hs with ⟨c, hs⟩ | ⟨-, hs⟩
  · subst c
    unfold U_X8_isWord_60 at hs
    obtain ⟨a0, g0, hs⟩ := s_bind hs
    obtain ⟨a1, g1, hs⟩ := s_bind hs
    obtain ⟨a2, g2, hs⟩ := s_bind hs
    obtain ⟨a3, g3, hs⟩ := s_bind hs
    obtain ⟨u9, ge, hs⟩ := s_bind hs
    rw [g_r_to g0, g_r_to g1, g_i_to g2, g_i_to g3, g_e_to ge]
    exact v_X8_isWord_60 hs k
  cases hs
theorem t_X8_isWord {G : sG} {d : Nat} {v0 : Nat} {v1 : Nat} {σ : sS} {q : Int32 × sS} (h : F_X8_isWord v0 v1 σ = some q) : s_T G (d + 6) M_X8_isWord [.ref v0, .ref v1] σ (e_I q) := by
  unfold F_X8_isWord at h
  obtain ⟨-, -, h⟩ := s_bind h
  exact s_ofV rfl (by decide) (Nat.le_of_ble_eq_true rfl) rfl rfl (s_run_ind (V := fun x r => s_V G (d + 6) M_X8_isWord [.ref v0, .ref v1] σ Y_X8_isWord x (e_I r)) (fun x z r hs hk => v_X8_isWord hs (by cases z <;> exact hk)) h)
/-! X8_d -/
noncomputable def T_X8_d_0 (v0 : Nat) (σ : sS) : Option (sZ Int32) :=
  (s_fr σ v0 8 1).bind fun x1 =>
  (s_ai σ x1 0).bind fun x2 =>
  some (.inr (x2, σ))
noncomputable def U_X8_d_0 (vs : List Value) (σ : sS) : Option (sZ Int32) := (g_r vs).bind fun a0 => (g_e a0.2).bind fun _ => T_X8_d_0 a0.1 σ
noncomputable def S_X8_d (x : sL) : Option (sZ Int32) := if x.1 = 0 then U_X8_d_0 x.2.1 x.2.2 else none
def Y_X8_d (pc : Nat) : List Nat := if pc = 0 then [0] else []
noncomputable def F_X8_d (v0 : Nat) (σ : sS) : Option (Int32 × sS) := (s_is σ v0 8).bind fun _ => s_run S_X8_d (0, [.ref v0], σ)
theorem l_X8_d_0 {v0 : Nat} {σ : sS} {z : sZ Int32} (hf : T_X8_d_0 v0 σ = some z) : s_lz σ z := by
  unfold T_X8_d_0 at hf
  obtain ⟨x1, -, hf⟩ := s_bind hf
  obtain ⟨x2, -, hf⟩ := s_bind hf
  cases hf
  exact s_le.rf
theorem l_X8_d_s {x : sL} {z : sZ Int32} (hs : S_X8_d x = some z) : s_lz x.2.2 z := by
  obtain ⟨pc, vs, σ⟩ := x
  unfold S_X8_d at hs
  dsimp only at hs ⊢
  rcases s_ite hs with ⟨c, hs⟩ | ⟨-, hs⟩
  · subst c
    unfold U_X8_d_0 at hs
    obtain ⟨a0, g0, hs⟩ := s_bind hs
    obtain ⟨u9, ge, hs⟩ := s_bind hs
    exact l_X8_d_0 hs
  cases hs
theorem l_X8_d {v0 : Nat} {σ : sS} {q : Int32 × sS} (h : F_X8_d v0 σ = some q) : s_le σ q.2 := by
  unfold F_X8_d at h
  obtain ⟨-, -, h⟩ := s_bind h
  exact s_run_ind (V := fun x r => s_le x.2.2 r.2) (fun x z r hs hk => by
    have h9 := l_X8_d_s hs
    cases z with
    | inl y => exact s_le.tr h9 hk
    | inr q => cases hk; exact h9) h
theorem b_X8_d {v0 : Nat} {σ : sS} {q : Int32 × sS} (h : F_X8_d v0 σ = some q) : ∃ fs, σ.1 v0 = some (.inr (8, fs)) := by
  unfold F_X8_d at h
  obtain ⟨u, hu, -⟩ := s_bind h
  exact s_is_to hu
set_option maxRecDepth 100000 in
set_option maxHeartbeats 4000000 in
theorem v_X8_d_0 {G : sG} {d : Nat} {vs0 : List Value} {σ0 : sS} {v0 : Nat} {σ : sS} {z : sZ Int32} {r : Int32 × sS} (hf : T_X8_d_0 v0 σ = some z) (k : s_K G (d + 1) M_X8_d vs0 σ0 Y_X8_d e_I z r) : s_V G (d + 1) M_X8_d vs0 σ0 Y_X8_d (0, [.ref v0], σ) (e_I r) := by
  have le0 : s_le σ (e_I r).2 := s_lek hem_I (l_X8_d_0 hf) k
  refine ⟨le0, ?_⟩
  intro p e s m below meth c H locs cells slots ls X I hn1 hn2 hl
  have hn : cells + σ0.2.1 ≤ σ.2.1 ∧ slots + σ0.2.2.1 ≤ σ.2.2.1 := ⟨hn1, hn2⟩
  have hl : lv_has ls 1 [(0, .ref v0)] := hl
  have hx := X.1
  have hb : c.code = cX8_d := X.2.1
  have hown : s.vm.findClass RX8 = some m.cls := X.2.2.2.2.2.1
  have hts := X.2.2.2.2.2.2.1
  refine W.eq (g2 := F0 m 0 ls []) rfl ?_
  unfold T_X8_d_0 at hf
  obtain ⟨x1, h1, hf⟩ := s_bind hf
  obtain ⟨x2, h2, hf⟩ := s_bind hf
  cases hf
  have k : _ = r := k
  subst k
  refine lv_aload_n hx hb dX8_d_0 rfl (lv_at hl 0 rfl) ?_
  refine r_gr X I fl_X8_13 h1 dX8_d_1 ?_
  refine lv_iconst (v := 0) hx hb dX8_d_4 (by decide) ?_
  refine r_iald X I h2 dX8_d_5 ?_
  exact r_iret X I rfl rfl rfl hn dX8_d_6
theorem v_X8_d {G : sG} {d : Nat} {vs0 : List Value} {σ0 : sS} {x : sL} {z : sZ Int32} {r : Int32 × sS} (hs : S_X8_d x = some z) (k : s_K G (d + 1) M_X8_d vs0 σ0 Y_X8_d e_I z r) : s_V G (d + 1) M_X8_d vs0 σ0 Y_X8_d x (e_I r) := by
  obtain ⟨pc, vs, σ⟩ := x
  unfold S_X8_d at hs
  dsimp only at hs
  rcases s_ite hs with ⟨c, hs⟩ | ⟨-, hs⟩
  · subst c
    unfold U_X8_d_0 at hs
    obtain ⟨a0, g0, hs⟩ := s_bind hs
    obtain ⟨u9, ge, hs⟩ := s_bind hs
    rw [g_r_to g0, g_e_to ge]
    exact v_X8_d_0 hs k
  cases hs
theorem t_X8_d {G : sG} {d : Nat} {v0 : Nat} {σ : sS} {q : Int32 × sS} (h : F_X8_d v0 σ = some q) : s_T G (d + 1) M_X8_d [.ref v0] σ (e_I q) := by
  unfold F_X8_d at h
  obtain ⟨-, -, h⟩ := s_bind h
  exact s_ofV rfl (by decide) (Nat.le_of_ble_eq_true rfl) rfl rfl (s_run_ind (V := fun x r => s_V G (d + 1) M_X8_d [.ref v0] σ Y_X8_d x (e_I r)) (fun x z r hs hk => v_X8_d hs (by cases z <;> exact hk)) h)
/-! X8_readAtom -/
noncomputable def T_X8_readAtom_0 (v0 : Nat) (σ : sS) : Option (sZ Int32) :=
  (s_fi σ v0 8 10).bind fun x1 =>
  (s_fi σ v0 8 8).bind fun x2 =>
  if x2 ≤ x1 then (some (.inl (24, [.ref v0, .int 0], σ)))
  else ((s_fr σ v0 8 6).bind fun x3 =>
  (s_fi σ v0 8 10).bind fun x4 =>
  (s_ab σ x3 x4).bind fun x5 =>
  some (.inl (24, [.ref v0, .int x5], σ)))
noncomputable def U_X8_readAtom_0 (vs : List Value) (σ : sS) : Option (sZ Int32) := (g_r vs).bind fun a0 => (g_e a0.2).bind fun _ => T_X8_readAtom_0 a0.1 σ
noncomputable def T_X8_readAtom_24 (v0 : Nat) (w0 : Int32) (σ : sS) : Option (sZ Int32) :=
  (s_fi σ v0 8 8).bind fun x1 =>
  (s_fi σ v0 8 10).bind fun x2 =>
  if (x1 - x2) = 1 then (if w0 < 112 then (some (.inl (59, [.ref v0, .int w0], σ)))
  else (if (115 : Int32) < w0 then (some (.inl (59, [.ref v0, .int w0], σ)))
  else ((F_X8_puts v0 (w0 - 112) σ).bind fun q3 =>
  if (q3.1 = 0 ∨ q3.1 = 1) then (some (.inr (q3.1, q3.2))) else none)))
  else (some (.inl (59, [.ref v0, .int w0], σ)))
noncomputable def U_X8_readAtom_24 (vs : List Value) (σ : sS) : Option (sZ Int32) := (g_r vs).bind fun a0 => (g_i a0.2).bind fun a1 => (g_e a1.2).bind fun _ => T_X8_readAtom_24 a0.1 a1.1 σ
noncomputable def T_X8_readAtom_59 (v0 : Nat) (v1 : Int32) (σ : sS) : Option (sZ Int32) :=
  if v1 = 102 then (some (.inl (73, [.ref v0, .int v1], σ)))
  else (if v1 = 103 then (some (.inl (73, [.ref v0, .int v1], σ)))
  else (some (.inr (0, σ))))
noncomputable def U_X8_readAtom_59 (vs : List Value) (σ : sS) : Option (sZ Int32) := (g_r vs).bind fun a0 => (g_i a0.2).bind fun a1 => (g_e a1.2).bind fun _ => T_X8_readAtom_59 a0.1 a1.1 σ
noncomputable def T_X8_readAtom_73 (v0 : Nat) (v1 : Int32) (σ : sS) : Option (sZ Int32) :=
  (s_fi σ v0 8 8).bind fun x1 =>
  (s_fi σ v0 8 10).bind fun x2 =>
  if (x1 - x2) = 2 then ((s_fr σ v0 8 6).bind fun x3 =>
  (s_fi σ v0 8 10).bind fun x4 =>
  (s_ab σ x3 (x4 + 1)).bind fun x5 =>
  if x5 = 120 then ((s_fi σ v0 8 14).bind fun x6 =>
  if x6 = 0 then (some (.inr (0, σ)))
  else (if v1 = 102 then (some (.inl (121, [.int 4, .ref v0], σ)))
  else (some (.inl (121, [.int 5, .ref v0], σ)))))
  else (some (.inl (133, [.ref v0, .int v1], σ))))
  else (some (.inl (133, [.ref v0, .int v1], σ)))
noncomputable def U_X8_readAtom_73 (vs : List Value) (σ : sS) : Option (sZ Int32) := (g_r vs).bind fun a0 => (g_i a0.2).bind fun a1 => (g_e a1.2).bind fun _ => T_X8_readAtom_73 a0.1 a1.1 σ
noncomputable def T_X8_readAtom_121 (w0 : Int32) (w1 : Nat) (σ : sS) : Option (sZ Int32) :=
  (F_X8_puts w1 w0 σ).bind fun q1 =>
  if q1.1 = 0 then (some (.inr (0, q1.2)))
  else (some (.inr (1, q1.2)))
noncomputable def U_X8_readAtom_121 (vs : List Value) (σ : sS) : Option (sZ Int32) := (g_i vs).bind fun a0 => (g_r a0.2).bind fun a1 => (g_e a1.2).bind fun _ => T_X8_readAtom_121 a0.1 a1.1 σ
noncomputable def T_X8_readAtom_133 (v0 : Nat) (v1 : Int32) (σ : sS) : Option (sZ Int32) :=
  (s_fi σ v0 8 8).bind fun x1 =>
  (s_fi σ v0 8 10).bind fun x2 =>
  if (1 : Int32) < (x1 - x2) then (some (.inr (0, σ)))
  else ((F_X8_isAt v0 48 57 σ).bind fun q3 =>
  if q3.1 = 0 then (some (.inr (0, q3.2)))
  else ((s_fr q3.2 v0 8 6).bind fun x4 =>
  (s_fi q3.2 v0 8 8).bind fun x5 =>
  (s_ab q3.2 x4 x5).bind fun x6 =>
  (s_fi q3.2 v0 8 12).bind fun x7 =>
  if x7 = 40 then (some (.inr (0, q3.2)))
  else ((F_X8_d v0 q3.2).bind fun q8 =>
  if (x6 - 48) < q8.1 then ((s_fi q8.2 v0 8 8).bind fun x9 =>
  (s_pf q8.2 v0 8 8 (.int (x9 + 1))).bind fun σ10 =>
  if v1 = 102 then (some (.inl (225, [.int (x6 - 48), .int 6, .ref v0], σ10)))
  else (some (.inl (225, [.int (x6 - 48), .int 9, .ref v0], σ10))))
  else ((s_fi q8.2 v0 8 8).bind fun x11 =>
  (s_pf q8.2 v0 8 10 (.int x11)).bind fun σ12 =>
  some (.inr (0, σ12))))))
noncomputable def U_X8_readAtom_133 (vs : List Value) (σ : sS) : Option (sZ Int32) := (g_r vs).bind fun a0 => (g_i a0.2).bind fun a1 => (g_e a1.2).bind fun _ => T_X8_readAtom_133 a0.1 a1.1 σ
noncomputable def T_X8_readAtom_225 (v2 : Int32) (w0 : Int32) (w1 : Nat) (σ : sS) : Option (sZ Int32) :=
  (F_X8_puts w1 (w0 + v2) σ).bind fun q1 =>
  if (q1.1 = 0 ∨ q1.1 = 1) then (some (.inr (q1.1, q1.2))) else none
noncomputable def U_X8_readAtom_225 (vs : List Value) (σ : sS) : Option (sZ Int32) := (g_i vs).bind fun a0 => (g_i a0.2).bind fun a1 => (g_r a1.2).bind fun a2 => (g_e a2.2).bind fun _ => T_X8_readAtom_225 a0.1 a1.1 a2.1 σ
noncomputable def S_X8_readAtom (x : sL) : Option (sZ Int32) := if x.1 = 0 then U_X8_readAtom_0 x.2.1 x.2.2 else if x.1 = 24 then U_X8_readAtom_24 x.2.1 x.2.2 else if x.1 = 59 then U_X8_readAtom_59 x.2.1 x.2.2 else if x.1 = 73 then U_X8_readAtom_73 x.2.1 x.2.2 else if x.1 = 121 then U_X8_readAtom_121 x.2.1 x.2.2 else if x.1 = 133 then U_X8_readAtom_133 x.2.1 x.2.2 else if x.1 = 225 then U_X8_readAtom_225 x.2.1 x.2.2 else none
def Y_X8_readAtom (pc : Nat) : List Nat := if pc = 0 then [0] else if pc = 24 then [0] else if pc = 59 then [0, 1] else if pc = 73 then [0, 1] else if pc = 121 then [] else if pc = 133 then [0, 1] else if pc = 225 then [2] else []
noncomputable def F_X8_readAtom (v0 : Nat) (σ : sS) : Option (Int32 × sS) := (s_is σ v0 8).bind fun _ => s_run S_X8_readAtom (0, [.ref v0], σ)
theorem l_X8_readAtom_0 {v0 : Nat} {σ : sS} {z : sZ Int32} (hf : T_X8_readAtom_0 v0 σ = some z) : s_lz σ z := by
  unfold T_X8_readAtom_0 at hf
  obtain ⟨x1, -, hf⟩ := s_bind hf
  obtain ⟨x2, -, hf⟩ := s_bind hf
  rcases s_ite hf with ⟨-, hf⟩ | ⟨-, hf⟩
  · cases hf
    exact s_le.rf
  · obtain ⟨x3, -, hf⟩ := s_bind hf
    obtain ⟨x4, -, hf⟩ := s_bind hf
    obtain ⟨x5, -, hf⟩ := s_bind hf
    cases hf
    exact s_le.rf
theorem l_X8_readAtom_24 {v0 : Nat} {w0 : Int32} {σ : sS} {z : sZ Int32} (hf : T_X8_readAtom_24 v0 w0 σ = some z) : s_lz σ z := by
  unfold T_X8_readAtom_24 at hf
  obtain ⟨x1, -, hf⟩ := s_bind hf
  obtain ⟨x2, -, hf⟩ := s_bind hf
  rcases s_ite hf with ⟨-, hf⟩ | ⟨-, hf⟩
  · rcases s_ite hf with ⟨-, hf⟩ | ⟨-, hf⟩
    · cases hf
      exact s_le.rf
    · rcases s_ite hf with ⟨-, hf⟩ | ⟨-, hf⟩
      · cases hf
        exact s_le.rf
      · obtain ⟨q3, hh, hf⟩ := s_bind hf
        refine s_lz.tr (l_X8_puts hh) ?_
        rcases s_ite hf with ⟨-, hf⟩ | ⟨-, hf⟩
        · cases hf
          exact s_le.rf
        · cases hf
  · cases hf
    exact s_le.rf
theorem l_X8_readAtom_59 {v0 : Nat} {v1 : Int32} {σ : sS} {z : sZ Int32} (hf : T_X8_readAtom_59 v0 v1 σ = some z) : s_lz σ z := by
  unfold T_X8_readAtom_59 at hf
  rcases s_ite hf with ⟨-, hf⟩ | ⟨-, hf⟩
  · cases hf
    exact s_le.rf
  · rcases s_ite hf with ⟨-, hf⟩ | ⟨-, hf⟩
    · cases hf
      exact s_le.rf
    · cases hf
      exact s_le.rf
theorem l_X8_readAtom_73 {v0 : Nat} {v1 : Int32} {σ : sS} {z : sZ Int32} (hf : T_X8_readAtom_73 v0 v1 σ = some z) : s_lz σ z := by
  unfold T_X8_readAtom_73 at hf
  obtain ⟨x1, -, hf⟩ := s_bind hf
  obtain ⟨x2, -, hf⟩ := s_bind hf
  rcases s_ite hf with ⟨-, hf⟩ | ⟨-, hf⟩
  · obtain ⟨x3, -, hf⟩ := s_bind hf
    obtain ⟨x4, -, hf⟩ := s_bind hf
    obtain ⟨x5, -, hf⟩ := s_bind hf
    rcases s_ite hf with ⟨-, hf⟩ | ⟨-, hf⟩
    · obtain ⟨x6, -, hf⟩ := s_bind hf
      rcases s_ite hf with ⟨-, hf⟩ | ⟨-, hf⟩
      · cases hf
        exact s_le.rf
      · rcases s_ite hf with ⟨-, hf⟩ | ⟨-, hf⟩
        · cases hf
          exact s_le.rf
        · cases hf
          exact s_le.rf
    · cases hf
      exact s_le.rf
  · cases hf
    exact s_le.rf
theorem l_X8_readAtom_121 {w0 : Int32} {w1 : Nat} {σ : sS} {z : sZ Int32} (hf : T_X8_readAtom_121 w0 w1 σ = some z) : s_lz σ z := by
  unfold T_X8_readAtom_121 at hf
  obtain ⟨q1, hh, hf⟩ := s_bind hf
  refine s_lz.tr (l_X8_puts hh) ?_
  rcases s_ite hf with ⟨-, hf⟩ | ⟨-, hf⟩
  · cases hf
    exact s_le.rf
  · cases hf
    exact s_le.rf
theorem l_X8_readAtom_133 {v0 : Nat} {v1 : Int32} {σ : sS} {z : sZ Int32} (hf : T_X8_readAtom_133 v0 v1 σ = some z) : s_lz σ z := by
  unfold T_X8_readAtom_133 at hf
  obtain ⟨x1, -, hf⟩ := s_bind hf
  obtain ⟨x2, -, hf⟩ := s_bind hf
  rcases s_ite hf with ⟨-, hf⟩ | ⟨-, hf⟩
  · cases hf
    exact s_le.rf
  · obtain ⟨q3, hh, hf⟩ := s_bind hf
    refine s_lz.tr (l_X8_isAt hh) ?_
    rcases s_ite hf with ⟨-, hf⟩ | ⟨-, hf⟩
    · cases hf
      exact s_le.rf
    · obtain ⟨x4, -, hf⟩ := s_bind hf
      obtain ⟨x5, -, hf⟩ := s_bind hf
      obtain ⟨x6, -, hf⟩ := s_bind hf
      obtain ⟨x7, -, hf⟩ := s_bind hf
      rcases s_ite hf with ⟨-, hf⟩ | ⟨-, hf⟩
      · cases hf
        exact s_le.rf
      · obtain ⟨q8, hh, hf⟩ := s_bind hf
        refine s_lz.tr (l_X8_d hh) ?_
        rcases s_ite hf with ⟨-, hf⟩ | ⟨-, hf⟩
        · obtain ⟨x9, -, hf⟩ := s_bind hf
          obtain ⟨σ10, hh, hf⟩ := s_bind hf
          refine s_lz.tr (s_le2 (s_pf_2 hh)) ?_
          rcases s_ite hf with ⟨-, hf⟩ | ⟨-, hf⟩
          · cases hf
            exact s_le.rf
          · cases hf
            exact s_le.rf
        · obtain ⟨x11, -, hf⟩ := s_bind hf
          obtain ⟨σ12, hh, hf⟩ := s_bind hf
          refine s_lz.tr (s_le2 (s_pf_2 hh)) ?_
          cases hf
          exact s_le.rf
theorem l_X8_readAtom_225 {v2 : Int32} {w0 : Int32} {w1 : Nat} {σ : sS} {z : sZ Int32} (hf : T_X8_readAtom_225 v2 w0 w1 σ = some z) : s_lz σ z := by
  unfold T_X8_readAtom_225 at hf
  obtain ⟨q1, hh, hf⟩ := s_bind hf
  refine s_lz.tr (l_X8_puts hh) ?_
  rcases s_ite hf with ⟨-, hf⟩ | ⟨-, hf⟩
  · cases hf
    exact s_le.rf
  · cases hf
theorem l_X8_readAtom_s {x : sL} {z : sZ Int32} (hs : S_X8_readAtom x = some z) : s_lz x.2.2 z := by
  obtain ⟨pc, vs, σ⟩ := x
  unfold S_X8_readAtom at hs
  dsimp only at hs ⊢
  rcases s_ite hs with ⟨c, hs⟩ | ⟨-, hs⟩
  · subst c
    unfold U_X8_readAtom_0 at hs
    obtain ⟨a0, g0, hs⟩ := s_bind hs
    obtain ⟨u9, ge, hs⟩ := s_bind hs
    exact l_X8_readAtom_0 hs
  rcases s_ite hs with ⟨c, hs⟩ | ⟨-, hs⟩
  · subst c
    unfold U_X8_readAtom_24 at hs
    obtain ⟨a0, g0, hs⟩ := s_bind hs
    obtain ⟨a1, g1, hs⟩ := s_bind hs
    obtain ⟨u9, ge, hs⟩ := s_bind hs
    exact l_X8_readAtom_24 hs
  rcases s_ite hs with ⟨c, hs⟩ | ⟨-, hs⟩
  · subst c
    unfold U_X8_readAtom_59 at hs
    obtain ⟨a0, g0, hs⟩ := s_bind hs
    obtain ⟨a1, g1, hs⟩ := s_bind hs
    obtain ⟨u9, ge, hs⟩ := s_bind hs
    exact l_X8_readAtom_59 hs
  rcases s_ite hs with ⟨c, hs⟩ | ⟨-, hs⟩
  · subst c
    unfold U_X8_readAtom_73 at hs
    obtain ⟨a0, g0, hs⟩ := s_bind hs
    obtain ⟨a1, g1, hs⟩ := s_bind hs
    obtain ⟨u9, ge, hs⟩ := s_bind hs
    exact l_X8_readAtom_73 hs
  rcases s_ite hs with ⟨c, hs⟩ | ⟨-, hs⟩
  · subst c
    unfold U_X8_readAtom_121 at hs
    obtain ⟨a0, g0, hs⟩ := s_bind hs
    obtain ⟨a1, g1, hs⟩ := s_bind hs
    obtain ⟨u9, ge, hs⟩ := s_bind hs
    exact l_X8_readAtom_121 hs
  rcases s_ite hs with ⟨c, hs⟩ | ⟨-, hs⟩
  · subst c
    unfold U_X8_readAtom_133 at hs
    obtain ⟨a0, g0, hs⟩ := s_bind hs
    obtain ⟨a1, g1, hs⟩ := s_bind hs
    obtain ⟨u9, ge, hs⟩ := s_bind hs
    exact l_X8_readAtom_133 hs
  rcases s_ite hs with ⟨c, hs⟩ | ⟨-, hs⟩
  · subst c
    unfold U_X8_readAtom_225 at hs
    obtain ⟨a0, g0, hs⟩ := s_bind hs
    obtain ⟨a1, g1, hs⟩ := s_bind hs
    obtain ⟨a2, g2, hs⟩ := s_bind hs
    obtain ⟨u9, ge, hs⟩ := s_bind hs
    exact l_X8_readAtom_225 hs
  cases hs
theorem l_X8_readAtom {v0 : Nat} {σ : sS} {q : Int32 × sS} (h : F_X8_readAtom v0 σ = some q) : s_le σ q.2 := by
  unfold F_X8_readAtom at h
  obtain ⟨-, -, h⟩ := s_bind h
  exact s_run_ind (V := fun x r => s_le x.2.2 r.2) (fun x z r hs hk => by
    have h9 := l_X8_readAtom_s hs
    cases z with
    | inl y => exact s_le.tr h9 hk
    | inr q => cases hk; exact h9) h
theorem b_X8_readAtom {v0 : Nat} {σ : sS} {q : Int32 × sS} (h : F_X8_readAtom v0 σ = some q) : ∃ fs, σ.1 v0 = some (.inr (8, fs)) := by
  unfold F_X8_readAtom at h
  obtain ⟨u, hu, -⟩ := s_bind h
  exact s_is_to hu
set_option maxRecDepth 100000 in
set_option maxHeartbeats 4000000 in
theorem v_X8_readAtom_0 {G : sG} {d : Nat} {vs0 : List Value} {σ0 : sS} {v0 : Nat} {σ : sS} {z : sZ Int32} {r : Int32 × sS} (hf : T_X8_readAtom_0 v0 σ = some z) (k : s_K G (d + 3) M_X8_readAtom vs0 σ0 Y_X8_readAtom e_I z r) : s_V G (d + 3) M_X8_readAtom vs0 σ0 Y_X8_readAtom (0, [.ref v0], σ) (e_I r) := by
  have le0 : s_le σ (e_I r).2 := s_lek hem_I (l_X8_readAtom_0 hf) k
  refine ⟨le0, ?_⟩
  intro p e s m below meth c H locs cells slots ls X I hn1 hn2 hl
  have hn : cells + σ0.2.1 ≤ σ.2.1 ∧ slots + σ0.2.2.1 ≤ σ.2.2.1 := ⟨hn1, hn2⟩
  have hl : lv_has ls 3 [(0, .ref v0)] := hl
  have hx := X.1
  have hb : c.code = cX8_readAtom := X.2.1
  have hown : s.vm.findClass RX8 = some m.cls := X.2.2.2.2.2.1
  have hts := X.2.2.2.2.2.2.1
  refine W.eq (g2 := F0 m 0 ls []) rfl ?_
  unfold T_X8_readAtom_0 at hf
  obtain ⟨x1, h1, hf⟩ := s_bind hf
  obtain ⟨x2, h2, hf⟩ := s_bind hf
  refine lv_aload_n hx hb dX8_readAtom_0 rfl (lv_at hl 0 rfl) ?_
  refine r_gi X I fl_X8_158 h1 dX8_readAtom_1 ?_
  refine lv_aload_n hx hb dX8_readAtom_4 rfl (lv_at hl 0 rfl) ?_
  refine r_gi X I fl_X8_148 h2 dX8_readAtom_5 ?_
  rcases s_ite hf with ⟨c3, hf⟩ | ⟨c3, hf⟩
  · refine lv_icmp_ge (tgt := 23) hx hb dX8_readAtom_8 (by decide) (fun _ => ?_) (fun n => absurd c3 n)
    cases hf
    have k : s_V G (d + 3) M_X8_readAtom vs0 σ0 Y_X8_readAtom (24, [.ref v0, .int 0], σ) (e_I r) := k
    refine lv_iconst (v := 0) hx hb dX8_readAtom_23 (by decide) ?_
    exact k.2 p e s m below meth c _ _ _ _ _ X I hn.1 hn.2 (lv_sub hl [0] rfl)
  · refine lv_icmp_ge (tgt := 23) hx hb dX8_readAtom_8 (by decide) (fun n => absurd n c3) (fun _ => ?_)
    obtain ⟨x3, h4, hf⟩ := s_bind hf
    obtain ⟨x4, h5, hf⟩ := s_bind hf
    obtain ⟨x5, h6, hf⟩ := s_bind hf
    cases hf
    have k : s_V G (d + 3) M_X8_readAtom vs0 σ0 Y_X8_readAtom (24, [.ref v0, .int x5], σ) (e_I r) := k
    refine lv_aload_n hx hb dX8_readAtom_11 rfl (lv_at hl 0 rfl) ?_
    refine r_gr X I fl_X8_26 h4 dX8_readAtom_12 ?_
    refine lv_aload_n hx hb dX8_readAtom_15 rfl (lv_at hl 0 rfl) ?_
    refine r_gi X I fl_X8_158 h5 dX8_readAtom_16 ?_
    refine r_bald X I h6 dX8_readAtom_19 ?_
    refine lv_goto (tgt := 24) hx hb dX8_readAtom_20 (by decide) ?_
    exact k.2 p e s m below meth c _ _ _ _ _ X I hn.1 hn.2 (lv_sub hl [0] rfl)
set_option maxRecDepth 100000 in
set_option maxHeartbeats 4000000 in
theorem v_X8_readAtom_24 {G : sG} {d : Nat} {vs0 : List Value} {σ0 : sS} {v0 : Nat} {w0 : Int32} {σ : sS} {z : sZ Int32} {r : Int32 × sS} (hf : T_X8_readAtom_24 v0 w0 σ = some z) (k : s_K G (d + 3) M_X8_readAtom vs0 σ0 Y_X8_readAtom e_I z r) : s_V G (d + 3) M_X8_readAtom vs0 σ0 Y_X8_readAtom (24, [.ref v0, .int w0], σ) (e_I r) := by
  have le0 : s_le σ (e_I r).2 := s_lek hem_I (l_X8_readAtom_24 hf) k
  refine ⟨le0, ?_⟩
  intro p e s m below meth c H locs cells slots ls X I hn1 hn2 hl
  have hn : cells + σ0.2.1 ≤ σ.2.1 ∧ slots + σ0.2.2.1 ≤ σ.2.2.1 := ⟨hn1, hn2⟩
  have hl : lv_has ls 3 [(0, .ref v0)] := hl
  have hx := X.1
  have hb : c.code = cX8_readAtom := X.2.1
  have hown : s.vm.findClass RX8 = some m.cls := X.2.2.2.2.2.1
  have hts := X.2.2.2.2.2.2.1
  refine W.eq (g2 := F0 m 24 ls [.int w0]) rfl ?_
  unfold T_X8_readAtom_24 at hf
  obtain ⟨x1, h1, hf⟩ := s_bind hf
  obtain ⟨x2, h2, hf⟩ := s_bind hf
  refine lv_istore_n (lv' := [(1, .int w0), (0, .ref v0)]) hx hb dX8_readAtom_24 rfl hl (by decide) rfl (fun ls hl => ?_)
  refine lv_aload_n hx hb dX8_readAtom_25 rfl (lv_at hl 1 rfl) ?_
  refine r_gi X I fl_X8_148 h1 dX8_readAtom_26 ?_
  refine lv_aload_n hx hb dX8_readAtom_29 rfl (lv_at hl 1 rfl) ?_
  refine r_gi X I fl_X8_158 h2 dX8_readAtom_30 ?_
  refine lv_isub hx hb dX8_readAtom_33 ?_
  refine lv_iconst (v := 1) hx hb dX8_readAtom_34 (by decide) ?_
  rcases s_ite hf with ⟨c3, hf⟩ | ⟨c3, hf⟩
  · refine lv_icmp_ne (tgt := 59) hx hb dX8_readAtom_35 (by decide) (fun n => absurd c3 n) (fun _ => ?_)
    refine lv_iload_n hx hb dX8_readAtom_38 rfl (lv_at hl 0 rfl) ?_
    refine lv_bipush (v := 112) hx hb dX8_readAtom_39 (by decide) ?_
    rcases s_ite hf with ⟨c4, hf⟩ | ⟨c4, hf⟩
    · refine lv_icmp_lt (tgt := 59) hx hb dX8_readAtom_41 (by decide) (fun _ => ?_) (fun n => absurd c4 n)
      cases hf
      have k : s_V G (d + 3) M_X8_readAtom vs0 σ0 Y_X8_readAtom (59, [.ref v0, .int w0], σ) (e_I r) := k
      exact k.2 p e s m below meth c _ _ _ _ _ X I hn.1 hn.2 (lv_sub hl [1, 0] rfl)
    · refine lv_icmp_lt (tgt := 59) hx hb dX8_readAtom_41 (by decide) (fun n => absurd n c4) (fun _ => ?_)
      refine lv_iload_n hx hb dX8_readAtom_44 rfl (lv_at hl 0 rfl) ?_
      refine lv_bipush (v := 115) hx hb dX8_readAtom_45 (by decide) ?_
      rcases s_ite hf with ⟨c5, hf⟩ | ⟨c5, hf⟩
      · refine lv_icmp_gt (tgt := 59) hx hb dX8_readAtom_47 (by decide) (fun _ => ?_) (fun n => absurd c5 n)
        cases hf
        have k : s_V G (d + 3) M_X8_readAtom vs0 σ0 Y_X8_readAtom (59, [.ref v0, .int w0], σ) (e_I r) := k
        exact k.2 p e s m below meth c _ _ _ _ _ X I hn.1 hn.2 (lv_sub hl [1, 0] rfl)
      · refine lv_icmp_gt (tgt := 59) hx hb dX8_readAtom_47 (by decide) (fun n => absurd n c5) (fun _ => ?_)
        obtain ⟨q3, h6, hf⟩ := s_bind hf
        have le7 : s_le q3.2 (e_I r).2 := by
          refine s_lek hem_I ?_ k
          rcases s_ite hf with ⟨-, hf⟩ | ⟨-, hf⟩
          · cases hf
            exact s_le.rf
          · cases hf
        refine lv_aload_n hx hb dX8_readAtom_50 rfl (lv_at hl 1 rfl) ?_
        refine lv_iload_n hx hb dX8_readAtom_51 rfl (lv_at hl 0 rfl) ?_
        refine lv_bipush (v := 112) hx hb dX8_readAtom_52 (by decide) ?_
        refine lv_isub hx hb dX8_readAtom_54 ?_
        refine r_callV (Y := M_X8_puts) (v := some (.int q3.1)) X I w_1865 my_X8_puts (by omega) (t_X8_puts (G := G) (d := d + 0) h6) (b_X8_puts h6) rfl rfl hl.1 rfl (Nat.le_of_ble_eq_true rfl) hn le7 dX8_readAtom_55 (fun H locs cells slots I hn1 hn2 => ?_)
        have I : s_I G q3.2 s H locs := I
        have hn : cells + σ0.2.1 ≤ q3.2.2.1 ∧ slots + σ0.2.2.1 ≤ q3.2.2.2.1 := ⟨hn1, hn2⟩
        rcases s_ite hf with ⟨hchk, hf⟩ | ⟨-, hf⟩
        · cases hf
          have k : _ = r := k
          subst k
          exact r_iret X I rfl (s_nb hchk) rfl hn dX8_readAtom_58
        · cases hf
  · refine lv_icmp_ne (tgt := 59) hx hb dX8_readAtom_35 (by decide) (fun _ => ?_) (fun n => absurd n c3)
    cases hf
    have k : s_V G (d + 3) M_X8_readAtom vs0 σ0 Y_X8_readAtom (59, [.ref v0, .int w0], σ) (e_I r) := k
    exact k.2 p e s m below meth c _ _ _ _ _ X I hn.1 hn.2 (lv_sub hl [1, 0] rfl)
set_option maxRecDepth 100000 in
set_option maxHeartbeats 4000000 in
theorem v_X8_readAtom_59 {G : sG} {d : Nat} {vs0 : List Value} {σ0 : sS} {v0 : Nat} {v1 : Int32} {σ : sS} {z : sZ Int32} {r : Int32 × sS} (hf : T_X8_readAtom_59 v0 v1 σ = some z) (k : s_K G (d + 3) M_X8_readAtom vs0 σ0 Y_X8_readAtom e_I z r) : s_V G (d + 3) M_X8_readAtom vs0 σ0 Y_X8_readAtom (59, [.ref v0, .int v1], σ) (e_I r) := by
  have le0 : s_le σ (e_I r).2 := s_lek hem_I (l_X8_readAtom_59 hf) k
  refine ⟨le0, ?_⟩
  intro p e s m below meth c H locs cells slots ls X I hn1 hn2 hl
  have hn : cells + σ0.2.1 ≤ σ.2.1 ∧ slots + σ0.2.2.1 ≤ σ.2.2.1 := ⟨hn1, hn2⟩
  have hl : lv_has ls 3 [(0, .ref v0), (1, .int v1)] := hl
  have hx := X.1
  have hb : c.code = cX8_readAtom := X.2.1
  have hown : s.vm.findClass RX8 = some m.cls := X.2.2.2.2.2.1
  have hts := X.2.2.2.2.2.2.1
  refine W.eq (g2 := F0 m 59 ls []) rfl ?_
  unfold T_X8_readAtom_59 at hf
  refine lv_iload_n hx hb dX8_readAtom_59 rfl (lv_at hl 1 rfl) ?_
  refine lv_bipush (v := 102) hx hb dX8_readAtom_60 (by decide) ?_
  rcases s_ite hf with ⟨c1, hf⟩ | ⟨c1, hf⟩
  · refine lv_icmp_eq (tgt := 73) hx hb dX8_readAtom_62 (by decide) (fun _ => ?_) (fun n => absurd c1 n)
    cases hf
    have k : s_V G (d + 3) M_X8_readAtom vs0 σ0 Y_X8_readAtom (73, [.ref v0, .int v1], σ) (e_I r) := k
    exact k.2 p e s m below meth c _ _ _ _ _ X I hn.1 hn.2 (lv_sub hl [0, 1] rfl)
  · refine lv_icmp_eq (tgt := 73) hx hb dX8_readAtom_62 (by decide) (fun n => absurd n c1) (fun _ => ?_)
    refine lv_iload_n hx hb dX8_readAtom_65 rfl (lv_at hl 1 rfl) ?_
    refine lv_bipush (v := 103) hx hb dX8_readAtom_66 (by decide) ?_
    rcases s_ite hf with ⟨c2, hf⟩ | ⟨c2, hf⟩
    · refine lv_icmp_eq (tgt := 73) hx hb dX8_readAtom_68 (by decide) (fun _ => ?_) (fun n => absurd c2 n)
      cases hf
      have k : s_V G (d + 3) M_X8_readAtom vs0 σ0 Y_X8_readAtom (73, [.ref v0, .int v1], σ) (e_I r) := k
      exact k.2 p e s m below meth c _ _ _ _ _ X I hn.1 hn.2 (lv_sub hl [0, 1] rfl)
    · refine lv_icmp_eq (tgt := 73) hx hb dX8_readAtom_68 (by decide) (fun n => absurd n c2) (fun _ => ?_)
      cases hf
      have k : _ = r := k
      subst k
      refine lv_iconst (v := 0) hx hb dX8_readAtom_71 (by decide) ?_
      exact r_iret X I rfl rfl rfl hn dX8_readAtom_72
set_option maxRecDepth 100000 in
set_option maxHeartbeats 4000000 in
theorem v_X8_readAtom_73 {G : sG} {d : Nat} {vs0 : List Value} {σ0 : sS} {v0 : Nat} {v1 : Int32} {σ : sS} {z : sZ Int32} {r : Int32 × sS} (hf : T_X8_readAtom_73 v0 v1 σ = some z) (k : s_K G (d + 3) M_X8_readAtom vs0 σ0 Y_X8_readAtom e_I z r) : s_V G (d + 3) M_X8_readAtom vs0 σ0 Y_X8_readAtom (73, [.ref v0, .int v1], σ) (e_I r) := by
  have le0 : s_le σ (e_I r).2 := s_lek hem_I (l_X8_readAtom_73 hf) k
  refine ⟨le0, ?_⟩
  intro p e s m below meth c H locs cells slots ls X I hn1 hn2 hl
  have hn : cells + σ0.2.1 ≤ σ.2.1 ∧ slots + σ0.2.2.1 ≤ σ.2.2.1 := ⟨hn1, hn2⟩
  have hl : lv_has ls 3 [(0, .ref v0), (1, .int v1)] := hl
  have hx := X.1
  have hb : c.code = cX8_readAtom := X.2.1
  have hown : s.vm.findClass RX8 = some m.cls := X.2.2.2.2.2.1
  have hts := X.2.2.2.2.2.2.1
  refine W.eq (g2 := F0 m 73 ls []) rfl ?_
  unfold T_X8_readAtom_73 at hf
  obtain ⟨x1, h1, hf⟩ := s_bind hf
  obtain ⟨x2, h2, hf⟩ := s_bind hf
  refine lv_aload_n hx hb dX8_readAtom_73 rfl (lv_at hl 0 rfl) ?_
  refine r_gi X I fl_X8_148 h1 dX8_readAtom_74 ?_
  refine lv_aload_n hx hb dX8_readAtom_77 rfl (lv_at hl 0 rfl) ?_
  refine r_gi X I fl_X8_158 h2 dX8_readAtom_78 ?_
  refine lv_isub hx hb dX8_readAtom_81 ?_
  refine lv_iconst (v := 2) hx hb dX8_readAtom_82 (by decide) ?_
  rcases s_ite hf with ⟨c3, hf⟩ | ⟨c3, hf⟩
  · refine lv_icmp_ne (tgt := 133) hx hb dX8_readAtom_83 (by decide) (fun n => absurd c3 n) (fun _ => ?_)
    obtain ⟨x3, h4, hf⟩ := s_bind hf
    obtain ⟨x4, h5, hf⟩ := s_bind hf
    obtain ⟨x5, h6, hf⟩ := s_bind hf
    refine lv_aload_n hx hb dX8_readAtom_86 rfl (lv_at hl 0 rfl) ?_
    refine r_gr X I fl_X8_26 h4 dX8_readAtom_87 ?_
    refine lv_aload_n hx hb dX8_readAtom_90 rfl (lv_at hl 0 rfl) ?_
    refine r_gi X I fl_X8_158 h5 dX8_readAtom_91 ?_
    refine lv_iconst (v := 1) hx hb dX8_readAtom_94 (by decide) ?_
    refine lv_iadd hx hb dX8_readAtom_95 ?_
    refine r_bald X I h6 dX8_readAtom_96 ?_
    refine lv_bipush (v := 120) hx hb dX8_readAtom_97 (by decide) ?_
    rcases s_ite hf with ⟨c7, hf⟩ | ⟨c7, hf⟩
    · refine lv_icmp_ne (tgt := 133) hx hb dX8_readAtom_99 (by decide) (fun n => absurd c7 n) (fun _ => ?_)
      obtain ⟨x6, h8, hf⟩ := s_bind hf
      refine lv_aload_n hx hb dX8_readAtom_102 rfl (lv_at hl 0 rfl) ?_
      refine r_gi X I fl_X8_185 h8 dX8_readAtom_103 ?_
      rcases s_ite hf with ⟨c9, hf⟩ | ⟨c9, hf⟩
      · refine lv_if_eq (tgt := 131) hx hb dX8_readAtom_106 (by decide) (fun _ => ?_) (fun n => absurd c9 n)
        cases hf
        have k : _ = r := k
        subst k
        refine lv_iconst (v := 0) hx hb dX8_readAtom_131 (by decide) ?_
        exact r_iret X I rfl rfl rfl hn dX8_readAtom_132
      · refine lv_if_eq (tgt := 131) hx hb dX8_readAtom_106 (by decide) (fun n => absurd n c9) (fun _ => ?_)
        refine lv_aload_n hx hb dX8_readAtom_109 rfl (lv_at hl 0 rfl) ?_
        refine lv_iload_n hx hb dX8_readAtom_110 rfl (lv_at hl 1 rfl) ?_
        refine lv_bipush (v := 102) hx hb dX8_readAtom_111 (by decide) ?_
        rcases s_ite hf with ⟨c10, hf⟩ | ⟨c10, hf⟩
        · refine lv_icmp_ne (tgt := 120) hx hb dX8_readAtom_113 (by decide) (fun n => absurd c10 n) (fun _ => ?_)
          cases hf
          have k : s_V G (d + 3) M_X8_readAtom vs0 σ0 Y_X8_readAtom (121, [.int 4, .ref v0], σ) (e_I r) := k
          refine lv_iconst (v := 4) hx hb dX8_readAtom_116 (by decide) ?_
          refine lv_goto (tgt := 121) hx hb dX8_readAtom_117 (by decide) ?_
          exact k.2 p e s m below meth c _ _ _ _ _ X I hn.1 hn.2 (lv_sub hl [] rfl)
        · refine lv_icmp_ne (tgt := 120) hx hb dX8_readAtom_113 (by decide) (fun _ => ?_) (fun n => absurd n c10)
          cases hf
          have k : s_V G (d + 3) M_X8_readAtom vs0 σ0 Y_X8_readAtom (121, [.int 5, .ref v0], σ) (e_I r) := k
          refine lv_iconst (v := 5) hx hb dX8_readAtom_120 (by decide) ?_
          exact k.2 p e s m below meth c _ _ _ _ _ X I hn.1 hn.2 (lv_sub hl [] rfl)
    · refine lv_icmp_ne (tgt := 133) hx hb dX8_readAtom_99 (by decide) (fun _ => ?_) (fun n => absurd n c7)
      cases hf
      have k : s_V G (d + 3) M_X8_readAtom vs0 σ0 Y_X8_readAtom (133, [.ref v0, .int v1], σ) (e_I r) := k
      exact k.2 p e s m below meth c _ _ _ _ _ X I hn.1 hn.2 (lv_sub hl [0, 1] rfl)
  · refine lv_icmp_ne (tgt := 133) hx hb dX8_readAtom_83 (by decide) (fun _ => ?_) (fun n => absurd n c3)
    cases hf
    have k : s_V G (d + 3) M_X8_readAtom vs0 σ0 Y_X8_readAtom (133, [.ref v0, .int v1], σ) (e_I r) := k
    exact k.2 p e s m below meth c _ _ _ _ _ X I hn.1 hn.2 (lv_sub hl [0, 1] rfl)
set_option maxRecDepth 100000 in
set_option maxHeartbeats 4000000 in
theorem v_X8_readAtom_121 {G : sG} {d : Nat} {vs0 : List Value} {σ0 : sS} {w0 : Int32} {w1 : Nat} {σ : sS} {z : sZ Int32} {r : Int32 × sS} (hf : T_X8_readAtom_121 w0 w1 σ = some z) (k : s_K G (d + 3) M_X8_readAtom vs0 σ0 Y_X8_readAtom e_I z r) : s_V G (d + 3) M_X8_readAtom vs0 σ0 Y_X8_readAtom (121, [.int w0, .ref w1], σ) (e_I r) := by
  have le0 : s_le σ (e_I r).2 := s_lek hem_I (l_X8_readAtom_121 hf) k
  refine ⟨le0, ?_⟩
  intro p e s m below meth c H locs cells slots ls X I hn1 hn2 hl
  have hn : cells + σ0.2.1 ≤ σ.2.1 ∧ slots + σ0.2.2.1 ≤ σ.2.2.1 := ⟨hn1, hn2⟩
  have hl : lv_has ls 3 [] := hl
  have hx := X.1
  have hb : c.code = cX8_readAtom := X.2.1
  have hown : s.vm.findClass RX8 = some m.cls := X.2.2.2.2.2.1
  have hts := X.2.2.2.2.2.2.1
  refine W.eq (g2 := F0 m 121 ls [.int w0, .ref w1]) rfl ?_
  unfold T_X8_readAtom_121 at hf
  obtain ⟨q1, h1, hf⟩ := s_bind hf
  have le2 : s_le q1.2 (e_I r).2 := by
    refine s_lek hem_I ?_ k
    rcases s_ite hf with ⟨-, hf⟩ | ⟨-, hf⟩
    · cases hf
      exact s_le.rf
    · cases hf
      exact s_le.rf
  refine r_callV (Y := M_X8_puts) (v := some (.int q1.1)) X I w_1865 my_X8_puts (by omega) (t_X8_puts (G := G) (d := d + 0) h1) (b_X8_puts h1) rfl rfl hl.1 rfl (Nat.le_of_ble_eq_true rfl) hn le2 dX8_readAtom_121 (fun H locs cells slots I hn1 hn2 => ?_)
  have I : s_I G q1.2 s H locs := I
  have hn : cells + σ0.2.1 ≤ q1.2.2.1 ∧ slots + σ0.2.2.1 ≤ q1.2.2.2.1 := ⟨hn1, hn2⟩
  rcases s_ite hf with ⟨c3, hf⟩ | ⟨c3, hf⟩
  · refine lv_if_eq (tgt := 131) hx hb dX8_readAtom_124 (by decide) (fun _ => ?_) (fun n => absurd c3 n)
    cases hf
    have k : _ = r := k
    subst k
    refine lv_iconst (v := 0) hx hb dX8_readAtom_131 (by decide) ?_
    exact r_iret X I rfl rfl rfl hn dX8_readAtom_132
  · refine lv_if_eq (tgt := 131) hx hb dX8_readAtom_124 (by decide) (fun n => absurd n c3) (fun _ => ?_)
    cases hf
    have k : _ = r := k
    subst k
    refine lv_iconst (v := 1) hx hb dX8_readAtom_127 (by decide) ?_
    refine lv_goto (tgt := 132) hx hb dX8_readAtom_128 (by decide) ?_
    exact r_iret X I rfl rfl rfl hn dX8_readAtom_132
set_option maxRecDepth 100000 in
set_option maxHeartbeats 4000000 in
theorem v_X8_readAtom_133 {G : sG} {d : Nat} {vs0 : List Value} {σ0 : sS} {v0 : Nat} {v1 : Int32} {σ : sS} {z : sZ Int32} {r : Int32 × sS} (hf : T_X8_readAtom_133 v0 v1 σ = some z) (k : s_K G (d + 3) M_X8_readAtom vs0 σ0 Y_X8_readAtom e_I z r) : s_V G (d + 3) M_X8_readAtom vs0 σ0 Y_X8_readAtom (133, [.ref v0, .int v1], σ) (e_I r) := by
  have le0 : s_le σ (e_I r).2 := s_lek hem_I (l_X8_readAtom_133 hf) k
  refine ⟨le0, ?_⟩
  intro p e s m below meth c H locs cells slots ls X I hn1 hn2 hl
  have hn : cells + σ0.2.1 ≤ σ.2.1 ∧ slots + σ0.2.2.1 ≤ σ.2.2.1 := ⟨hn1, hn2⟩
  have hl : lv_has ls 3 [(0, .ref v0), (1, .int v1)] := hl
  have hx := X.1
  have hb : c.code = cX8_readAtom := X.2.1
  have hown : s.vm.findClass RX8 = some m.cls := X.2.2.2.2.2.1
  have hts := X.2.2.2.2.2.2.1
  refine W.eq (g2 := F0 m 133 ls []) rfl ?_
  unfold T_X8_readAtom_133 at hf
  obtain ⟨x1, h1, hf⟩ := s_bind hf
  obtain ⟨x2, h2, hf⟩ := s_bind hf
  refine lv_aload_n hx hb dX8_readAtom_133 rfl (lv_at hl 0 rfl) ?_
  refine r_gi X I fl_X8_148 h1 dX8_readAtom_134 ?_
  refine lv_aload_n hx hb dX8_readAtom_137 rfl (lv_at hl 0 rfl) ?_
  refine r_gi X I fl_X8_158 h2 dX8_readAtom_138 ?_
  refine lv_isub hx hb dX8_readAtom_141 ?_
  refine lv_iconst (v := 1) hx hb dX8_readAtom_142 (by decide) ?_
  rcases s_ite hf with ⟨c3, hf⟩ | ⟨c3, hf⟩
  · refine lv_icmp_gt (tgt := 157) hx hb dX8_readAtom_143 (by decide) (fun _ => ?_) (fun n => absurd c3 n)
    cases hf
    have k : _ = r := k
    subst k
    refine lv_iconst (v := 0) hx hb dX8_readAtom_157 (by decide) ?_
    exact r_iret X I rfl rfl rfl hn dX8_readAtom_158
  · refine lv_icmp_gt (tgt := 157) hx hb dX8_readAtom_143 (by decide) (fun n => absurd n c3) (fun _ => ?_)
    obtain ⟨q3, h4, hf⟩ := s_bind hf
    have le5 : s_le q3.2 (e_I r).2 := by
      refine s_lek hem_I ?_ k
      rcases s_ite hf with ⟨-, hf⟩ | ⟨-, hf⟩
      · cases hf
        exact s_le.rf
      · obtain ⟨x4, -, hf⟩ := s_bind hf
        obtain ⟨x5, -, hf⟩ := s_bind hf
        obtain ⟨x6, -, hf⟩ := s_bind hf
        obtain ⟨x7, -, hf⟩ := s_bind hf
        rcases s_ite hf with ⟨-, hf⟩ | ⟨-, hf⟩
        · cases hf
          exact s_le.rf
        · obtain ⟨q8, hh, hf⟩ := s_bind hf
          refine s_lz.tr (l_X8_d hh) ?_
          rcases s_ite hf with ⟨-, hf⟩ | ⟨-, hf⟩
          · obtain ⟨x9, -, hf⟩ := s_bind hf
            obtain ⟨σ10, hh, hf⟩ := s_bind hf
            refine s_lz.tr (s_le2 (s_pf_2 hh)) ?_
            rcases s_ite hf with ⟨-, hf⟩ | ⟨-, hf⟩
            · cases hf
              exact s_le.rf
            · cases hf
              exact s_le.rf
          · obtain ⟨x11, -, hf⟩ := s_bind hf
            obtain ⟨σ12, hh, hf⟩ := s_bind hf
            refine s_lz.tr (s_le2 (s_pf_2 hh)) ?_
            cases hf
            exact s_le.rf
    refine lv_aload_n hx hb dX8_readAtom_146 rfl (lv_at hl 0 rfl) ?_
    refine lv_bipush (v := 48) hx hb dX8_readAtom_147 (by decide) ?_
    refine lv_bipush (v := 57) hx hb dX8_readAtom_149 (by decide) ?_
    refine r_callV (Y := M_X8_isAt) (v := some (.int q3.1)) X I w_1857 my_X8_isAt (by omega) (t_X8_isAt (G := G) (d := d + 1) h4) (b_X8_isAt h4) rfl rfl hl.1 rfl (Nat.le_of_ble_eq_true rfl) hn le5 dX8_readAtom_151 (fun H locs cells slots I hn1 hn2 => ?_)
    have I : s_I G q3.2 s H locs := I
    have hn : cells + σ0.2.1 ≤ q3.2.2.1 ∧ slots + σ0.2.2.1 ≤ q3.2.2.2.1 := ⟨hn1, hn2⟩
    rcases s_ite hf with ⟨c6, hf⟩ | ⟨c6, hf⟩
    · refine lv_if_ne (tgt := 159) hx hb dX8_readAtom_154 (by decide) (fun n => absurd c6 n) (fun _ => ?_)
      cases hf
      have k : _ = r := k
      subst k
      refine lv_iconst (v := 0) hx hb dX8_readAtom_157 (by decide) ?_
      exact r_iret X I rfl rfl rfl hn dX8_readAtom_158
    · refine lv_if_ne (tgt := 159) hx hb dX8_readAtom_154 (by decide) (fun _ => ?_) (fun n => absurd n c6)
      obtain ⟨x4, h7, hf⟩ := s_bind hf
      obtain ⟨x5, h8, hf⟩ := s_bind hf
      obtain ⟨x6, h9, hf⟩ := s_bind hf
      obtain ⟨x7, h10, hf⟩ := s_bind hf
      refine lv_aload_n hx hb dX8_readAtom_159 rfl (lv_at hl 0 rfl) ?_
      refine r_gr X I fl_X8_26 h7 dX8_readAtom_160 ?_
      refine lv_aload_n hx hb dX8_readAtom_163 rfl (lv_at hl 0 rfl) ?_
      refine r_gi X I fl_X8_148 h8 dX8_readAtom_164 ?_
      refine r_bald X I h9 dX8_readAtom_167 ?_
      refine lv_bipush (v := 48) hx hb dX8_readAtom_168 (by decide) ?_
      refine lv_isub hx hb dX8_readAtom_170 ?_
      refine lv_istore_n (lv' := [(2, .int (x6 - 48)), (0, .ref v0), (1, .int v1)]) hx hb dX8_readAtom_171 rfl hl (by decide) rfl (fun ls hl => ?_)
      refine lv_aload_n hx hb dX8_readAtom_172 rfl (lv_at hl 1 rfl) ?_
      refine r_gi X I fl_X8_172 h10 dX8_readAtom_173 ?_
      refine lv_bipush (v := 40) hx hb dX8_readAtom_176 (by decide) ?_
      rcases s_ite hf with ⟨c11, hf⟩ | ⟨c11, hf⟩
      · refine lv_icmp_ne (tgt := 183) hx hb dX8_readAtom_178 (by decide) (fun n => absurd c11 n) (fun _ => ?_)
        cases hf
        have k : _ = r := k
        subst k
        refine lv_iconst (v := 0) hx hb dX8_readAtom_181 (by decide) ?_
        exact r_iret X I rfl rfl rfl hn dX8_readAtom_182
      · refine lv_icmp_ne (tgt := 183) hx hb dX8_readAtom_178 (by decide) (fun _ => ?_) (fun n => absurd n c11)
        obtain ⟨q8, h12, hf⟩ := s_bind hf
        have le13 : s_le q8.2 (e_I r).2 := by
          refine s_lek hem_I ?_ k
          rcases s_ite hf with ⟨-, hf⟩ | ⟨-, hf⟩
          · obtain ⟨x9, -, hf⟩ := s_bind hf
            obtain ⟨σ10, hh, hf⟩ := s_bind hf
            refine s_lz.tr (s_le2 (s_pf_2 hh)) ?_
            rcases s_ite hf with ⟨-, hf⟩ | ⟨-, hf⟩
            · cases hf
              exact s_le.rf
            · cases hf
              exact s_le.rf
          · obtain ⟨x11, -, hf⟩ := s_bind hf
            obtain ⟨σ12, hh, hf⟩ := s_bind hf
            refine s_lz.tr (s_le2 (s_pf_2 hh)) ?_
            cases hf
            exact s_le.rf
        refine lv_iload_n hx hb dX8_readAtom_183 rfl (lv_at hl 0 rfl) ?_
        refine lv_aload_n hx hb dX8_readAtom_184 rfl (lv_at hl 1 rfl) ?_
        refine r_callV (Y := M_X8_d) (v := some (.int q8.1)) X I w_1889 my_X8_d (by omega) (t_X8_d (G := G) (d := d + 1) h12) (b_X8_d h12) rfl rfl hl.1 rfl (Nat.le_of_ble_eq_true rfl) hn le13 dX8_readAtom_185 (fun H locs cells slots I hn1 hn2 => ?_)
        have I : s_I G q8.2 s H locs := I
        have hn : cells + σ0.2.1 ≤ q8.2.2.1 ∧ slots + σ0.2.2.1 ≤ q8.2.2.2.1 := ⟨hn1, hn2⟩
        rcases s_ite hf with ⟨c14, hf⟩ | ⟨c14, hf⟩
        · refine lv_icmp_lt (tgt := 201) hx hb dX8_readAtom_188 (by decide) (fun _ => ?_) (fun n => absurd c14 n)
          obtain ⟨x9, h15, hf⟩ := s_bind hf
          obtain ⟨σ10, h16, hf⟩ := s_bind hf
          have le17 : s_le σ10 (e_I r).2 := by
            refine s_lek hem_I ?_ k
            rcases s_ite hf with ⟨-, hf⟩ | ⟨-, hf⟩
            · cases hf
              exact s_le.rf
            · cases hf
              exact s_le.rf
          refine lv_aload_n hx hb dX8_readAtom_201 rfl (lv_at hl 1 rfl) ?_
          refine lv_dup hx hb dX8_readAtom_202 rfl ?_
          refine r_gi X I fl_X8_148 h15 dX8_readAtom_203 ?_
          refine lv_iconst (v := 1) hx hb dX8_readAtom_206 (by decide) ?_
          refine lv_iadd hx hb dX8_readAtom_207 ?_
          refine r_put X I fp_X8_148 (fun h => by cases h) h16 rfl rfl dX8_readAtom_208 (fun H locs I => ?_)
          have hn := s_k2 (s_pf_2 h16) hn
          refine lv_aload_n hx hb dX8_readAtom_211 rfl (lv_at hl 1 rfl) ?_
          refine lv_iload_n hx hb dX8_readAtom_212 rfl (lv_at hl 2 rfl) ?_
          refine lv_bipush (v := 102) hx hb dX8_readAtom_213 (by decide) ?_
          rcases s_ite hf with ⟨c18, hf⟩ | ⟨c18, hf⟩
          · refine lv_icmp_ne (tgt := 223) hx hb dX8_readAtom_215 (by decide) (fun n => absurd c18 n) (fun _ => ?_)
            cases hf
            have k : s_V G (d + 3) M_X8_readAtom vs0 σ0 Y_X8_readAtom (225, [.int (x6 - 48), .int 6, .ref v0], σ10) (e_I r) := k
            refine lv_bipush (v := 6) hx hb dX8_readAtom_218 (by decide) ?_
            refine lv_goto (tgt := 225) hx hb dX8_readAtom_220 (by decide) ?_
            exact k.2 p e s m below meth c _ _ _ _ _ X I hn.1 hn.2 (lv_sub hl [0] rfl)
          · refine lv_icmp_ne (tgt := 223) hx hb dX8_readAtom_215 (by decide) (fun _ => ?_) (fun n => absurd n c18)
            cases hf
            have k : s_V G (d + 3) M_X8_readAtom vs0 σ0 Y_X8_readAtom (225, [.int (x6 - 48), .int 9, .ref v0], σ10) (e_I r) := k
            refine lv_bipush (v := 9) hx hb dX8_readAtom_223 (by decide) ?_
            exact k.2 p e s m below meth c _ _ _ _ _ X I hn.1 hn.2 (lv_sub hl [0] rfl)
        · refine lv_icmp_lt (tgt := 201) hx hb dX8_readAtom_188 (by decide) (fun n => absurd n c14) (fun _ => ?_)
          obtain ⟨x11, h19, hf⟩ := s_bind hf
          obtain ⟨σ12, h20, hf⟩ := s_bind hf
          cases hf
          have k : _ = r := k
          subst k
          have le21 : s_le σ12 σ12 := s_le.rf
          refine lv_aload_n hx hb dX8_readAtom_191 rfl (lv_at hl 1 rfl) ?_
          refine lv_aload_n hx hb dX8_readAtom_192 rfl (lv_at hl 1 rfl) ?_
          refine r_gi X I fl_X8_148 h19 dX8_readAtom_193 ?_
          refine r_put X I fp_X8_158 (fun h => by cases h) h20 rfl rfl dX8_readAtom_196 (fun H locs I => ?_)
          have hn := s_k2 (s_pf_2 h20) hn
          refine lv_iconst (v := 0) hx hb dX8_readAtom_199 (by decide) ?_
          exact r_iret X I rfl rfl rfl hn dX8_readAtom_200
set_option maxRecDepth 100000 in
set_option maxHeartbeats 4000000 in
theorem v_X8_readAtom_225 {G : sG} {d : Nat} {vs0 : List Value} {σ0 : sS} {v2 : Int32} {w0 : Int32} {w1 : Nat} {σ : sS} {z : sZ Int32} {r : Int32 × sS} (hf : T_X8_readAtom_225 v2 w0 w1 σ = some z) (k : s_K G (d + 3) M_X8_readAtom vs0 σ0 Y_X8_readAtom e_I z r) : s_V G (d + 3) M_X8_readAtom vs0 σ0 Y_X8_readAtom (225, [.int v2, .int w0, .ref w1], σ) (e_I r) := by
  have le0 : s_le σ (e_I r).2 := s_lek hem_I (l_X8_readAtom_225 hf) k
  refine ⟨le0, ?_⟩
  intro p e s m below meth c H locs cells slots ls X I hn1 hn2 hl
  have hn : cells + σ0.2.1 ≤ σ.2.1 ∧ slots + σ0.2.2.1 ≤ σ.2.2.1 := ⟨hn1, hn2⟩
  have hl : lv_has ls 3 [(2, .int v2)] := hl
  have hx := X.1
  have hb : c.code = cX8_readAtom := X.2.1
  have hown : s.vm.findClass RX8 = some m.cls := X.2.2.2.2.2.1
  have hts := X.2.2.2.2.2.2.1
  refine W.eq (g2 := F0 m 225 ls [.int w0, .ref w1]) rfl ?_
  unfold T_X8_readAtom_225 at hf
  obtain ⟨q1, h1, hf⟩ := s_bind hf
  have le2 : s_le q1.2 (e_I r).2 := by
    refine s_lek hem_I ?_ k
    rcases s_ite hf with ⟨-, hf⟩ | ⟨-, hf⟩
    · cases hf
      exact s_le.rf
    · cases hf
  refine lv_iload_n hx hb dX8_readAtom_225 rfl (lv_at hl 0 rfl) ?_
  refine lv_iadd hx hb dX8_readAtom_226 ?_
  refine r_callV (Y := M_X8_puts) (v := some (.int q1.1)) X I w_1865 my_X8_puts (by omega) (t_X8_puts (G := G) (d := d + 0) h1) (b_X8_puts h1) rfl rfl hl.1 rfl (Nat.le_of_ble_eq_true rfl) hn le2 dX8_readAtom_227 (fun H locs cells slots I hn1 hn2 => ?_)
  have I : s_I G q1.2 s H locs := I
  have hn : cells + σ0.2.1 ≤ q1.2.2.1 ∧ slots + σ0.2.2.1 ≤ q1.2.2.2.1 := ⟨hn1, hn2⟩
  rcases s_ite hf with ⟨hchk, hf⟩ | ⟨-, hf⟩
  · cases hf
    have k : _ = r := k
    subst k
    exact r_iret X I rfl (s_nb hchk) rfl hn dX8_readAtom_230
  · cases hf
theorem v_X8_readAtom {G : sG} {d : Nat} {vs0 : List Value} {σ0 : sS} {x : sL} {z : sZ Int32} {r : Int32 × sS} (hs : S_X8_readAtom x = some z) (k : s_K G (d + 3) M_X8_readAtom vs0 σ0 Y_X8_readAtom e_I z r) : s_V G (d + 3) M_X8_readAtom vs0 σ0 Y_X8_readAtom x (e_I r) := by
  obtain ⟨pc, vs, σ⟩ := x
  unfold S_X8_readAtom at hs
  dsimp only at hs
  rcases s_ite hs with ⟨c, hs⟩ | ⟨-, hs⟩
  · subst c
    unfold U_X8_readAtom_0 at hs
    obtain ⟨a0, g0, hs⟩ := s_bind hs
    obtain ⟨u9, ge, hs⟩ := s_bind hs
    rw [g_r_to g0, g_e_to ge]
    exact v_X8_readAtom_0 hs k
  rcases s_ite hs with ⟨c, hs⟩ | ⟨-, hs⟩
  · subst c
    unfold U_X8_readAtom_24 at hs
    obtain ⟨a0, g0, hs⟩ := s_bind hs
    obtain ⟨a1, g1, hs⟩ := s_bind hs
    obtain ⟨u9, ge, hs⟩ := s_bind hs
    rw [g_r_to g0, g_i_to g1, g_e_to ge]
    exact v_X8_readAtom_24 hs k
  rcases s_ite hs with ⟨c, hs⟩ | ⟨-, hs⟩
  · subst c
    unfold U_X8_readAtom_59 at hs
    obtain ⟨a0, g0, hs⟩ := s_bind hs
    obtain ⟨a1, g1, hs⟩ := s_bind hs
    obtain ⟨u9, ge, hs⟩ := s_bind hs
    rw [g_r_to g0, g_i_to g1, g_e_to ge]
    exact v_X8_readAtom_59 hs k
  rcases s_ite hs with ⟨c, hs⟩ | ⟨-, hs⟩
  · subst c
    unfold U_X8_readAtom_73 at hs
    obtain ⟨a0, g0, hs⟩ := s_bind hs
    obtain ⟨a1, g1, hs⟩ := s_bind hs
    obtain ⟨u9, ge, hs⟩ := s_bind hs
    rw [g_r_to g0, g_i_to g1, g_e_to ge]
    exact v_X8_readAtom_73 hs k
  rcases s_ite hs with ⟨c, hs⟩ | ⟨-, hs⟩
  · subst c
    unfold U_X8_readAtom_121 at hs
    obtain ⟨a0, g0, hs⟩ := s_bind hs
    obtain ⟨a1, g1, hs⟩ := s_bind hs
    obtain ⟨u9, ge, hs⟩ := s_bind hs
    rw [g_i_to g0, g_r_to g1, g_e_to ge]
    exact v_X8_readAtom_121 hs k
  rcases s_ite hs with ⟨c, hs⟩ | ⟨-, hs⟩
  · subst c
    unfold U_X8_readAtom_133 at hs
    obtain ⟨a0, g0, hs⟩ := s_bind hs
    obtain ⟨a1, g1, hs⟩ := s_bind hs
    obtain ⟨u9, ge, hs⟩ := s_bind hs
    rw [g_r_to g0, g_i_to g1, g_e_to ge]
    exact v_X8_readAtom_133 hs k
  rcases s_ite hs with ⟨c, hs⟩ | ⟨-, hs⟩
  · subst c
    unfold U_X8_readAtom_225 at hs
    obtain ⟨a0, g0, hs⟩ := s_bind hs
    obtain ⟨a1, g1, hs⟩ := s_bind hs
    obtain ⟨a2, g2, hs⟩ := s_bind hs
    obtain ⟨u9, ge, hs⟩ := s_bind hs
    rw [g_i_to g0, g_i_to g1, g_r_to g2, g_e_to ge]
    exact v_X8_readAtom_225 hs k
  cases hs
theorem t_X8_readAtom {G : sG} {d : Nat} {v0 : Nat} {σ : sS} {q : Int32 × sS} (h : F_X8_readAtom v0 σ = some q) : s_T G (d + 3) M_X8_readAtom [.ref v0] σ (e_I q) := by
  unfold F_X8_readAtom at h
  obtain ⟨-, -, h⟩ := s_bind h
  exact s_ofV rfl (by decide) (Nat.le_of_ble_eq_true rfl) rfl rfl (s_run_ind (V := fun x r => s_V G (d + 3) M_X8_readAtom [.ref v0] σ Y_X8_readAtom x (e_I r)) (fun x z r hs hk => v_X8_readAtom hs (by cases z <;> exact hk)) h)
