/-! X8_noProof -/
noncomputable def T_X8_noProof_0 (v0 : Nat) (v1 : Int32) (v2 : Int32) (v3 : Int32) (σ : sS) : Option (sZ Int32) :=
  (F_X8_noHouse v1 σ).bind fun q1 =>
  if q1.1 = 0 then ((F_X8_noCustomer v2 q1.2).bind fun q2 =>
  if q2.1 = 0 then ((F_X8_noFormula v0 v3 q2.2).bind fun q3 =>
  if q3.1 = 0 then (some (.inr (0, q3.2)))
  else (some (.inr (1, q3.2))))
  else (some (.inr (1, q2.2))))
  else (some (.inr (1, q1.2)))
noncomputable def U_X8_noProof_0 (vs : List Value) (σ : sS) : Option (sZ Int32) := (g_r vs).bind fun a0 => (g_i a0.2).bind fun a1 => (g_i a1.2).bind fun a2 => (g_i a2.2).bind fun a3 => (g_e a3.2).bind fun _ => T_X8_noProof_0 a0.1 a1.1 a2.1 a3.1 σ
noncomputable def S_X8_noProof (x : sL) : Option (sZ Int32) := if x.1 = 0 then U_X8_noProof_0 x.2.1 x.2.2 else none
def Y_X8_noProof (pc : Nat) : List Nat := if pc = 0 then [0, 1, 2, 3] else []
noncomputable def F_X8_noProof (v0 : Nat) (v1 : Int32) (v2 : Int32) (v3 : Int32) (σ : sS) : Option (Int32 × sS) := (s_is σ v0 8).bind fun _ => s_run S_X8_noProof (0, [.ref v0, .int v1, .int v2, .int v3], σ)
theorem l_X8_noProof_0 {v0 : Nat} {v1 : Int32} {v2 : Int32} {v3 : Int32} {σ : sS} {z : sZ Int32} (hf : T_X8_noProof_0 v0 v1 v2 v3 σ = some z) : s_lz σ z := by
  unfold T_X8_noProof_0 at hf
  obtain ⟨q1, hh, hf⟩ := s_bind hf
  refine s_lz.tr (l_X8_noHouse hh) ?_
  rcases s_ite hf with ⟨-, hf⟩ | ⟨-, hf⟩
  · obtain ⟨q2, hh, hf⟩ := s_bind hf
    refine s_lz.tr (l_X8_noCustomer hh) ?_
    rcases s_ite hf with ⟨-, hf⟩ | ⟨-, hf⟩
    · obtain ⟨q3, hh, hf⟩ := s_bind hf
      refine s_lz.tr (l_X8_noFormula hh) ?_
      rcases s_ite hf with ⟨-, hf⟩ | ⟨-, hf⟩
      · cases hf
        exact s_le.rf
      · cases hf
        exact s_le.rf
    · cases hf
      exact s_le.rf
  · cases hf
    exact s_le.rf
theorem l_X8_noProof_s {x : sL} {z : sZ Int32} (hs : S_X8_noProof x = some z) : s_lz x.2.2 z := by
  obtain ⟨pc, vs, σ⟩ := x
  unfold S_X8_noProof at hs
  dsimp only at hs ⊢
  rcases s_ite hs with ⟨c, hs⟩ | ⟨-, hs⟩
  · subst c
    unfold U_X8_noProof_0 at hs
    obtain ⟨a0, g0, hs⟩ := s_bind hs
    obtain ⟨a1, g1, hs⟩ := s_bind hs
    obtain ⟨a2, g2, hs⟩ := s_bind hs
    obtain ⟨a3, g3, hs⟩ := s_bind hs
    obtain ⟨u9, ge, hs⟩ := s_bind hs
    exact l_X8_noProof_0 hs
  cases hs
theorem l_X8_noProof {v0 : Nat} {v1 : Int32} {v2 : Int32} {v3 : Int32} {σ : sS} {q : Int32 × sS} (h : F_X8_noProof v0 v1 v2 v3 σ = some q) : s_le σ q.2 := by
  unfold F_X8_noProof at h
  obtain ⟨-, -, h⟩ := s_bind h
  exact s_run_ind (V := fun x r => s_le x.2.2 r.2) (fun x z r hs hk => by
    have h9 := l_X8_noProof_s hs
    cases z with
    | inl y => exact s_le.tr h9 hk
    | inr q => cases hk; exact h9) h
theorem b_X8_noProof {v0 : Nat} {v1 : Int32} {v2 : Int32} {v3 : Int32} {σ : sS} {q : Int32 × sS} (h : F_X8_noProof v0 v1 v2 v3 σ = some q) : ∃ fs, σ.1 v0 = some (.inr (8, fs)) := by
  unfold F_X8_noProof at h
  obtain ⟨u, hu, -⟩ := s_bind h
  exact s_is_to hu
set_option maxRecDepth 100000 in
set_option maxHeartbeats 4000000 in
theorem v_X8_noProof_0 {G : sG} {d : Nat} {vs0 : List Value} {σ0 : sS} {v0 : Nat} {v1 : Int32} {v2 : Int32} {v3 : Int32} {σ : sS} {z : sZ Int32} {r : Int32 × sS} (hf : T_X8_noProof_0 v0 v1 v2 v3 σ = some z) (k : s_K G (d + 3) M_X8_noProof vs0 σ0 Y_X8_noProof e_I z r) : s_V G (d + 3) M_X8_noProof vs0 σ0 Y_X8_noProof (0, [.ref v0, .int v1, .int v2, .int v3], σ) (e_I r) := by
  have le0 : s_le σ (e_I r).2 := s_lek hem_I (l_X8_noProof_0 hf) k
  refine ⟨le0, ?_⟩
  intro p e s m below meth c H locs cells slots ls X I hn1 hn2 hl
  have hn : cells + σ0.2.1 ≤ σ.2.1 ∧ slots + σ0.2.2.1 ≤ σ.2.2.1 := ⟨hn1, hn2⟩
  have hl : lv_has ls 4 [(0, .ref v0), (1, .int v1), (2, .int v2), (3, .int v3)] := hl
  have hx := X.1
  have hb : c.code = cX8_noProof := X.2.1
  have hown : s.vm.findClass RX8 = some m.cls := X.2.2.2.2.2.1
  have hts := X.2.2.2.2.2.2.1
  refine W.eq (g2 := F0 m 0 ls []) rfl ?_
  unfold T_X8_noProof_0 at hf
  obtain ⟨q1, h1, hf⟩ := s_bind hf
  have le2 : s_le q1.2 (e_I r).2 := by
    refine s_lek hem_I ?_ k
    rcases s_ite hf with ⟨-, hf⟩ | ⟨-, hf⟩
    · obtain ⟨q2, hh, hf⟩ := s_bind hf
      refine s_lz.tr (l_X8_noCustomer hh) ?_
      rcases s_ite hf with ⟨-, hf⟩ | ⟨-, hf⟩
      · obtain ⟨q3, hh, hf⟩ := s_bind hf
        refine s_lz.tr (l_X8_noFormula hh) ?_
        rcases s_ite hf with ⟨-, hf⟩ | ⟨-, hf⟩
        · cases hf
          exact s_le.rf
        · cases hf
          exact s_le.rf
      · cases hf
        exact s_le.rf
    · cases hf
      exact s_le.rf
  refine lv_iload_n hx hb dX8_noProof_0 rfl (lv_at hl 1 rfl) ?_
  refine r_callS (Y := M_X8_noHouse) (v := some (.int q1.1)) X I w_1973 my_X8_noHouse (by omega) (t_X8_noHouse (G := G) (d := d + 0) h1) rfl rfl hl.1 rfl (Nat.le_of_ble_eq_true rfl) hn le2 dX8_noProof_1 (fun H locs cells slots I hn1 hn2 => ?_)
  have I : s_I G q1.2 s H locs := I
  have hn : cells + σ0.2.1 ≤ q1.2.2.1 ∧ slots + σ0.2.2.1 ≤ q1.2.2.2.1 := ⟨hn1, hn2⟩
  rcases s_ite hf with ⟨c3, hf⟩ | ⟨c3, hf⟩
  · refine lv_if_ne (tgt := 22) hx hb dX8_noProof_4 (by decide) (fun n => absurd c3 n) (fun _ => ?_)
    obtain ⟨q2, h4, hf⟩ := s_bind hf
    have le5 : s_le q2.2 (e_I r).2 := by
      refine s_lek hem_I ?_ k
      rcases s_ite hf with ⟨-, hf⟩ | ⟨-, hf⟩
      · obtain ⟨q3, hh, hf⟩ := s_bind hf
        refine s_lz.tr (l_X8_noFormula hh) ?_
        rcases s_ite hf with ⟨-, hf⟩ | ⟨-, hf⟩
        · cases hf
          exact s_le.rf
        · cases hf
          exact s_le.rf
      · cases hf
        exact s_le.rf
    refine lv_iload_n hx hb dX8_noProof_7 rfl (lv_at hl 2 rfl) ?_
    refine r_callS (Y := M_X8_noCustomer) (v := some (.int q2.1)) X I w_1984 my_X8_noCustomer (by omega) (t_X8_noCustomer (G := G) (d := d + 0) h4) rfl rfl hl.1 rfl (Nat.le_of_ble_eq_true rfl) hn le5 dX8_noProof_8 (fun H locs cells slots I hn1 hn2 => ?_)
    have I : s_I G q2.2 s H locs := I
    have hn : cells + σ0.2.1 ≤ q2.2.2.1 ∧ slots + σ0.2.2.1 ≤ q2.2.2.2.1 := ⟨hn1, hn2⟩
    rcases s_ite hf with ⟨c6, hf⟩ | ⟨c6, hf⟩
    · refine lv_if_ne (tgt := 22) hx hb dX8_noProof_11 (by decide) (fun n => absurd c6 n) (fun _ => ?_)
      obtain ⟨q3, h7, hf⟩ := s_bind hf
      have le8 : s_le q3.2 (e_I r).2 := by
        refine s_lek hem_I ?_ k
        rcases s_ite hf with ⟨-, hf⟩ | ⟨-, hf⟩
        · cases hf
          exact s_le.rf
        · cases hf
          exact s_le.rf
      refine lv_aload_n hx hb dX8_noProof_14 rfl (lv_at hl 0 rfl) ?_
      refine lv_iload_n hx hb dX8_noProof_15 rfl (lv_at hl 3 rfl) ?_
      refine r_callV (Y := M_X8_noFormula) (v := some (.int q3.1)) X I w_1916 my_X8_noFormula (by omega) (t_X8_noFormula (G := G) (d := d + 0) h7) (b_X8_noFormula h7) rfl rfl hl.1 rfl (Nat.le_of_ble_eq_true rfl) hn le8 dX8_noProof_16 (fun H locs cells slots I hn1 hn2 => ?_)
      have I : s_I G q3.2 s H locs := I
      have hn : cells + σ0.2.1 ≤ q3.2.2.1 ∧ slots + σ0.2.2.1 ≤ q3.2.2.2.1 := ⟨hn1, hn2⟩
      rcases s_ite hf with ⟨c9, hf⟩ | ⟨c9, hf⟩
      · refine lv_if_eq (tgt := 26) hx hb dX8_noProof_19 (by decide) (fun _ => ?_) (fun n => absurd c9 n)
        cases hf
        have k : _ = r := k
        subst k
        refine lv_iconst (v := 0) hx hb dX8_noProof_26 (by decide) ?_
        exact r_iret X I rfl rfl rfl hn dX8_noProof_27
      · refine lv_if_eq (tgt := 26) hx hb dX8_noProof_19 (by decide) (fun n => absurd n c9) (fun _ => ?_)
        cases hf
        have k : _ = r := k
        subst k
        refine lv_iconst (v := 1) hx hb dX8_noProof_22 (by decide) ?_
        refine lv_goto (tgt := 27) hx hb dX8_noProof_23 (by decide) ?_
        exact r_iret X I rfl rfl rfl hn dX8_noProof_27
    · refine lv_if_ne (tgt := 22) hx hb dX8_noProof_11 (by decide) (fun _ => ?_) (fun n => absurd n c6)
      cases hf
      have k : _ = r := k
      subst k
      refine lv_iconst (v := 1) hx hb dX8_noProof_22 (by decide) ?_
      refine lv_goto (tgt := 27) hx hb dX8_noProof_23 (by decide) ?_
      exact r_iret X I rfl rfl rfl hn dX8_noProof_27
  · refine lv_if_ne (tgt := 22) hx hb dX8_noProof_4 (by decide) (fun _ => ?_) (fun n => absurd n c3)
    cases hf
    have k : _ = r := k
    subst k
    refine lv_iconst (v := 1) hx hb dX8_noProof_22 (by decide) ?_
    refine lv_goto (tgt := 27) hx hb dX8_noProof_23 (by decide) ?_
    exact r_iret X I rfl rfl rfl hn dX8_noProof_27
theorem v_X8_noProof {G : sG} {d : Nat} {vs0 : List Value} {σ0 : sS} {x : sL} {z : sZ Int32} {r : Int32 × sS} (hs : S_X8_noProof x = some z) (k : s_K G (d + 3) M_X8_noProof vs0 σ0 Y_X8_noProof e_I z r) : s_V G (d + 3) M_X8_noProof vs0 σ0 Y_X8_noProof x (e_I r) := by
  obtain ⟨pc, vs, σ⟩ := x
  unfold S_X8_noProof at hs
  dsimp only at hs
  rcases s_ite hs with ⟨c, hs⟩ | ⟨-, hs⟩
  · subst c
    unfold U_X8_noProof_0 at hs
    obtain ⟨a0, g0, hs⟩ := s_bind hs
    obtain ⟨a1, g1, hs⟩ := s_bind hs
    obtain ⟨a2, g2, hs⟩ := s_bind hs
    obtain ⟨a3, g3, hs⟩ := s_bind hs
    obtain ⟨u9, ge, hs⟩ := s_bind hs
    rw [g_r_to g0, g_i_to g1, g_i_to g2, g_i_to g3, g_e_to ge]
    exact v_X8_noProof_0 hs k
  cases hs
theorem t_X8_noProof {G : sG} {d : Nat} {v0 : Nat} {v1 : Int32} {v2 : Int32} {v3 : Int32} {σ : sS} {q : Int32 × sS} (h : F_X8_noProof v0 v1 v2 v3 σ = some q) : s_T G (d + 3) M_X8_noProof [.ref v0, .int v1, .int v2, .int v3] σ (e_I q) := by
  unfold F_X8_noProof at h
  obtain ⟨-, -, h⟩ := s_bind h
  exact s_ofV rfl (by decide) (Nat.le_of_ble_eq_true rfl) rfl rfl (s_run_ind (V := fun x r => s_V G (d + 3) M_X8_noProof [.ref v0, .int v1, .int v2, .int v3] σ Y_X8_noProof x (e_I r)) (fun x z r hs hk => v_X8_noProof hs (by cases z <;> exact hk)) h)
/-! X8_adds -/
noncomputable def T_X8_adds_0 (v0 : Nat) (v1 : Int32) (v2 : Int32) (v3 : Int32) (v4 : Int32) (σ : sS) : Option (sZ Unit) :=
  (s_fi σ v0 8 38).bind fun x1 =>
  (s_fr σ v0 8 37).bind fun x2 =>
  (s_si σ x2 (4 * x1) v1).bind fun σ3 =>
  (s_fr σ3 v0 8 37).bind fun x4 =>
  (s_si σ3 x4 ((4 * x1) + 1) v2).bind fun σ5 =>
  (s_fr σ5 v0 8 37).bind fun x6 =>
  (s_si σ5 x6 ((4 * x1) + 2) v3).bind fun σ7 =>
  (s_fr σ7 v0 8 37).bind fun x8 =>
  (s_si σ7 x8 ((4 * x1) + 3) v4).bind fun σ9 =>
  (s_fi σ9 v0 8 38).bind fun x10 =>
  (s_pf σ9 v0 8 38 (.int (x10 + 1))).bind fun σ11 =>
  some (.inr ((), σ11))
noncomputable def U_X8_adds_0 (vs : List Value) (σ : sS) : Option (sZ Unit) := (g_r vs).bind fun a0 => (g_i a0.2).bind fun a1 => (g_i a1.2).bind fun a2 => (g_i a2.2).bind fun a3 => (g_i a3.2).bind fun a4 => (g_e a4.2).bind fun _ => T_X8_adds_0 a0.1 a1.1 a2.1 a3.1 a4.1 σ
noncomputable def S_X8_adds (x : sL) : Option (sZ Unit) := if x.1 = 0 then U_X8_adds_0 x.2.1 x.2.2 else none
def Y_X8_adds (pc : Nat) : List Nat := if pc = 0 then [0, 1, 2, 3, 4] else []
noncomputable def F_X8_adds (v0 : Nat) (v1 : Int32) (v2 : Int32) (v3 : Int32) (v4 : Int32) (σ : sS) : Option (Unit × sS) := (s_is σ v0 8).bind fun _ => s_run S_X8_adds (0, [.ref v0, .int v1, .int v2, .int v3, .int v4], σ)
theorem l_X8_adds_0 {v0 : Nat} {v1 : Int32} {v2 : Int32} {v3 : Int32} {v4 : Int32} {σ : sS} {z : sZ Unit} (hf : T_X8_adds_0 v0 v1 v2 v3 v4 σ = some z) : s_lz σ z := by
  unfold T_X8_adds_0 at hf
  obtain ⟨x1, -, hf⟩ := s_bind hf
  obtain ⟨x2, -, hf⟩ := s_bind hf
  obtain ⟨σ3, hh, hf⟩ := s_bind hf
  refine s_lz.tr (s_le2 (s_si_2 hh)) ?_
  obtain ⟨x4, -, hf⟩ := s_bind hf
  obtain ⟨σ5, hh, hf⟩ := s_bind hf
  refine s_lz.tr (s_le2 (s_si_2 hh)) ?_
  obtain ⟨x6, -, hf⟩ := s_bind hf
  obtain ⟨σ7, hh, hf⟩ := s_bind hf
  refine s_lz.tr (s_le2 (s_si_2 hh)) ?_
  obtain ⟨x8, -, hf⟩ := s_bind hf
  obtain ⟨σ9, hh, hf⟩ := s_bind hf
  refine s_lz.tr (s_le2 (s_si_2 hh)) ?_
  obtain ⟨x10, -, hf⟩ := s_bind hf
  obtain ⟨σ11, hh, hf⟩ := s_bind hf
  refine s_lz.tr (s_le2 (s_pf_2 hh)) ?_
  cases hf
  exact s_le.rf
theorem l_X8_adds_s {x : sL} {z : sZ Unit} (hs : S_X8_adds x = some z) : s_lz x.2.2 z := by
  obtain ⟨pc, vs, σ⟩ := x
  unfold S_X8_adds at hs
  dsimp only at hs ⊢
  rcases s_ite hs with ⟨c, hs⟩ | ⟨-, hs⟩
  · subst c
    unfold U_X8_adds_0 at hs
    obtain ⟨a0, g0, hs⟩ := s_bind hs
    obtain ⟨a1, g1, hs⟩ := s_bind hs
    obtain ⟨a2, g2, hs⟩ := s_bind hs
    obtain ⟨a3, g3, hs⟩ := s_bind hs
    obtain ⟨a4, g4, hs⟩ := s_bind hs
    obtain ⟨u9, ge, hs⟩ := s_bind hs
    exact l_X8_adds_0 hs
  cases hs
theorem l_X8_adds {v0 : Nat} {v1 : Int32} {v2 : Int32} {v3 : Int32} {v4 : Int32} {σ : sS} {q : Unit × sS} (h : F_X8_adds v0 v1 v2 v3 v4 σ = some q) : s_le σ q.2 := by
  unfold F_X8_adds at h
  obtain ⟨-, -, h⟩ := s_bind h
  exact s_run_ind (V := fun x r => s_le x.2.2 r.2) (fun x z r hs hk => by
    have h9 := l_X8_adds_s hs
    cases z with
    | inl y => exact s_le.tr h9 hk
    | inr q => cases hk; exact h9) h
theorem b_X8_adds {v0 : Nat} {v1 : Int32} {v2 : Int32} {v3 : Int32} {v4 : Int32} {σ : sS} {q : Unit × sS} (h : F_X8_adds v0 v1 v2 v3 v4 σ = some q) : ∃ fs, σ.1 v0 = some (.inr (8, fs)) := by
  unfold F_X8_adds at h
  obtain ⟨u, hu, -⟩ := s_bind h
  exact s_is_to hu
set_option maxRecDepth 100000 in
set_option maxHeartbeats 4000000 in
theorem v_X8_adds_0 {G : sG} {d : Nat} {vs0 : List Value} {σ0 : sS} {v0 : Nat} {v1 : Int32} {v2 : Int32} {v3 : Int32} {v4 : Int32} {σ : sS} {z : sZ Unit} {r : Unit × sS} (hf : T_X8_adds_0 v0 v1 v2 v3 v4 σ = some z) (k : s_K G (d + 1) M_X8_adds vs0 σ0 Y_X8_adds e_V z r) : s_V G (d + 1) M_X8_adds vs0 σ0 Y_X8_adds (0, [.ref v0, .int v1, .int v2, .int v3, .int v4], σ) (e_V r) := by
  have le0 : s_le σ (e_V r).2 := s_lek hem_V (l_X8_adds_0 hf) k
  refine ⟨le0, ?_⟩
  intro p e s m below meth c H locs cells slots ls X I hn1 hn2 hl
  have hn : cells + σ0.2.1 ≤ σ.2.1 ∧ slots + σ0.2.2.1 ≤ σ.2.2.1 := ⟨hn1, hn2⟩
  have hl : lv_has ls 6 [(0, .ref v0), (1, .int v1), (2, .int v2), (3, .int v3), (4, .int v4)] := hl
  have hx := X.1
  have hb : c.code = cX8_adds := X.2.1
  have hown : s.vm.findClass RX8 = some m.cls := X.2.2.2.2.2.1
  have hts := X.2.2.2.2.2.2.1
  refine W.eq (g2 := F0 m 0 ls []) rfl ?_
  unfold T_X8_adds_0 at hf
  obtain ⟨x1, h1, hf⟩ := s_bind hf
  obtain ⟨x2, h2, hf⟩ := s_bind hf
  obtain ⟨σ3, h3, hf⟩ := s_bind hf
  obtain ⟨x4, h4, hf⟩ := s_bind hf
  obtain ⟨σ5, h5, hf⟩ := s_bind hf
  obtain ⟨x6, h6, hf⟩ := s_bind hf
  obtain ⟨σ7, h7, hf⟩ := s_bind hf
  obtain ⟨x8, h8, hf⟩ := s_bind hf
  obtain ⟨σ9, h9, hf⟩ := s_bind hf
  obtain ⟨x10, h10, hf⟩ := s_bind hf
  obtain ⟨σ11, h11, hf⟩ := s_bind hf
  cases hf
  have k : _ = r := k
  subst k
  have le12 : s_le σ11 σ11 := s_le.rf
  have le13 := s_le.tr (s_le2 (s_pf_2 h11)) le12
  have le14 := s_le.tr (s_le2 (s_si_2 h9)) le13
  have le15 := s_le.tr (s_le2 (s_si_2 h7)) le14
  have le16 := s_le.tr (s_le2 (s_si_2 h5)) le15
  refine lv_iconst (v := 4) hx hb dX8_adds_0 (by decide) ?_
  refine lv_aload_n hx hb dX8_adds_1 rfl (lv_at hl 0 rfl) ?_
  refine r_gi X I fl_X8_357 h1 dX8_adds_2 ?_
  refine lv_imul hx hb dX8_adds_5 ?_
  refine lv_istore (lv' := [(5, .int (4 * x1)), (0, .ref v0), (1, .int v1), (2, .int v2), (3, .int v3), (4, .int v4)]) hx hb dX8_adds_6 hl (by decide) rfl (fun ls hl => ?_)
  refine lv_aload_n hx hb dX8_adds_8 rfl (lv_at hl 1 rfl) ?_
  refine r_gr X I fl_X8_92 h2 dX8_adds_9 ?_
  refine lv_iload hx hb dX8_adds_12 (lv_at hl 0 rfl) ?_
  refine lv_iload_n hx hb dX8_adds_14 rfl (lv_at hl 2 rfl) ?_
  refine r_iast X I h3 dX8_adds_15 (fun H locs I => ?_)
  have hn := s_k2 (s_si_2 h3) hn
  refine lv_aload_n hx hb dX8_adds_16 rfl (lv_at hl 1 rfl) ?_
  refine r_gr X I fl_X8_92 h4 dX8_adds_17 ?_
  refine lv_iload hx hb dX8_adds_20 (lv_at hl 0 rfl) ?_
  refine lv_iconst (v := 1) hx hb dX8_adds_22 (by decide) ?_
  refine lv_iadd hx hb dX8_adds_23 ?_
  refine lv_iload_n hx hb dX8_adds_24 rfl (lv_at hl 3 rfl) ?_
  refine r_iast X I h5 dX8_adds_25 (fun H locs I => ?_)
  have hn := s_k2 (s_si_2 h5) hn
  refine lv_aload_n hx hb dX8_adds_26 rfl (lv_at hl 1 rfl) ?_
  refine r_gr X I fl_X8_92 h6 dX8_adds_27 ?_
  refine lv_iload hx hb dX8_adds_30 (lv_at hl 0 rfl) ?_
  refine lv_iconst (v := 2) hx hb dX8_adds_32 (by decide) ?_
  refine lv_iadd hx hb dX8_adds_33 ?_
  refine lv_iload_n hx hb dX8_adds_34 rfl (lv_at hl 4 rfl) ?_
  refine r_iast X I h7 dX8_adds_35 (fun H locs I => ?_)
  have hn := s_k2 (s_si_2 h7) hn
  refine lv_aload_n hx hb dX8_adds_36 rfl (lv_at hl 1 rfl) ?_
  refine r_gr X I fl_X8_92 h8 dX8_adds_37 ?_
  refine lv_iload hx hb dX8_adds_40 (lv_at hl 0 rfl) ?_
  refine lv_iconst (v := 3) hx hb dX8_adds_42 (by decide) ?_
  refine lv_iadd hx hb dX8_adds_43 ?_
  refine lv_iload hx hb dX8_adds_44 (lv_at hl 5 rfl) ?_
  refine r_iast X I h9 dX8_adds_46 (fun H locs I => ?_)
  have hn := s_k2 (s_si_2 h9) hn
  refine lv_aload_n hx hb dX8_adds_47 rfl (lv_at hl 1 rfl) ?_
  refine lv_dup hx hb dX8_adds_48 rfl ?_
  refine r_gi X I fl_X8_357 h10 dX8_adds_49 ?_
  refine lv_iconst (v := 1) hx hb dX8_adds_52 (by decide) ?_
  refine lv_iadd hx hb dX8_adds_53 ?_
  refine r_put X I fp_X8_357 (fun h => by cases h) h11 rfl rfl dX8_adds_54 (fun H locs I => ?_)
  have hn := s_k2 (s_pf_2 h11) hn
  exact r_vret X I rfl rfl hn dX8_adds_57
theorem v_X8_adds {G : sG} {d : Nat} {vs0 : List Value} {σ0 : sS} {x : sL} {z : sZ Unit} {r : Unit × sS} (hs : S_X8_adds x = some z) (k : s_K G (d + 1) M_X8_adds vs0 σ0 Y_X8_adds e_V z r) : s_V G (d + 1) M_X8_adds vs0 σ0 Y_X8_adds x (e_V r) := by
  obtain ⟨pc, vs, σ⟩ := x
  unfold S_X8_adds at hs
  dsimp only at hs
  rcases s_ite hs with ⟨c, hs⟩ | ⟨-, hs⟩
  · subst c
    unfold U_X8_adds_0 at hs
    obtain ⟨a0, g0, hs⟩ := s_bind hs
    obtain ⟨a1, g1, hs⟩ := s_bind hs
    obtain ⟨a2, g2, hs⟩ := s_bind hs
    obtain ⟨a3, g3, hs⟩ := s_bind hs
    obtain ⟨a4, g4, hs⟩ := s_bind hs
    obtain ⟨u9, ge, hs⟩ := s_bind hs
    rw [g_r_to g0, g_i_to g1, g_i_to g2, g_i_to g3, g_i_to g4, g_e_to ge]
    exact v_X8_adds_0 hs k
  cases hs
theorem t_X8_adds {G : sG} {d : Nat} {v0 : Nat} {v1 : Int32} {v2 : Int32} {v3 : Int32} {v4 : Int32} {σ : sS} {q : Unit × sS} (h : F_X8_adds v0 v1 v2 v3 v4 σ = some q) : s_T G (d + 1) M_X8_adds [.ref v0, .int v1, .int v2, .int v3, .int v4] σ (e_V q) := by
  unfold F_X8_adds at h
  obtain ⟨-, -, h⟩ := s_bind h
  exact s_ofV rfl (by decide) (Nat.le_of_ble_eq_true rfl) rfl rfl (s_run_ind (V := fun x r => s_V G (d + 1) M_X8_adds [.ref v0, .int v1, .int v2, .int v3, .int v4] σ Y_X8_adds x (e_V r)) (fun x z r hs hk => v_X8_adds hs (by cases z <;> exact hk)) h)
/-! X8_copies -/
noncomputable def T_X8_copies_0 (v0 : Nat) (v1 : Int32) (v2 : Int32) (v3 : Int32) (v4 : Int32) (v5 : Int32) (σ : sS) : Option (sZ Unit) :=
  (s_fr σ v0 8 4).bind fun x1 =>
  (s_si σ x1 v5 (v3 - v2)).bind fun σ2 =>
  some (.inl (13, [.ref v0, .int v1, .int v2, .int v3, .int v4, .int v5, .int v2], σ2))
noncomputable def U_X8_copies_0 (vs : List Value) (σ : sS) : Option (sZ Unit) := (g_r vs).bind fun a0 => (g_i a0.2).bind fun a1 => (g_i a1.2).bind fun a2 => (g_i a2.2).bind fun a3 => (g_i a3.2).bind fun a4 => (g_i a4.2).bind fun a5 => (g_e a5.2).bind fun _ => T_X8_copies_0 a0.1 a1.1 a2.1 a3.1 a4.1 a5.1 σ
noncomputable def T_X8_copies_13 (v0 : Nat) (v1 : Int32) (v2 : Int32) (v3 : Int32) (v4 : Int32) (v5 : Int32) (v6 : Int32) (σ : sS) : Option (sZ Unit) :=
  if v3 ≤ v6 then (some (.inr ((), σ)))
  else ((s_fr σ v0 8 5).bind fun x1 =>
  (F_X8_at v0 v1 v6 σ).bind fun q2 =>
  (F_X8_set q2.1 v4 q2.2).bind fun q3 =>
  (s_si q3.2 x1 (((40 * v5) + v6) - v2) q3.1).bind fun σ4 =>
  some (.inl (13, [.ref v0, .int v1, .int v2, .int v3, .int v4, .int v5, .int (v6 + 1)], σ4)))
noncomputable def U_X8_copies_13 (vs : List Value) (σ : sS) : Option (sZ Unit) := (g_r vs).bind fun a0 => (g_i a0.2).bind fun a1 => (g_i a1.2).bind fun a2 => (g_i a2.2).bind fun a3 => (g_i a3.2).bind fun a4 => (g_i a4.2).bind fun a5 => (g_i a5.2).bind fun a6 => (g_e a6.2).bind fun _ => T_X8_copies_13 a0.1 a1.1 a2.1 a3.1 a4.1 a5.1 a6.1 σ
noncomputable def S_X8_copies (x : sL) : Option (sZ Unit) := if x.1 = 0 then U_X8_copies_0 x.2.1 x.2.2 else if x.1 = 13 then U_X8_copies_13 x.2.1 x.2.2 else none
def Y_X8_copies (pc : Nat) : List Nat := if pc = 0 then [0, 1, 2, 3, 4, 5] else if pc = 13 then [0, 1, 2, 3, 4, 5, 6] else []
noncomputable def F_X8_copies (v0 : Nat) (v1 : Int32) (v2 : Int32) (v3 : Int32) (v4 : Int32) (v5 : Int32) (σ : sS) : Option (Unit × sS) := (s_is σ v0 8).bind fun _ => s_run S_X8_copies (0, [.ref v0, .int v1, .int v2, .int v3, .int v4, .int v5], σ)
theorem l_X8_copies_0 {v0 : Nat} {v1 : Int32} {v2 : Int32} {v3 : Int32} {v4 : Int32} {v5 : Int32} {σ : sS} {z : sZ Unit} (hf : T_X8_copies_0 v0 v1 v2 v3 v4 v5 σ = some z) : s_lz σ z := by
  unfold T_X8_copies_0 at hf
  obtain ⟨x1, -, hf⟩ := s_bind hf
  obtain ⟨σ2, hh, hf⟩ := s_bind hf
  refine s_lz.tr (s_le2 (s_si_2 hh)) ?_
  cases hf
  exact s_le.rf
theorem l_X8_copies_13 {v0 : Nat} {v1 : Int32} {v2 : Int32} {v3 : Int32} {v4 : Int32} {v5 : Int32} {v6 : Int32} {σ : sS} {z : sZ Unit} (hf : T_X8_copies_13 v0 v1 v2 v3 v4 v5 v6 σ = some z) : s_lz σ z := by
  unfold T_X8_copies_13 at hf
  rcases s_ite hf with ⟨-, hf⟩ | ⟨-, hf⟩
  · cases hf
    exact s_le.rf
  · obtain ⟨x1, -, hf⟩ := s_bind hf
    obtain ⟨q2, hh, hf⟩ := s_bind hf
    refine s_lz.tr (l_X8_at hh) ?_
    obtain ⟨q3, hh, hf⟩ := s_bind hf
    refine s_lz.tr (l_X8_set hh) ?_
    obtain ⟨σ4, hh, hf⟩ := s_bind hf
    refine s_lz.tr (s_le2 (s_si_2 hh)) ?_
    cases hf
    exact s_le.rf
theorem l_X8_copies_s {x : sL} {z : sZ Unit} (hs : S_X8_copies x = some z) : s_lz x.2.2 z := by
  obtain ⟨pc, vs, σ⟩ := x
  unfold S_X8_copies at hs
  dsimp only at hs ⊢
  rcases s_ite hs with ⟨c, hs⟩ | ⟨-, hs⟩
  · subst c
    unfold U_X8_copies_0 at hs
    obtain ⟨a0, g0, hs⟩ := s_bind hs
    obtain ⟨a1, g1, hs⟩ := s_bind hs
    obtain ⟨a2, g2, hs⟩ := s_bind hs
    obtain ⟨a3, g3, hs⟩ := s_bind hs
    obtain ⟨a4, g4, hs⟩ := s_bind hs
    obtain ⟨a5, g5, hs⟩ := s_bind hs
    obtain ⟨u9, ge, hs⟩ := s_bind hs
    exact l_X8_copies_0 hs
  rcases s_ite hs with ⟨c, hs⟩ | ⟨-, hs⟩
  · subst c
    unfold U_X8_copies_13 at hs
    obtain ⟨a0, g0, hs⟩ := s_bind hs
    obtain ⟨a1, g1, hs⟩ := s_bind hs
    obtain ⟨a2, g2, hs⟩ := s_bind hs
    obtain ⟨a3, g3, hs⟩ := s_bind hs
    obtain ⟨a4, g4, hs⟩ := s_bind hs
    obtain ⟨a5, g5, hs⟩ := s_bind hs
    obtain ⟨a6, g6, hs⟩ := s_bind hs
    obtain ⟨u9, ge, hs⟩ := s_bind hs
    exact l_X8_copies_13 hs
  cases hs
theorem l_X8_copies {v0 : Nat} {v1 : Int32} {v2 : Int32} {v3 : Int32} {v4 : Int32} {v5 : Int32} {σ : sS} {q : Unit × sS} (h : F_X8_copies v0 v1 v2 v3 v4 v5 σ = some q) : s_le σ q.2 := by
  unfold F_X8_copies at h
  obtain ⟨-, -, h⟩ := s_bind h
  exact s_run_ind (V := fun x r => s_le x.2.2 r.2) (fun x z r hs hk => by
    have h9 := l_X8_copies_s hs
    cases z with
    | inl y => exact s_le.tr h9 hk
    | inr q => cases hk; exact h9) h
theorem b_X8_copies {v0 : Nat} {v1 : Int32} {v2 : Int32} {v3 : Int32} {v4 : Int32} {v5 : Int32} {σ : sS} {q : Unit × sS} (h : F_X8_copies v0 v1 v2 v3 v4 v5 σ = some q) : ∃ fs, σ.1 v0 = some (.inr (8, fs)) := by
  unfold F_X8_copies at h
  obtain ⟨u, hu, -⟩ := s_bind h
  exact s_is_to hu
set_option maxRecDepth 100000 in
set_option maxHeartbeats 4000000 in
theorem v_X8_copies_0 {G : sG} {d : Nat} {vs0 : List Value} {σ0 : sS} {v0 : Nat} {v1 : Int32} {v2 : Int32} {v3 : Int32} {v4 : Int32} {v5 : Int32} {σ : sS} {z : sZ Unit} {r : Unit × sS} (hf : T_X8_copies_0 v0 v1 v2 v3 v4 v5 σ = some z) (k : s_K G (d + 2) M_X8_copies vs0 σ0 Y_X8_copies e_V z r) : s_V G (d + 2) M_X8_copies vs0 σ0 Y_X8_copies (0, [.ref v0, .int v1, .int v2, .int v3, .int v4, .int v5], σ) (e_V r) := by
  have le0 : s_le σ (e_V r).2 := s_lek hem_V (l_X8_copies_0 hf) k
  refine ⟨le0, ?_⟩
  intro p e s m below meth c H locs cells slots ls X I hn1 hn2 hl
  have hn : cells + σ0.2.1 ≤ σ.2.1 ∧ slots + σ0.2.2.1 ≤ σ.2.2.1 := ⟨hn1, hn2⟩
  have hl : lv_has ls 7 [(0, .ref v0), (1, .int v1), (2, .int v2), (3, .int v3), (4, .int v4), (5, .int v5)] := hl
  have hx := X.1
  have hb : c.code = cX8_copies := X.2.1
  have hown : s.vm.findClass RX8 = some m.cls := X.2.2.2.2.2.1
  have hts := X.2.2.2.2.2.2.1
  refine W.eq (g2 := F0 m 0 ls []) rfl ?_
  unfold T_X8_copies_0 at hf
  obtain ⟨x1, h1, hf⟩ := s_bind hf
  obtain ⟨σ2, h2, hf⟩ := s_bind hf
  cases hf
  have k : s_V G (d + 2) M_X8_copies vs0 σ0 Y_X8_copies (13, [.ref v0, .int v1, .int v2, .int v3, .int v4, .int v5, .int v2], σ2) (e_V r) := k
  have le3 : s_le σ2 (e_V r).2 := k.1
  refine lv_aload_n hx hb dX8_copies_0 rfl (lv_at hl 0 rfl) ?_
  refine r_gr X I fl_X8_20 h1 dX8_copies_1 ?_
  refine lv_iload hx hb dX8_copies_4 (lv_at hl 5 rfl) ?_
  refine lv_iload_n hx hb dX8_copies_6 rfl (lv_at hl 3 rfl) ?_
  refine lv_iload_n hx hb dX8_copies_7 rfl (lv_at hl 2 rfl) ?_
  refine lv_isub hx hb dX8_copies_8 ?_
  refine r_iast X I h2 dX8_copies_9 (fun H locs I => ?_)
  have hn := s_k2 (s_si_2 h2) hn
  refine lv_iload_n hx hb dX8_copies_10 rfl (lv_at hl 2 rfl) ?_
  refine lv_istore (lv' := [(6, .int v2), (0, .ref v0), (1, .int v1), (2, .int v2), (3, .int v3), (4, .int v4), (5, .int v5)]) hx hb dX8_copies_11 hl (by decide) rfl (fun ls hl => ?_)
  exact k.2 p e s m below meth c _ _ _ _ _ X I hn.1 hn.2 (lv_sub hl [1, 2, 3, 4, 5, 6, 0] rfl)
set_option maxRecDepth 100000 in
set_option maxHeartbeats 4000000 in
theorem v_X8_copies_13 {G : sG} {d : Nat} {vs0 : List Value} {σ0 : sS} {v0 : Nat} {v1 : Int32} {v2 : Int32} {v3 : Int32} {v4 : Int32} {v5 : Int32} {v6 : Int32} {σ : sS} {z : sZ Unit} {r : Unit × sS} (hf : T_X8_copies_13 v0 v1 v2 v3 v4 v5 v6 σ = some z) (k : s_K G (d + 2) M_X8_copies vs0 σ0 Y_X8_copies e_V z r) : s_V G (d + 2) M_X8_copies vs0 σ0 Y_X8_copies (13, [.ref v0, .int v1, .int v2, .int v3, .int v4, .int v5, .int v6], σ) (e_V r) := by
  have le0 : s_le σ (e_V r).2 := s_lek hem_V (l_X8_copies_13 hf) k
  refine ⟨le0, ?_⟩
  intro p e s m below meth c H locs cells slots ls X I hn1 hn2 hl
  have hn : cells + σ0.2.1 ≤ σ.2.1 ∧ slots + σ0.2.2.1 ≤ σ.2.2.1 := ⟨hn1, hn2⟩
  have hl : lv_has ls 7 [(0, .ref v0), (1, .int v1), (2, .int v2), (3, .int v3), (4, .int v4), (5, .int v5), (6, .int v6)] := hl
  have hx := X.1
  have hb : c.code = cX8_copies := X.2.1
  have hown : s.vm.findClass RX8 = some m.cls := X.2.2.2.2.2.1
  have hts := X.2.2.2.2.2.2.1
  refine W.eq (g2 := F0 m 13 ls []) rfl ?_
  unfold T_X8_copies_13 at hf
  refine lv_iload hx hb dX8_copies_13 (lv_at hl 6 rfl) ?_
  refine lv_iload_n hx hb dX8_copies_15 rfl (lv_at hl 3 rfl) ?_
  rcases s_ite hf with ⟨c1, hf⟩ | ⟨c1, hf⟩
  · refine lv_icmp_ge (tgt := 52) hx hb dX8_copies_16 (by decide) (fun _ => ?_) (fun n => absurd c1 n)
    cases hf
    have k : _ = r := k
    subst k
    exact r_vret X I rfl rfl hn dX8_copies_52
  · refine lv_icmp_ge (tgt := 52) hx hb dX8_copies_16 (by decide) (fun n => absurd n c1) (fun _ => ?_)
    obtain ⟨x1, h2, hf⟩ := s_bind hf
    obtain ⟨q2, h3, hf⟩ := s_bind hf
    obtain ⟨q3, h4, hf⟩ := s_bind hf
    obtain ⟨σ4, h5, hf⟩ := s_bind hf
    cases hf
    have k : s_V G (d + 2) M_X8_copies vs0 σ0 Y_X8_copies (13, [.ref v0, .int v1, .int v2, .int v3, .int v4, .int v5, .int (v6 + 1)], σ4) (e_V r) := k
    have le6 : s_le σ4 (e_V r).2 := k.1
    have le7 := s_le.tr (s_le2 (s_si_2 h5)) le6
    have le8 := s_le.tr (l_X8_set h4) le7
    refine lv_aload_n hx hb dX8_copies_19 rfl (lv_at hl 0 rfl) ?_
    refine r_gr X I fl_X8_23 h2 dX8_copies_20 ?_
    refine lv_bipush (v := 40) hx hb dX8_copies_23 (by decide) ?_
    refine lv_iload hx hb dX8_copies_25 (lv_at hl 5 rfl) ?_
    refine lv_imul hx hb dX8_copies_27 ?_
    refine lv_iload hx hb dX8_copies_28 (lv_at hl 6 rfl) ?_
    refine lv_iadd hx hb dX8_copies_30 ?_
    refine lv_iload_n hx hb dX8_copies_31 rfl (lv_at hl 2 rfl) ?_
    refine lv_isub hx hb dX8_copies_32 ?_
    refine lv_aload_n hx hb dX8_copies_33 rfl (lv_at hl 0 rfl) ?_
    refine lv_iload_n hx hb dX8_copies_34 rfl (lv_at hl 1 rfl) ?_
    refine lv_iload hx hb dX8_copies_35 (lv_at hl 6 rfl) ?_
    refine r_callV (Y := M_X8_at) (v := some (.int q2.1)) X I w_1901 my_X8_at (by omega) (t_X8_at (G := G) (d := d + 0) h3) (b_X8_at h3) rfl rfl hl.1 rfl (Nat.le_of_ble_eq_true rfl) hn le8 dX8_copies_37 (fun H locs cells slots I hn1 hn2 => ?_)
    have I : s_I G q2.2 s H locs := I
    have hn : cells + σ0.2.1 ≤ q2.2.2.1 ∧ slots + σ0.2.2.1 ≤ q2.2.2.2.1 := ⟨hn1, hn2⟩
    refine lv_iload hx hb dX8_copies_40 (lv_at hl 4 rfl) ?_
    refine r_callS (Y := M_X8_set) (v := some (.int q3.1)) X I w_1932 my_X8_set (by omega) (t_X8_set (G := G) (d := d + 0) h4) rfl rfl hl.1 rfl (Nat.le_of_ble_eq_true rfl) hn le7 dX8_copies_42 (fun H locs cells slots I hn1 hn2 => ?_)
    have I : s_I G q3.2 s H locs := I
    have hn : cells + σ0.2.1 ≤ q3.2.2.1 ∧ slots + σ0.2.2.1 ≤ q3.2.2.2.1 := ⟨hn1, hn2⟩
    refine r_iast X I h5 dX8_copies_45 (fun H locs I => ?_)
    have hn := s_k2 (s_si_2 h5) hn
    refine lv_iinc (v := (v6 + 1)) (lv' := [(6, .int (v6 + 1)), (0, .ref v0), (1, .int v1), (2, .int v2), (3, .int v3), (4, .int v4), (5, .int v5)]) hx hb dX8_copies_46 hl (k := 6) rfl rfl (by decide) rfl (fun ls hl => ?_)
    refine lv_goto (tgt := 13) hx hb dX8_copies_49 (by decide) ?_
    exact k.2 p e s m below meth c _ _ _ _ _ X I hn.1 hn.2 (lv_sub hl [1, 2, 3, 4, 5, 6, 0] rfl)
theorem v_X8_copies {G : sG} {d : Nat} {vs0 : List Value} {σ0 : sS} {x : sL} {z : sZ Unit} {r : Unit × sS} (hs : S_X8_copies x = some z) (k : s_K G (d + 2) M_X8_copies vs0 σ0 Y_X8_copies e_V z r) : s_V G (d + 2) M_X8_copies vs0 σ0 Y_X8_copies x (e_V r) := by
  obtain ⟨pc, vs, σ⟩ := x
  unfold S_X8_copies at hs
  dsimp only at hs
  rcases s_ite hs with ⟨c, hs⟩ | ⟨-, hs⟩
  · subst c
    unfold U_X8_copies_0 at hs
    obtain ⟨a0, g0, hs⟩ := s_bind hs
    obtain ⟨a1, g1, hs⟩ := s_bind hs
    obtain ⟨a2, g2, hs⟩ := s_bind hs
    obtain ⟨a3, g3, hs⟩ := s_bind hs
    obtain ⟨a4, g4, hs⟩ := s_bind hs
    obtain ⟨a5, g5, hs⟩ := s_bind hs
    obtain ⟨u9, ge, hs⟩ := s_bind hs
    rw [g_r_to g0, g_i_to g1, g_i_to g2, g_i_to g3, g_i_to g4, g_i_to g5, g_e_to ge]
    exact v_X8_copies_0 hs k
  rcases s_ite hs with ⟨c, hs⟩ | ⟨-, hs⟩
  · subst c
    unfold U_X8_copies_13 at hs
    obtain ⟨a0, g0, hs⟩ := s_bind hs
    obtain ⟨a1, g1, hs⟩ := s_bind hs
    obtain ⟨a2, g2, hs⟩ := s_bind hs
    obtain ⟨a3, g3, hs⟩ := s_bind hs
    obtain ⟨a4, g4, hs⟩ := s_bind hs
    obtain ⟨a5, g5, hs⟩ := s_bind hs
    obtain ⟨a6, g6, hs⟩ := s_bind hs
    obtain ⟨u9, ge, hs⟩ := s_bind hs
    rw [g_r_to g0, g_i_to g1, g_i_to g2, g_i_to g3, g_i_to g4, g_i_to g5, g_i_to g6, g_e_to ge]
    exact v_X8_copies_13 hs k
  cases hs
theorem t_X8_copies {G : sG} {d : Nat} {v0 : Nat} {v1 : Int32} {v2 : Int32} {v3 : Int32} {v4 : Int32} {v5 : Int32} {σ : sS} {q : Unit × sS} (h : F_X8_copies v0 v1 v2 v3 v4 v5 σ = some q) : s_T G (d + 2) M_X8_copies [.ref v0, .int v1, .int v2, .int v3, .int v4, .int v5] σ (e_V q) := by
  unfold F_X8_copies at h
  obtain ⟨-, -, h⟩ := s_bind h
  exact s_ofV rfl (by decide) (Nat.le_of_ble_eq_true rfl) rfl rfl (s_run_ind (V := fun x r => s_V G (d + 2) M_X8_copies [.ref v0, .int v1, .int v2, .int v3, .int v4, .int v5] σ Y_X8_copies x (e_V r)) (fun x z r hs hk => v_X8_copies hs (by cases z <;> exact hk)) h)
/-! X8_seenAt -/
noncomputable def T_X8_seenAt_0 (v0 : Nat) (v1 : Int32) (σ : sS) : Option (sZ Int32) :=
  some (.inl (2, [.ref v0, .int v1, .int 0], σ))
noncomputable def U_X8_seenAt_0 (vs : List Value) (σ : sS) : Option (sZ Int32) := (g_r vs).bind fun a0 => (g_i a0.2).bind fun a1 => (g_e a1.2).bind fun _ => T_X8_seenAt_0 a0.1 a1.1 σ
noncomputable def T_X8_seenAt_2 (v0 : Nat) (v1 : Int32) (v2 : Int32) (σ : sS) : Option (sZ Int32) :=
  (s_fi σ v0 8 33).bind fun x1 =>
  if x1 ≤ v2 then (some (.inr ((-1), σ)))
  else ((F_X8_isSame v0 (30 + v2) v1 σ).bind fun q2 =>
  if q2.1 = 0 then (some (.inl (2, [.ref v0, .int v1, .int (v2 + 1)], q2.2)))
  else (some (.inr (v2, q2.2))))
noncomputable def U_X8_seenAt_2 (vs : List Value) (σ : sS) : Option (sZ Int32) := (g_r vs).bind fun a0 => (g_i a0.2).bind fun a1 => (g_i a1.2).bind fun a2 => (g_e a2.2).bind fun _ => T_X8_seenAt_2 a0.1 a1.1 a2.1 σ
noncomputable def S_X8_seenAt (x : sL) : Option (sZ Int32) := if x.1 = 0 then U_X8_seenAt_0 x.2.1 x.2.2 else if x.1 = 2 then U_X8_seenAt_2 x.2.1 x.2.2 else none
def Y_X8_seenAt (pc : Nat) : List Nat := if pc = 0 then [0, 1] else if pc = 2 then [0, 1, 2] else []
noncomputable def F_X8_seenAt (v0 : Nat) (v1 : Int32) (σ : sS) : Option (Int32 × sS) := (s_is σ v0 8).bind fun _ => s_run S_X8_seenAt (0, [.ref v0, .int v1], σ)
theorem l_X8_seenAt_0 {v0 : Nat} {v1 : Int32} {σ : sS} {z : sZ Int32} (hf : T_X8_seenAt_0 v0 v1 σ = some z) : s_lz σ z := by
  unfold T_X8_seenAt_0 at hf
  cases hf
  exact s_le.rf
theorem l_X8_seenAt_2 {v0 : Nat} {v1 : Int32} {v2 : Int32} {σ : sS} {z : sZ Int32} (hf : T_X8_seenAt_2 v0 v1 v2 σ = some z) : s_lz σ z := by
  unfold T_X8_seenAt_2 at hf
  obtain ⟨x1, -, hf⟩ := s_bind hf
  rcases s_ite hf with ⟨-, hf⟩ | ⟨-, hf⟩
  · cases hf
    exact s_le.rf
  · obtain ⟨q2, hh, hf⟩ := s_bind hf
    refine s_lz.tr (l_X8_isSame hh) ?_
    rcases s_ite hf with ⟨-, hf⟩ | ⟨-, hf⟩
    · cases hf
      exact s_le.rf
    · cases hf
      exact s_le.rf
theorem l_X8_seenAt_s {x : sL} {z : sZ Int32} (hs : S_X8_seenAt x = some z) : s_lz x.2.2 z := by
  obtain ⟨pc, vs, σ⟩ := x
  unfold S_X8_seenAt at hs
  dsimp only at hs ⊢
  rcases s_ite hs with ⟨c, hs⟩ | ⟨-, hs⟩
  · subst c
    unfold U_X8_seenAt_0 at hs
    obtain ⟨a0, g0, hs⟩ := s_bind hs
    obtain ⟨a1, g1, hs⟩ := s_bind hs
    obtain ⟨u9, ge, hs⟩ := s_bind hs
    exact l_X8_seenAt_0 hs
  rcases s_ite hs with ⟨c, hs⟩ | ⟨-, hs⟩
  · subst c
    unfold U_X8_seenAt_2 at hs
    obtain ⟨a0, g0, hs⟩ := s_bind hs
    obtain ⟨a1, g1, hs⟩ := s_bind hs
    obtain ⟨a2, g2, hs⟩ := s_bind hs
    obtain ⟨u9, ge, hs⟩ := s_bind hs
    exact l_X8_seenAt_2 hs
  cases hs
theorem l_X8_seenAt {v0 : Nat} {v1 : Int32} {σ : sS} {q : Int32 × sS} (h : F_X8_seenAt v0 v1 σ = some q) : s_le σ q.2 := by
  unfold F_X8_seenAt at h
  obtain ⟨-, -, h⟩ := s_bind h
  exact s_run_ind (V := fun x r => s_le x.2.2 r.2) (fun x z r hs hk => by
    have h9 := l_X8_seenAt_s hs
    cases z with
    | inl y => exact s_le.tr h9 hk
    | inr q => cases hk; exact h9) h
theorem b_X8_seenAt {v0 : Nat} {v1 : Int32} {σ : sS} {q : Int32 × sS} (h : F_X8_seenAt v0 v1 σ = some q) : ∃ fs, σ.1 v0 = some (.inr (8, fs)) := by
  unfold F_X8_seenAt at h
  obtain ⟨u, hu, -⟩ := s_bind h
  exact s_is_to hu
set_option maxRecDepth 100000 in
set_option maxHeartbeats 4000000 in
theorem v_X8_seenAt_0 {G : sG} {d : Nat} {vs0 : List Value} {σ0 : sS} {v0 : Nat} {v1 : Int32} {σ : sS} {z : sZ Int32} {r : Int32 × sS} (hf : T_X8_seenAt_0 v0 v1 σ = some z) (k : s_K G (d + 4) M_X8_seenAt vs0 σ0 Y_X8_seenAt e_I z r) : s_V G (d + 4) M_X8_seenAt vs0 σ0 Y_X8_seenAt (0, [.ref v0, .int v1], σ) (e_I r) := by
  have le0 : s_le σ (e_I r).2 := s_lek hem_I (l_X8_seenAt_0 hf) k
  refine ⟨le0, ?_⟩
  intro p e s m below meth c H locs cells slots ls X I hn1 hn2 hl
  have hn : cells + σ0.2.1 ≤ σ.2.1 ∧ slots + σ0.2.2.1 ≤ σ.2.2.1 := ⟨hn1, hn2⟩
  have hl : lv_has ls 3 [(0, .ref v0), (1, .int v1)] := hl
  have hx := X.1
  have hb : c.code = cX8_seenAt := X.2.1
  have hown : s.vm.findClass RX8 = some m.cls := X.2.2.2.2.2.1
  have hts := X.2.2.2.2.2.2.1
  refine W.eq (g2 := F0 m 0 ls []) rfl ?_
  unfold T_X8_seenAt_0 at hf
  cases hf
  have k : s_V G (d + 4) M_X8_seenAt vs0 σ0 Y_X8_seenAt (2, [.ref v0, .int v1, .int 0], σ) (e_I r) := k
  refine lv_iconst (v := 0) hx hb dX8_seenAt_0 (by decide) ?_
  refine lv_istore_n (lv' := [(2, .int 0), (0, .ref v0), (1, .int v1)]) hx hb dX8_seenAt_1 rfl hl (by decide) rfl (fun ls hl => ?_)
  exact k.2 p e s m below meth c _ _ _ _ _ X I hn.1 hn.2 (lv_sub hl [1, 2, 0] rfl)
set_option maxRecDepth 100000 in
set_option maxHeartbeats 4000000 in
theorem v_X8_seenAt_2 {G : sG} {d : Nat} {vs0 : List Value} {σ0 : sS} {v0 : Nat} {v1 : Int32} {v2 : Int32} {σ : sS} {z : sZ Int32} {r : Int32 × sS} (hf : T_X8_seenAt_2 v0 v1 v2 σ = some z) (k : s_K G (d + 4) M_X8_seenAt vs0 σ0 Y_X8_seenAt e_I z r) : s_V G (d + 4) M_X8_seenAt vs0 σ0 Y_X8_seenAt (2, [.ref v0, .int v1, .int v2], σ) (e_I r) := by
  have le0 : s_le σ (e_I r).2 := s_lek hem_I (l_X8_seenAt_2 hf) k
  refine ⟨le0, ?_⟩
  intro p e s m below meth c H locs cells slots ls X I hn1 hn2 hl
  have hn : cells + σ0.2.1 ≤ σ.2.1 ∧ slots + σ0.2.2.1 ≤ σ.2.2.1 := ⟨hn1, hn2⟩
  have hl : lv_has ls 3 [(0, .ref v0), (1, .int v1), (2, .int v2)] := hl
  have hx := X.1
  have hb : c.code = cX8_seenAt := X.2.1
  have hown : s.vm.findClass RX8 = some m.cls := X.2.2.2.2.2.1
  have hts := X.2.2.2.2.2.2.1
  refine W.eq (g2 := F0 m 2 ls []) rfl ?_
  unfold T_X8_seenAt_2 at hf
  obtain ⟨x1, h1, hf⟩ := s_bind hf
  refine lv_iload_n hx hb dX8_seenAt_2 rfl (lv_at hl 2 rfl) ?_
  refine lv_aload_n hx hb dX8_seenAt_3 rfl (lv_at hl 0 rfl) ?_
  refine r_gi X I fl_X8_360 h1 dX8_seenAt_4 ?_
  rcases s_ite hf with ⟨c2, hf⟩ | ⟨c2, hf⟩
  · refine lv_icmp_ge (tgt := 30) hx hb dX8_seenAt_7 (by decide) (fun _ => ?_) (fun n => absurd c2 n)
    cases hf
    have k : _ = r := k
    subst k
    refine lv_iconst (v := (-1)) hx hb dX8_seenAt_30 (by decide) ?_
    exact r_iret X I rfl rfl rfl hn dX8_seenAt_31
  · refine lv_icmp_ge (tgt := 30) hx hb dX8_seenAt_7 (by decide) (fun n => absurd n c2) (fun _ => ?_)
    obtain ⟨q2, h3, hf⟩ := s_bind hf
    have le4 : s_le q2.2 (e_I r).2 := by
      refine s_lek hem_I ?_ k
      rcases s_ite hf with ⟨-, hf⟩ | ⟨-, hf⟩
      · cases hf
        exact s_le.rf
      · cases hf
        exact s_le.rf
    refine lv_aload_n hx hb dX8_seenAt_10 rfl (lv_at hl 0 rfl) ?_
    refine lv_bipush (v := 30) hx hb dX8_seenAt_11 (by decide) ?_
    refine lv_iload_n hx hb dX8_seenAt_13 rfl (lv_at hl 2 rfl) ?_
    refine lv_iadd hx hb dX8_seenAt_14 ?_
    refine lv_iload_n hx hb dX8_seenAt_15 rfl (lv_at hl 1 rfl) ?_
    refine r_callV (Y := M_X8_isSame) (v := some (.int q2.1)) X I w_1924 my_X8_isSame (by omega) (t_X8_isSame (G := G) (d := d + 0) h3) (b_X8_isSame h3) rfl rfl hl.1 rfl (Nat.le_of_ble_eq_true rfl) hn le4 dX8_seenAt_16 (fun H locs cells slots I hn1 hn2 => ?_)
    have I : s_I G q2.2 s H locs := I
    have hn : cells + σ0.2.1 ≤ q2.2.2.1 ∧ slots + σ0.2.2.1 ≤ q2.2.2.2.1 := ⟨hn1, hn2⟩
    rcases s_ite hf with ⟨c5, hf⟩ | ⟨c5, hf⟩
    · refine lv_if_eq (tgt := 24) hx hb dX8_seenAt_19 (by decide) (fun _ => ?_) (fun n => absurd c5 n)
      cases hf
      have k : s_V G (d + 4) M_X8_seenAt vs0 σ0 Y_X8_seenAt (2, [.ref v0, .int v1, .int (v2 + 1)], q2.2) (e_I r) := k
      refine lv_iinc (v := (v2 + 1)) (lv' := [(2, .int (v2 + 1)), (0, .ref v0), (1, .int v1)]) hx hb dX8_seenAt_24 hl (k := 2) rfl rfl (by decide) rfl (fun ls hl => ?_)
      refine lv_goto (tgt := 2) hx hb dX8_seenAt_27 (by decide) ?_
      exact k.2 p e s m below meth c _ _ _ _ _ X I hn.1 hn.2 (lv_sub hl [1, 2, 0] rfl)
    · refine lv_if_eq (tgt := 24) hx hb dX8_seenAt_19 (by decide) (fun n => absurd n c5) (fun _ => ?_)
      cases hf
      have k : _ = r := k
      subst k
      refine lv_iload_n hx hb dX8_seenAt_22 rfl (lv_at hl 2 rfl) ?_
      exact r_iret X I rfl rfl rfl hn dX8_seenAt_23
theorem v_X8_seenAt {G : sG} {d : Nat} {vs0 : List Value} {σ0 : sS} {x : sL} {z : sZ Int32} {r : Int32 × sS} (hs : S_X8_seenAt x = some z) (k : s_K G (d + 4) M_X8_seenAt vs0 σ0 Y_X8_seenAt e_I z r) : s_V G (d + 4) M_X8_seenAt vs0 σ0 Y_X8_seenAt x (e_I r) := by
  obtain ⟨pc, vs, σ⟩ := x
  unfold S_X8_seenAt at hs
  dsimp only at hs
  rcases s_ite hs with ⟨c, hs⟩ | ⟨-, hs⟩
  · subst c
    unfold U_X8_seenAt_0 at hs
    obtain ⟨a0, g0, hs⟩ := s_bind hs
    obtain ⟨a1, g1, hs⟩ := s_bind hs
    obtain ⟨u9, ge, hs⟩ := s_bind hs
    rw [g_r_to g0, g_i_to g1, g_e_to ge]
    exact v_X8_seenAt_0 hs k
  rcases s_ite hs with ⟨c, hs⟩ | ⟨-, hs⟩
  · subst c
    unfold U_X8_seenAt_2 at hs
    obtain ⟨a0, g0, hs⟩ := s_bind hs
    obtain ⟨a1, g1, hs⟩ := s_bind hs
    obtain ⟨a2, g2, hs⟩ := s_bind hs
    obtain ⟨u9, ge, hs⟩ := s_bind hs
    rw [g_r_to g0, g_i_to g1, g_i_to g2, g_e_to ge]
    exact v_X8_seenAt_2 hs k
  cases hs
theorem t_X8_seenAt {G : sG} {d : Nat} {v0 : Nat} {v1 : Int32} {σ : sS} {q : Int32 × sS} (h : F_X8_seenAt v0 v1 σ = some q) : s_T G (d + 4) M_X8_seenAt [.ref v0, .int v1] σ (e_I q) := by
  unfold F_X8_seenAt at h
  obtain ⟨-, -, h⟩ := s_bind h
  exact s_ofV rfl (by decide) (Nat.le_of_ble_eq_true rfl) rfl rfl (s_run_ind (V := fun x r => s_V G (d + 4) M_X8_seenAt [.ref v0, .int v1] σ Y_X8_seenAt x (e_I r)) (fun x z r hs hk => v_X8_seenAt hs (by cases z <;> exact hk)) h)
/-! X8_partAt -/
noncomputable def T_X8_partAt_0 (v0 : Nat) (v1 : Int32) (v2 : Int32) (v3 : Int32) (v4 : Int32) (σ : sS) : Option (sZ Int32) :=
  (F_X8_copies v0 v1 v2 v3 v4 71 σ).bind fun q1 =>
  (F_X8_seenAt v0 71 q1.2).bind fun q2 =>
  some (.inr (q2.1, q2.2))
noncomputable def U_X8_partAt_0 (vs : List Value) (σ : sS) : Option (sZ Int32) := (g_r vs).bind fun a0 => (g_i a0.2).bind fun a1 => (g_i a1.2).bind fun a2 => (g_i a2.2).bind fun a3 => (g_i a3.2).bind fun a4 => (g_e a4.2).bind fun _ => T_X8_partAt_0 a0.1 a1.1 a2.1 a3.1 a4.1 σ
noncomputable def S_X8_partAt (x : sL) : Option (sZ Int32) := if x.1 = 0 then U_X8_partAt_0 x.2.1 x.2.2 else none
def Y_X8_partAt (pc : Nat) : List Nat := if pc = 0 then [0, 1, 2, 3, 4] else []
noncomputable def F_X8_partAt (v0 : Nat) (v1 : Int32) (v2 : Int32) (v3 : Int32) (v4 : Int32) (σ : sS) : Option (Int32 × sS) := (s_is σ v0 8).bind fun _ => s_run S_X8_partAt (0, [.ref v0, .int v1, .int v2, .int v3, .int v4], σ)
theorem l_X8_partAt_0 {v0 : Nat} {v1 : Int32} {v2 : Int32} {v3 : Int32} {v4 : Int32} {σ : sS} {z : sZ Int32} (hf : T_X8_partAt_0 v0 v1 v2 v3 v4 σ = some z) : s_lz σ z := by
  unfold T_X8_partAt_0 at hf
  obtain ⟨q1, hh, hf⟩ := s_bind hf
  refine s_lz.tr (l_X8_copies hh) ?_
  obtain ⟨q2, hh, hf⟩ := s_bind hf
  refine s_lz.tr (l_X8_seenAt hh) ?_
  cases hf
  exact s_le.rf
theorem l_X8_partAt_s {x : sL} {z : sZ Int32} (hs : S_X8_partAt x = some z) : s_lz x.2.2 z := by
  obtain ⟨pc, vs, σ⟩ := x
  unfold S_X8_partAt at hs
  dsimp only at hs ⊢
  rcases s_ite hs with ⟨c, hs⟩ | ⟨-, hs⟩
  · subst c
    unfold U_X8_partAt_0 at hs
    obtain ⟨a0, g0, hs⟩ := s_bind hs
    obtain ⟨a1, g1, hs⟩ := s_bind hs
    obtain ⟨a2, g2, hs⟩ := s_bind hs
    obtain ⟨a3, g3, hs⟩ := s_bind hs
    obtain ⟨a4, g4, hs⟩ := s_bind hs
    obtain ⟨u9, ge, hs⟩ := s_bind hs
    exact l_X8_partAt_0 hs
  cases hs
theorem l_X8_partAt {v0 : Nat} {v1 : Int32} {v2 : Int32} {v3 : Int32} {v4 : Int32} {σ : sS} {q : Int32 × sS} (h : F_X8_partAt v0 v1 v2 v3 v4 σ = some q) : s_le σ q.2 := by
  unfold F_X8_partAt at h
  obtain ⟨-, -, h⟩ := s_bind h
  exact s_run_ind (V := fun x r => s_le x.2.2 r.2) (fun x z r hs hk => by
    have h9 := l_X8_partAt_s hs
    cases z with
    | inl y => exact s_le.tr h9 hk
    | inr q => cases hk; exact h9) h
theorem b_X8_partAt {v0 : Nat} {v1 : Int32} {v2 : Int32} {v3 : Int32} {v4 : Int32} {σ : sS} {q : Int32 × sS} (h : F_X8_partAt v0 v1 v2 v3 v4 σ = some q) : ∃ fs, σ.1 v0 = some (.inr (8, fs)) := by
  unfold F_X8_partAt at h
  obtain ⟨u, hu, -⟩ := s_bind h
  exact s_is_to hu
set_option maxRecDepth 100000 in
set_option maxHeartbeats 4000000 in
theorem v_X8_partAt_0 {G : sG} {d : Nat} {vs0 : List Value} {σ0 : sS} {v0 : Nat} {v1 : Int32} {v2 : Int32} {v3 : Int32} {v4 : Int32} {σ : sS} {z : sZ Int32} {r : Int32 × sS} (hf : T_X8_partAt_0 v0 v1 v2 v3 v4 σ = some z) (k : s_K G (d + 5) M_X8_partAt vs0 σ0 Y_X8_partAt e_I z r) : s_V G (d + 5) M_X8_partAt vs0 σ0 Y_X8_partAt (0, [.ref v0, .int v1, .int v2, .int v3, .int v4], σ) (e_I r) := by
  have le0 : s_le σ (e_I r).2 := s_lek hem_I (l_X8_partAt_0 hf) k
  refine ⟨le0, ?_⟩
  intro p e s m below meth c H locs cells slots ls X I hn1 hn2 hl
  have hn : cells + σ0.2.1 ≤ σ.2.1 ∧ slots + σ0.2.2.1 ≤ σ.2.2.1 := ⟨hn1, hn2⟩
  have hl : lv_has ls 5 [(0, .ref v0), (1, .int v1), (2, .int v2), (3, .int v3), (4, .int v4)] := hl
  have hx := X.1
  have hb : c.code = cX8_partAt := X.2.1
  have hown : s.vm.findClass RX8 = some m.cls := X.2.2.2.2.2.1
  have hts := X.2.2.2.2.2.2.1
  refine W.eq (g2 := F0 m 0 ls []) rfl ?_
  unfold T_X8_partAt_0 at hf
  obtain ⟨q1, h1, hf⟩ := s_bind hf
  obtain ⟨q2, h2, hf⟩ := s_bind hf
  cases hf
  have k : _ = r := k
  subst k
  have le3 : s_le q2.2 q2.2 := s_le.rf
  have le4 := s_le.tr (l_X8_seenAt h2) le3
  refine lv_aload_n hx hb dX8_partAt_0 rfl (lv_at hl 0 rfl) ?_
  refine lv_iload_n hx hb dX8_partAt_1 rfl (lv_at hl 1 rfl) ?_
  refine lv_iload_n hx hb dX8_partAt_2 rfl (lv_at hl 2 rfl) ?_
  refine lv_iload_n hx hb dX8_partAt_3 rfl (lv_at hl 3 rfl) ?_
  refine lv_iload hx hb dX8_partAt_4 (lv_at hl 4 rfl) ?_
  refine lv_bipush (v := 71) hx hb dX8_partAt_6 (by decide) ?_
  refine r_callV (Y := M_X8_copies) (v := none) X I w_2228 my_X8_copies (by omega) (t_X8_copies (G := G) (d := d + 2) h1) (b_X8_copies h1) rfl rfl hl.1 rfl (Nat.le_of_ble_eq_true rfl) hn le4 dX8_partAt_8 (fun H locs cells slots I hn1 hn2 => ?_)
  have I : s_I G q1.2 s H locs := I
  have hn : cells + σ0.2.1 ≤ q1.2.2.1 ∧ slots + σ0.2.2.1 ≤ q1.2.2.2.1 := ⟨hn1, hn2⟩
  refine lv_aload_n hx hb dX8_partAt_11 rfl (lv_at hl 0 rfl) ?_
  refine lv_bipush (v := 71) hx hb dX8_partAt_12 (by decide) ?_
  refine r_callV (Y := M_X8_seenAt) (v := some (.int q2.1)) X I w_2232 my_X8_seenAt (by omega) (t_X8_seenAt (G := G) (d := d + 0) h2) (b_X8_seenAt h2) rfl rfl hl.1 rfl (Nat.le_of_ble_eq_true rfl) hn le3 dX8_partAt_14 (fun H locs cells slots I hn1 hn2 => ?_)
  have I : s_I G q2.2 s H locs := I
  have hn : cells + σ0.2.1 ≤ q2.2.2.1 ∧ slots + σ0.2.2.1 ≤ q2.2.2.2.1 := ⟨hn1, hn2⟩
  exact r_iret X I rfl rfl rfl hn dX8_partAt_17
theorem v_X8_partAt {G : sG} {d : Nat} {vs0 : List Value} {σ0 : sS} {x : sL} {z : sZ Int32} {r : Int32 × sS} (hs : S_X8_partAt x = some z) (k : s_K G (d + 5) M_X8_partAt vs0 σ0 Y_X8_partAt e_I z r) : s_V G (d + 5) M_X8_partAt vs0 σ0 Y_X8_partAt x (e_I r) := by
  obtain ⟨pc, vs, σ⟩ := x
  unfold S_X8_partAt at hs
  dsimp only at hs
  rcases s_ite hs with ⟨c, hs⟩ | ⟨-, hs⟩
  · subst c
    unfold U_X8_partAt_0 at hs
    obtain ⟨a0, g0, hs⟩ := s_bind hs
    obtain ⟨a1, g1, hs⟩ := s_bind hs
    obtain ⟨a2, g2, hs⟩ := s_bind hs
    obtain ⟨a3, g3, hs⟩ := s_bind hs
    obtain ⟨a4, g4, hs⟩ := s_bind hs
    obtain ⟨u9, ge, hs⟩ := s_bind hs
    rw [g_r_to g0, g_i_to g1, g_i_to g2, g_i_to g3, g_i_to g4, g_e_to ge]
    exact v_X8_partAt_0 hs k
  cases hs
theorem t_X8_partAt {G : sG} {d : Nat} {v0 : Nat} {v1 : Int32} {v2 : Int32} {v3 : Int32} {v4 : Int32} {σ : sS} {q : Int32 × sS} (h : F_X8_partAt v0 v1 v2 v3 v4 σ = some q) : s_T G (d + 5) M_X8_partAt [.ref v0, .int v1, .int v2, .int v3, .int v4] σ (e_I q) := by
  unfold F_X8_partAt at h
  obtain ⟨-, -, h⟩ := s_bind h
  exact s_ofV rfl (by decide) (Nat.le_of_ble_eq_true rfl) rfl rfl (s_run_ind (V := fun x r => s_V G (d + 5) M_X8_partAt [.ref v0, .int v1, .int v2, .int v3, .int v4] σ Y_X8_partAt x (e_I r)) (fun x z r hs hk => v_X8_partAt hs (by cases z <;> exact hk)) h)
/-! X8_looksAll -/
noncomputable def T_X8_looksAll_0 (v0 : Nat) (v1 : Int32) (v2 : Int32) (σ : sS) : Option (sZ Unit) :=
  (s_pf σ v0 8 33 (.int 0)).bind fun σ1 =>
  (s_pf σ1 v0 8 38 (.int 0)).bind fun σ2 =>
  (F_X8_formulas v0 σ2).bind fun q3 =>
  some (.inl (17, [.ref v0, .int v1, .int v2, .int (q3.1 - 1)], q3.2))
noncomputable def U_X8_looksAll_0 (vs : List Value) (σ : sS) : Option (sZ Unit) := (g_r vs).bind fun a0 => (g_i a0.2).bind fun a1 => (g_i a1.2).bind fun a2 => (g_e a2.2).bind fun _ => T_X8_looksAll_0 a0.1 a1.1 a2.1 σ
noncomputable def T_X8_looksAll_17 (v0 : Nat) (v1 : Int32) (v2 : Int32) (v3 : Int32) (σ : sS) : Option (sZ Unit) :=
  if v3 < 0 then ((s_fr σ v0 8 4).bind fun x1 =>
  (s_ai σ x1 v1).bind fun x2 =>
  (F_X8_adds v0 v1 0 x2 (-1) σ).bind fun q3 =>
  some (.inl (62, [.ref v0], q3.2)))
  else (if ((v2 >>> (v3 &&& 31)) &&& 1) = 1 then ((s_fr σ v0 8 4).bind fun x4 =>
  (s_ai σ x4 v3).bind fun x5 =>
  (F_X8_adds v0 v3 0 x5 (-1) σ).bind fun q6 =>
  some (.inl (43, [.ref v0, .int v1, .int v2, .int v3], q6.2)))
  else (some (.inl (43, [.ref v0, .int v1, .int v2, .int v3], σ))))
noncomputable def U_X8_looksAll_17 (vs : List Value) (σ : sS) : Option (sZ Unit) := (g_r vs).bind fun a0 => (g_i a0.2).bind fun a1 => (g_i a1.2).bind fun a2 => (g_i a2.2).bind fun a3 => (g_e a3.2).bind fun _ => T_X8_looksAll_17 a0.1 a1.1 a2.1 a3.1 σ
noncomputable def T_X8_looksAll_43 (v0 : Nat) (v1 : Int32) (v2 : Int32) (v3 : Int32) (σ : sS) : Option (sZ Unit) :=
  some (.inl (17, [.ref v0, .int v1, .int v2, .int (v3 + (-1))], σ))
noncomputable def U_X8_looksAll_43 (vs : List Value) (σ : sS) : Option (sZ Unit) := (g_r vs).bind fun a0 => (g_i a0.2).bind fun a1 => (g_i a1.2).bind fun a2 => (g_i a2.2).bind fun a3 => (g_e a3.2).bind fun _ => T_X8_looksAll_43 a0.1 a1.1 a2.1 a3.1 σ
noncomputable def T_X8_looksAll_62 (v0 : Nat) (σ : sS) : Option (sZ Unit) :=
  (s_fi σ v0 8 38).bind fun x1 =>
  if x1 ≤ 0 then (some (.inr ((), σ)))
  else ((s_fi σ v0 8 33).bind fun x2 =>
  if (40 : Int32) ≤ x2 then (some (.inr ((), σ)))
  else ((s_fi σ v0 8 38).bind fun x3 =>
  (s_pf σ v0 8 38 (.int (x3 - 1))).bind fun σ4 =>
  (s_fi σ4 v0 8 38).bind fun x5 =>
  (s_fr σ4 v0 8 37).bind fun x6 =>
  (s_ai σ4 x6 (4 * x5)).bind fun x7 =>
  (s_fr σ4 v0 8 37).bind fun x8 =>
  (s_ai σ4 x8 ((4 * x5) + 1)).bind fun x9 =>
  (s_fr σ4 v0 8 37).bind fun x10 =>
  (s_ai σ4 x10 ((4 * x5) + 2)).bind fun x11 =>
  (s_fr σ4 v0 8 37).bind fun x12 =>
  (s_ai σ4 x12 ((4 * x5) + 3)).bind fun x13 =>
  (F_X8_partAt v0 x7 x9 x11 x13 σ4).bind fun q14 =>
  if q14.1 < 0 then ((s_fi q14.2 v0 8 33).bind fun x15 =>
  (s_fr q14.2 v0 8 4).bind fun x16 =>
  (s_ai q14.2 x16 71).bind fun x17 =>
  (F_X8_copies v0 71 0 x17 (-1) (30 + x15) q14.2).bind fun q18 =>
  (s_fi q18.2 v0 8 33).bind fun x19 =>
  (s_pf q18.2 v0 8 33 (.int (x19 + 1))).bind fun σ20 =>
  (F_X8_at v0 (30 + x15) 0 σ20).bind fun q21 =>
  (F_X8_isJoining q21.1 q21.2).bind fun q22 =>
  if q22.1 = 0 then (if q21.1 = 12 then ((s_fr q22.2 v0 8 4).bind fun x25 =>
  (s_ai q22.2 x25 (30 + x15)).bind fun x26 =>
  (F_X8_adds v0 (30 + x15) 1 x26 (-1) q22.2).bind fun q27 =>
  some (.inl (295, [.ref v0], q27.2)))
  else ((F_X8_isLone q21.1 q22.2).bind fun q23 =>
  if q23.1 = 0 then (some (.inl (295, [.ref v0], q23.2)))
  else ((F_X8_d v0 q23.2).bind fun q24 =>
  some (.inl (268, [.ref v0, .int (30 + x15), .int (q24.1 - 1)], q24.2)))))
  else ((F_X8_endOf v0 (30 + x15) 1 q22.2).bind fun q28 =>
  (s_fr q28.2 v0 8 4).bind fun x29 =>
  (s_ai q28.2 x29 (30 + x15)).bind fun x30 =>
  (F_X8_adds v0 (30 + x15) q28.1 x30 (-1) q28.2).bind fun q31 =>
  (F_X8_endOf v0 (30 + x15) 1 q31.2).bind fun q32 =>
  (F_X8_adds v0 (30 + x15) 1 q32.1 (-1) q32.2).bind fun q33 =>
  some (.inl (295, [.ref v0], q33.2))))
  else (some (.inl (62, [.ref v0], q14.2)))))
noncomputable def U_X8_looksAll_62 (vs : List Value) (σ : sS) : Option (sZ Unit) := (g_r vs).bind fun a0 => (g_e a0.2).bind fun _ => T_X8_looksAll_62 a0.1 σ
noncomputable def T_X8_looksAll_268 (v0 : Nat) (v4 : Int32) (v6 : Int32) (σ : sS) : Option (sZ Unit) :=
  if v6 < 0 then (some (.inl (295, [.ref v0], σ)))
  else ((s_fr σ v0 8 4).bind fun x1 =>
  (s_ai σ x1 v4).bind fun x2 =>
  (F_X8_adds v0 v4 1 x2 v6 σ).bind fun q3 =>
  some (.inl (268, [.ref v0, .int v4, .int (v6 + (-1))], q3.2)))
noncomputable def U_X8_looksAll_268 (vs : List Value) (σ : sS) : Option (sZ Unit) := (g_r vs).bind fun a0 => (g_i a0.2).bind fun a1 => (g_i a1.2).bind fun a2 => (g_e a2.2).bind fun _ => T_X8_looksAll_268 a0.1 a1.1 a2.1 σ
noncomputable def T_X8_looksAll_295 (v0 : Nat) (σ : sS) : Option (sZ Unit) :=
  some (.inl (62, [.ref v0], σ))
noncomputable def U_X8_looksAll_295 (vs : List Value) (σ : sS) : Option (sZ Unit) := (g_r vs).bind fun a0 => (g_e a0.2).bind fun _ => T_X8_looksAll_295 a0.1 σ
noncomputable def S_X8_looksAll (x : sL) : Option (sZ Unit) := if x.1 = 0 then U_X8_looksAll_0 x.2.1 x.2.2 else if x.1 = 17 then U_X8_looksAll_17 x.2.1 x.2.2 else if x.1 = 43 then U_X8_looksAll_43 x.2.1 x.2.2 else if x.1 = 62 then U_X8_looksAll_62 x.2.1 x.2.2 else if x.1 = 268 then U_X8_looksAll_268 x.2.1 x.2.2 else if x.1 = 295 then U_X8_looksAll_295 x.2.1 x.2.2 else none
def Y_X8_looksAll (pc : Nat) : List Nat := if pc = 0 then [0, 1, 2] else if pc = 17 then [0, 1, 2, 3] else if pc = 43 then [0, 1, 2, 3] else if pc = 62 then [0] else if pc = 268 then [0, 4, 6] else if pc = 295 then [0] else []
noncomputable def F_X8_looksAll (v0 : Nat) (v1 : Int32) (v2 : Int32) (σ : sS) : Option (Unit × sS) := (s_is σ v0 8).bind fun _ => s_run S_X8_looksAll (0, [.ref v0, .int v1, .int v2], σ)
theorem l_X8_looksAll_0 {v0 : Nat} {v1 : Int32} {v2 : Int32} {σ : sS} {z : sZ Unit} (hf : T_X8_looksAll_0 v0 v1 v2 σ = some z) : s_lz σ z := by
  unfold T_X8_looksAll_0 at hf
  obtain ⟨σ1, hh, hf⟩ := s_bind hf
  refine s_lz.tr (s_le2 (s_pf_2 hh)) ?_
  obtain ⟨σ2, hh, hf⟩ := s_bind hf
  refine s_lz.tr (s_le2 (s_pf_2 hh)) ?_
  obtain ⟨q3, hh, hf⟩ := s_bind hf
  refine s_lz.tr (l_X8_formulas hh) ?_
  cases hf
  exact s_le.rf
theorem l_X8_looksAll_17 {v0 : Nat} {v1 : Int32} {v2 : Int32} {v3 : Int32} {σ : sS} {z : sZ Unit} (hf : T_X8_looksAll_17 v0 v1 v2 v3 σ = some z) : s_lz σ z := by
  unfold T_X8_looksAll_17 at hf
  rcases s_ite hf with ⟨-, hf⟩ | ⟨-, hf⟩
  · obtain ⟨x1, -, hf⟩ := s_bind hf
    obtain ⟨x2, -, hf⟩ := s_bind hf
    obtain ⟨q3, hh, hf⟩ := s_bind hf
    refine s_lz.tr (l_X8_adds hh) ?_
    cases hf
    exact s_le.rf
  · rcases s_ite hf with ⟨-, hf⟩ | ⟨-, hf⟩
    · obtain ⟨x4, -, hf⟩ := s_bind hf
      obtain ⟨x5, -, hf⟩ := s_bind hf
      obtain ⟨q6, hh, hf⟩ := s_bind hf
      refine s_lz.tr (l_X8_adds hh) ?_
      cases hf
      exact s_le.rf
    · cases hf
      exact s_le.rf
theorem l_X8_looksAll_43 {v0 : Nat} {v1 : Int32} {v2 : Int32} {v3 : Int32} {σ : sS} {z : sZ Unit} (hf : T_X8_looksAll_43 v0 v1 v2 v3 σ = some z) : s_lz σ z := by
  unfold T_X8_looksAll_43 at hf
  cases hf
  exact s_le.rf
theorem l_X8_looksAll_62 {v0 : Nat} {σ : sS} {z : sZ Unit} (hf : T_X8_looksAll_62 v0 σ = some z) : s_lz σ z := by
  unfold T_X8_looksAll_62 at hf
  obtain ⟨x1, -, hf⟩ := s_bind hf
  rcases s_ite hf with ⟨-, hf⟩ | ⟨-, hf⟩
  · cases hf
    exact s_le.rf
  · obtain ⟨x2, -, hf⟩ := s_bind hf
    rcases s_ite hf with ⟨-, hf⟩ | ⟨-, hf⟩
    · cases hf
      exact s_le.rf
    · obtain ⟨x3, -, hf⟩ := s_bind hf
      obtain ⟨σ4, hh, hf⟩ := s_bind hf
      refine s_lz.tr (s_le2 (s_pf_2 hh)) ?_
      obtain ⟨x5, -, hf⟩ := s_bind hf
      obtain ⟨x6, -, hf⟩ := s_bind hf
      obtain ⟨x7, -, hf⟩ := s_bind hf
      obtain ⟨x8, -, hf⟩ := s_bind hf
      obtain ⟨x9, -, hf⟩ := s_bind hf
      obtain ⟨x10, -, hf⟩ := s_bind hf
      obtain ⟨x11, -, hf⟩ := s_bind hf
      obtain ⟨x12, -, hf⟩ := s_bind hf
      obtain ⟨x13, -, hf⟩ := s_bind hf
      obtain ⟨q14, hh, hf⟩ := s_bind hf
      refine s_lz.tr (l_X8_partAt hh) ?_
      rcases s_ite hf with ⟨-, hf⟩ | ⟨-, hf⟩
      · obtain ⟨x15, -, hf⟩ := s_bind hf
        obtain ⟨x16, -, hf⟩ := s_bind hf
        obtain ⟨x17, -, hf⟩ := s_bind hf
        obtain ⟨q18, hh, hf⟩ := s_bind hf
        refine s_lz.tr (l_X8_copies hh) ?_
        obtain ⟨x19, -, hf⟩ := s_bind hf
        obtain ⟨σ20, hh, hf⟩ := s_bind hf
        refine s_lz.tr (s_le2 (s_pf_2 hh)) ?_
        obtain ⟨q21, hh, hf⟩ := s_bind hf
        refine s_lz.tr (l_X8_at hh) ?_
        obtain ⟨q22, hh, hf⟩ := s_bind hf
        refine s_lz.tr (l_X8_isJoining hh) ?_
        rcases s_ite hf with ⟨-, hf⟩ | ⟨-, hf⟩
        · rcases s_ite hf with ⟨-, hf⟩ | ⟨-, hf⟩
          · obtain ⟨x25, -, hf⟩ := s_bind hf
            obtain ⟨x26, -, hf⟩ := s_bind hf
            obtain ⟨q27, hh, hf⟩ := s_bind hf
            refine s_lz.tr (l_X8_adds hh) ?_
            cases hf
            exact s_le.rf
          · obtain ⟨q23, hh, hf⟩ := s_bind hf
            refine s_lz.tr (l_X8_isLone hh) ?_
            rcases s_ite hf with ⟨-, hf⟩ | ⟨-, hf⟩
            · cases hf
              exact s_le.rf
            · obtain ⟨q24, hh, hf⟩ := s_bind hf
              refine s_lz.tr (l_X8_d hh) ?_
              cases hf
              exact s_le.rf
        · obtain ⟨q28, hh, hf⟩ := s_bind hf
          refine s_lz.tr (l_X8_endOf hh) ?_
          obtain ⟨x29, -, hf⟩ := s_bind hf
          obtain ⟨x30, -, hf⟩ := s_bind hf
          obtain ⟨q31, hh, hf⟩ := s_bind hf
          refine s_lz.tr (l_X8_adds hh) ?_
          obtain ⟨q32, hh, hf⟩ := s_bind hf
          refine s_lz.tr (l_X8_endOf hh) ?_
          obtain ⟨q33, hh, hf⟩ := s_bind hf
          refine s_lz.tr (l_X8_adds hh) ?_
          cases hf
          exact s_le.rf
      · cases hf
        exact s_le.rf
theorem l_X8_looksAll_268 {v0 : Nat} {v4 : Int32} {v6 : Int32} {σ : sS} {z : sZ Unit} (hf : T_X8_looksAll_268 v0 v4 v6 σ = some z) : s_lz σ z := by
  unfold T_X8_looksAll_268 at hf
  rcases s_ite hf with ⟨-, hf⟩ | ⟨-, hf⟩
  · cases hf
    exact s_le.rf
  · obtain ⟨x1, -, hf⟩ := s_bind hf
    obtain ⟨x2, -, hf⟩ := s_bind hf
    obtain ⟨q3, hh, hf⟩ := s_bind hf
    refine s_lz.tr (l_X8_adds hh) ?_
    cases hf
    exact s_le.rf
theorem l_X8_looksAll_295 {v0 : Nat} {σ : sS} {z : sZ Unit} (hf : T_X8_looksAll_295 v0 σ = some z) : s_lz σ z := by
  unfold T_X8_looksAll_295 at hf
  cases hf
  exact s_le.rf
theorem l_X8_looksAll_s {x : sL} {z : sZ Unit} (hs : S_X8_looksAll x = some z) : s_lz x.2.2 z := by
  obtain ⟨pc, vs, σ⟩ := x
  unfold S_X8_looksAll at hs
  dsimp only at hs ⊢
  rcases s_ite hs with ⟨c, hs⟩ | ⟨-, hs⟩
  · subst c
    unfold U_X8_looksAll_0 at hs
    obtain ⟨a0, g0, hs⟩ := s_bind hs
    obtain ⟨a1, g1, hs⟩ := s_bind hs
    obtain ⟨a2, g2, hs⟩ := s_bind hs
    obtain ⟨u9, ge, hs⟩ := s_bind hs
    exact l_X8_looksAll_0 hs
  rcases s_ite hs with ⟨c, hs⟩ | ⟨-, hs⟩
  · subst c
    unfold U_X8_looksAll_17 at hs
    obtain ⟨a0, g0, hs⟩ := s_bind hs
    obtain ⟨a1, g1, hs⟩ := s_bind hs
    obtain ⟨a2, g2, hs⟩ := s_bind hs
    obtain ⟨a3, g3, hs⟩ := s_bind hs
    obtain ⟨u9, ge, hs⟩ := s_bind hs
    exact l_X8_looksAll_17 hs
  rcases s_ite hs with ⟨c, hs⟩ | ⟨-, hs⟩
  · subst c
    unfold U_X8_looksAll_43 at hs
    obtain ⟨a0, g0, hs⟩ := s_bind hs
    obtain ⟨a1, g1, hs⟩ := s_bind hs
    obtain ⟨a2, g2, hs⟩ := s_bind hs
    obtain ⟨a3, g3, hs⟩ := s_bind hs
    obtain ⟨u9, ge, hs⟩ := s_bind hs
    exact l_X8_looksAll_43 hs
  rcases s_ite hs with ⟨c, hs⟩ | ⟨-, hs⟩
  · subst c
    unfold U_X8_looksAll_62 at hs
    obtain ⟨a0, g0, hs⟩ := s_bind hs
    obtain ⟨u9, ge, hs⟩ := s_bind hs
    exact l_X8_looksAll_62 hs
  rcases s_ite hs with ⟨c, hs⟩ | ⟨-, hs⟩
  · subst c
    unfold U_X8_looksAll_268 at hs
    obtain ⟨a0, g0, hs⟩ := s_bind hs
    obtain ⟨a1, g1, hs⟩ := s_bind hs
    obtain ⟨a2, g2, hs⟩ := s_bind hs
    obtain ⟨u9, ge, hs⟩ := s_bind hs
    exact l_X8_looksAll_268 hs
  rcases s_ite hs with ⟨c, hs⟩ | ⟨-, hs⟩
  · subst c
    unfold U_X8_looksAll_295 at hs
    obtain ⟨a0, g0, hs⟩ := s_bind hs
    obtain ⟨u9, ge, hs⟩ := s_bind hs
    exact l_X8_looksAll_295 hs
  cases hs
theorem l_X8_looksAll {v0 : Nat} {v1 : Int32} {v2 : Int32} {σ : sS} {q : Unit × sS} (h : F_X8_looksAll v0 v1 v2 σ = some q) : s_le σ q.2 := by
  unfold F_X8_looksAll at h
  obtain ⟨-, -, h⟩ := s_bind h
  exact s_run_ind (V := fun x r => s_le x.2.2 r.2) (fun x z r hs hk => by
    have h9 := l_X8_looksAll_s hs
    cases z with
    | inl y => exact s_le.tr h9 hk
    | inr q => cases hk; exact h9) h
theorem b_X8_looksAll {v0 : Nat} {v1 : Int32} {v2 : Int32} {σ : sS} {q : Unit × sS} (h : F_X8_looksAll v0 v1 v2 σ = some q) : ∃ fs, σ.1 v0 = some (.inr (8, fs)) := by
  unfold F_X8_looksAll at h
  obtain ⟨u, hu, -⟩ := s_bind h
  exact s_is_to hu
set_option maxRecDepth 100000 in
set_option maxHeartbeats 4000000 in
theorem v_X8_looksAll_0 {G : sG} {d : Nat} {vs0 : List Value} {σ0 : sS} {v0 : Nat} {v1 : Int32} {v2 : Int32} {σ : sS} {z : sZ Unit} {r : Unit × sS} (hf : T_X8_looksAll_0 v0 v1 v2 σ = some z) (k : s_K G (d + 6) M_X8_looksAll vs0 σ0 Y_X8_looksAll e_V z r) : s_V G (d + 6) M_X8_looksAll vs0 σ0 Y_X8_looksAll (0, [.ref v0, .int v1, .int v2], σ) (e_V r) := by
  have le0 : s_le σ (e_V r).2 := s_lek hem_V (l_X8_looksAll_0 hf) k
  refine ⟨le0, ?_⟩
  intro p e s m below meth c H locs cells slots ls X I hn1 hn2 hl
  have hn : cells + σ0.2.1 ≤ σ.2.1 ∧ slots + σ0.2.2.1 ≤ σ.2.2.1 := ⟨hn1, hn2⟩
  have hl : lv_has ls 7 [(0, .ref v0), (1, .int v1), (2, .int v2)] := hl
  have hx := X.1
  have hb : c.code = cX8_looksAll := X.2.1
  have hown : s.vm.findClass RX8 = some m.cls := X.2.2.2.2.2.1
  have hts := X.2.2.2.2.2.2.1
  refine W.eq (g2 := F0 m 0 ls []) rfl ?_
  unfold T_X8_looksAll_0 at hf
  obtain ⟨σ1, h1, hf⟩ := s_bind hf
  obtain ⟨σ2, h2, hf⟩ := s_bind hf
  obtain ⟨q3, h3, hf⟩ := s_bind hf
  cases hf
  have k : s_V G (d + 6) M_X8_looksAll vs0 σ0 Y_X8_looksAll (17, [.ref v0, .int v1, .int v2, .int (q3.1 - 1)], q3.2) (e_V r) := k
  have le4 : s_le q3.2 (e_V r).2 := k.1
  have le5 := s_le.tr (l_X8_formulas h3) le4
  have le6 := s_le.tr (s_le2 (s_pf_2 h2)) le5
  refine lv_aload_n hx hb dX8_looksAll_0 rfl (lv_at hl 0 rfl) ?_
  refine lv_iconst (v := 0) hx hb dX8_looksAll_1 (by decide) ?_
  refine r_put X I fp_X8_360 (fun h => by cases h) h1 rfl rfl dX8_looksAll_2 (fun H locs I => ?_)
  have hn := s_k2 (s_pf_2 h1) hn
  refine lv_aload_n hx hb dX8_looksAll_5 rfl (lv_at hl 0 rfl) ?_
  refine lv_iconst (v := 0) hx hb dX8_looksAll_6 (by decide) ?_
  refine r_put X I fp_X8_357 (fun h => by cases h) h2 rfl rfl dX8_looksAll_7 (fun H locs I => ?_)
  have hn := s_k2 (s_pf_2 h2) hn
  refine lv_aload_n hx hb dX8_looksAll_10 rfl (lv_at hl 0 rfl) ?_
  refine r_callV (Y := M_X8_formulas) (v := some (.int q3.1)) X I w_1813 my_X8_formulas (by omega) (t_X8_formulas (G := G) (d := d + 4) h3) (b_X8_formulas h3) rfl rfl hl.1 rfl (Nat.le_of_ble_eq_true rfl) hn le4 dX8_looksAll_11 (fun H locs cells slots I hn1 hn2 => ?_)
  have I : s_I G q3.2 s H locs := I
  have hn : cells + σ0.2.1 ≤ q3.2.2.1 ∧ slots + σ0.2.2.1 ≤ q3.2.2.2.1 := ⟨hn1, hn2⟩
  refine lv_iconst (v := 1) hx hb dX8_looksAll_14 (by decide) ?_
  refine lv_isub hx hb dX8_looksAll_15 ?_
  refine lv_istore_n (lv' := [(3, .int (q3.1 - 1)), (0, .ref v0), (1, .int v1), (2, .int v2)]) hx hb dX8_looksAll_16 rfl hl (by decide) rfl (fun ls hl => ?_)
  exact k.2 p e s m below meth c _ _ _ _ _ X I hn.1 hn.2 (lv_sub hl [1, 2, 3, 0] rfl)
set_option maxRecDepth 100000 in
set_option maxHeartbeats 4000000 in
theorem v_X8_looksAll_17 {G : sG} {d : Nat} {vs0 : List Value} {σ0 : sS} {v0 : Nat} {v1 : Int32} {v2 : Int32} {v3 : Int32} {σ : sS} {z : sZ Unit} {r : Unit × sS} (hf : T_X8_looksAll_17 v0 v1 v2 v3 σ = some z) (k : s_K G (d + 6) M_X8_looksAll vs0 σ0 Y_X8_looksAll e_V z r) : s_V G (d + 6) M_X8_looksAll vs0 σ0 Y_X8_looksAll (17, [.ref v0, .int v1, .int v2, .int v3], σ) (e_V r) := by
  have le0 : s_le σ (e_V r).2 := s_lek hem_V (l_X8_looksAll_17 hf) k
  refine ⟨le0, ?_⟩
  intro p e s m below meth c H locs cells slots ls X I hn1 hn2 hl
  have hn : cells + σ0.2.1 ≤ σ.2.1 ∧ slots + σ0.2.2.1 ≤ σ.2.2.1 := ⟨hn1, hn2⟩
  have hl : lv_has ls 7 [(0, .ref v0), (1, .int v1), (2, .int v2), (3, .int v3)] := hl
  have hx := X.1
  have hb : c.code = cX8_looksAll := X.2.1
  have hown : s.vm.findClass RX8 = some m.cls := X.2.2.2.2.2.1
  have hts := X.2.2.2.2.2.2.1
  refine W.eq (g2 := F0 m 17 ls []) rfl ?_
  unfold T_X8_looksAll_17 at hf
  refine lv_iload_n hx hb dX8_looksAll_17 rfl (lv_at hl 3 rfl) ?_
  rcases s_ite hf with ⟨c1, hf⟩ | ⟨c1, hf⟩
  · refine lv_if_lt (tgt := 49) hx hb dX8_looksAll_18 (by decide) (fun _ => ?_) (fun n => absurd c1 n)
    obtain ⟨x1, h2, hf⟩ := s_bind hf
    obtain ⟨x2, h3, hf⟩ := s_bind hf
    obtain ⟨q3, h4, hf⟩ := s_bind hf
    cases hf
    have k : s_V G (d + 6) M_X8_looksAll vs0 σ0 Y_X8_looksAll (62, [.ref v0], q3.2) (e_V r) := k
    have le5 : s_le q3.2 (e_V r).2 := k.1
    refine lv_aload_n hx hb dX8_looksAll_49 rfl (lv_at hl 0 rfl) ?_
    refine lv_iload_n hx hb dX8_looksAll_50 rfl (lv_at hl 1 rfl) ?_
    refine lv_iconst (v := 0) hx hb dX8_looksAll_51 (by decide) ?_
    refine lv_aload_n hx hb dX8_looksAll_52 rfl (lv_at hl 0 rfl) ?_
    refine r_gr X I fl_X8_20 h2 dX8_looksAll_53 ?_
    refine lv_iload_n hx hb dX8_looksAll_56 rfl (lv_at hl 1 rfl) ?_
    refine r_iald X I h3 dX8_looksAll_57 ?_
    refine lv_iconst (v := (-1)) hx hb dX8_looksAll_58 (by decide) ?_
    refine r_callV (Y := M_X8_adds) (v := none) X I w_2220 my_X8_adds (by omega) (t_X8_adds (G := G) (d := d + 4) h4) (b_X8_adds h4) rfl rfl hl.1 rfl (Nat.le_of_ble_eq_true rfl) hn le5 dX8_looksAll_59 (fun H locs cells slots I hn1 hn2 => ?_)
    have I : s_I G q3.2 s H locs := I
    have hn : cells + σ0.2.1 ≤ q3.2.2.1 ∧ slots + σ0.2.2.1 ≤ q3.2.2.2.1 := ⟨hn1, hn2⟩
    exact k.2 p e s m below meth c _ _ _ _ _ X I hn.1 hn.2 (lv_sub hl [0] rfl)
  · refine lv_if_lt (tgt := 49) hx hb dX8_looksAll_18 (by decide) (fun n => absurd n c1) (fun _ => ?_)
    refine lv_iload_n hx hb dX8_looksAll_21 rfl (lv_at hl 2 rfl) ?_
    refine lv_iload_n hx hb dX8_looksAll_22 rfl (lv_at hl 3 rfl) ?_
    refine lv_ishr hx hb dX8_looksAll_23 ?_
    refine lv_iconst (v := 1) hx hb dX8_looksAll_24 (by decide) ?_
    refine lv_iand hx hb dX8_looksAll_25 ?_
    refine lv_iconst (v := 1) hx hb dX8_looksAll_26 (by decide) ?_
    rcases s_ite hf with ⟨c6, hf⟩ | ⟨c6, hf⟩
    · refine lv_icmp_ne (tgt := 43) hx hb dX8_looksAll_27 (by decide) (fun n => absurd c6 n) (fun _ => ?_)
      obtain ⟨x4, h7, hf⟩ := s_bind hf
      obtain ⟨x5, h8, hf⟩ := s_bind hf
      obtain ⟨q6, h9, hf⟩ := s_bind hf
      cases hf
      have k : s_V G (d + 6) M_X8_looksAll vs0 σ0 Y_X8_looksAll (43, [.ref v0, .int v1, .int v2, .int v3], q6.2) (e_V r) := k
      have le10 : s_le q6.2 (e_V r).2 := k.1
      refine lv_aload_n hx hb dX8_looksAll_30 rfl (lv_at hl 0 rfl) ?_
      refine lv_iload_n hx hb dX8_looksAll_31 rfl (lv_at hl 3 rfl) ?_
      refine lv_iconst (v := 0) hx hb dX8_looksAll_32 (by decide) ?_
      refine lv_aload_n hx hb dX8_looksAll_33 rfl (lv_at hl 0 rfl) ?_
      refine r_gr X I fl_X8_20 h7 dX8_looksAll_34 ?_
      refine lv_iload_n hx hb dX8_looksAll_37 rfl (lv_at hl 3 rfl) ?_
      refine r_iald X I h8 dX8_looksAll_38 ?_
      refine lv_iconst (v := (-1)) hx hb dX8_looksAll_39 (by decide) ?_
      refine r_callV (Y := M_X8_adds) (v := none) X I w_2220 my_X8_adds (by omega) (t_X8_adds (G := G) (d := d + 4) h9) (b_X8_adds h9) rfl rfl hl.1 rfl (Nat.le_of_ble_eq_true rfl) hn le10 dX8_looksAll_40 (fun H locs cells slots I hn1 hn2 => ?_)
      have I : s_I G q6.2 s H locs := I
      have hn : cells + σ0.2.1 ≤ q6.2.2.1 ∧ slots + σ0.2.2.1 ≤ q6.2.2.2.1 := ⟨hn1, hn2⟩
      exact k.2 p e s m below meth c _ _ _ _ _ X I hn.1 hn.2 (lv_sub hl [0, 1, 2, 3] rfl)
    · refine lv_icmp_ne (tgt := 43) hx hb dX8_looksAll_27 (by decide) (fun _ => ?_) (fun n => absurd n c6)
      cases hf
      have k : s_V G (d + 6) M_X8_looksAll vs0 σ0 Y_X8_looksAll (43, [.ref v0, .int v1, .int v2, .int v3], σ) (e_V r) := k
      exact k.2 p e s m below meth c _ _ _ _ _ X I hn.1 hn.2 (lv_sub hl [0, 1, 2, 3] rfl)
set_option maxRecDepth 100000 in
set_option maxHeartbeats 4000000 in
theorem v_X8_looksAll_43 {G : sG} {d : Nat} {vs0 : List Value} {σ0 : sS} {v0 : Nat} {v1 : Int32} {v2 : Int32} {v3 : Int32} {σ : sS} {z : sZ Unit} {r : Unit × sS} (hf : T_X8_looksAll_43 v0 v1 v2 v3 σ = some z) (k : s_K G (d + 6) M_X8_looksAll vs0 σ0 Y_X8_looksAll e_V z r) : s_V G (d + 6) M_X8_looksAll vs0 σ0 Y_X8_looksAll (43, [.ref v0, .int v1, .int v2, .int v3], σ) (e_V r) := by
  have le0 : s_le σ (e_V r).2 := s_lek hem_V (l_X8_looksAll_43 hf) k
  refine ⟨le0, ?_⟩
  intro p e s m below meth c H locs cells slots ls X I hn1 hn2 hl
  have hn : cells + σ0.2.1 ≤ σ.2.1 ∧ slots + σ0.2.2.1 ≤ σ.2.2.1 := ⟨hn1, hn2⟩
  have hl : lv_has ls 7 [(0, .ref v0), (1, .int v1), (2, .int v2), (3, .int v3)] := hl
  have hx := X.1
  have hb : c.code = cX8_looksAll := X.2.1
  have hown : s.vm.findClass RX8 = some m.cls := X.2.2.2.2.2.1
  have hts := X.2.2.2.2.2.2.1
  refine W.eq (g2 := F0 m 43 ls []) rfl ?_
  unfold T_X8_looksAll_43 at hf
  cases hf
  have k : s_V G (d + 6) M_X8_looksAll vs0 σ0 Y_X8_looksAll (17, [.ref v0, .int v1, .int v2, .int (v3 + (-1))], σ) (e_V r) := k
  refine lv_iinc (v := (v3 + (-1))) (lv' := [(3, .int (v3 + (-1))), (0, .ref v0), (1, .int v1), (2, .int v2)]) hx hb dX8_looksAll_43 hl (k := 3) rfl rfl (by decide) rfl (fun ls hl => ?_)
  refine lv_goto (tgt := 17) hx hb dX8_looksAll_46 (by decide) ?_
  exact k.2 p e s m below meth c _ _ _ _ _ X I hn.1 hn.2 (lv_sub hl [1, 2, 3, 0] rfl)
set_option maxRecDepth 100000 in
set_option maxHeartbeats 4000000 in
theorem v_X8_looksAll_62 {G : sG} {d : Nat} {vs0 : List Value} {σ0 : sS} {v0 : Nat} {σ : sS} {z : sZ Unit} {r : Unit × sS} (hf : T_X8_looksAll_62 v0 σ = some z) (k : s_K G (d + 6) M_X8_looksAll vs0 σ0 Y_X8_looksAll e_V z r) : s_V G (d + 6) M_X8_looksAll vs0 σ0 Y_X8_looksAll (62, [.ref v0], σ) (e_V r) := by
  have le0 : s_le σ (e_V r).2 := s_lek hem_V (l_X8_looksAll_62 hf) k
  refine ⟨le0, ?_⟩
  intro p e s m below meth c H locs cells slots ls X I hn1 hn2 hl
  have hn : cells + σ0.2.1 ≤ σ.2.1 ∧ slots + σ0.2.2.1 ≤ σ.2.2.1 := ⟨hn1, hn2⟩
  have hl : lv_has ls 7 [(0, .ref v0)] := hl
  have hx := X.1
  have hb : c.code = cX8_looksAll := X.2.1
  have hown : s.vm.findClass RX8 = some m.cls := X.2.2.2.2.2.1
  have hts := X.2.2.2.2.2.2.1
  refine W.eq (g2 := F0 m 62 ls []) rfl ?_
  unfold T_X8_looksAll_62 at hf
  obtain ⟨x1, h1, hf⟩ := s_bind hf
  refine lv_aload_n hx hb dX8_looksAll_62 rfl (lv_at hl 0 rfl) ?_
  refine r_gi X I fl_X8_357 h1 dX8_looksAll_63 ?_
  rcases s_ite hf with ⟨c2, hf⟩ | ⟨c2, hf⟩
  · refine lv_if_le (tgt := 298) hx hb dX8_looksAll_66 (by decide) (fun _ => ?_) (fun n => absurd c2 n)
    cases hf
    have k : _ = r := k
    subst k
    exact r_vret X I rfl rfl hn dX8_looksAll_298
  · refine lv_if_le (tgt := 298) hx hb dX8_looksAll_66 (by decide) (fun n => absurd n c2) (fun _ => ?_)
    obtain ⟨x2, h3, hf⟩ := s_bind hf
    refine lv_aload_n hx hb dX8_looksAll_69 rfl (lv_at hl 0 rfl) ?_
    refine r_gi X I fl_X8_360 h3 dX8_looksAll_70 ?_
    refine lv_bipush (v := 40) hx hb dX8_looksAll_73 (by decide) ?_
    rcases s_ite hf with ⟨c4, hf⟩ | ⟨c4, hf⟩
    · refine lv_icmp_ge (tgt := 298) hx hb dX8_looksAll_75 (by decide) (fun _ => ?_) (fun n => absurd c4 n)
      cases hf
      have k : _ = r := k
      subst k
      exact r_vret X I rfl rfl hn dX8_looksAll_298
    · refine lv_icmp_ge (tgt := 298) hx hb dX8_looksAll_75 (by decide) (fun n => absurd n c4) (fun _ => ?_)
      obtain ⟨x3, h5, hf⟩ := s_bind hf
      obtain ⟨σ4, h6, hf⟩ := s_bind hf
      obtain ⟨x5, h7, hf⟩ := s_bind hf
      obtain ⟨x6, h8, hf⟩ := s_bind hf
      obtain ⟨x7, h9, hf⟩ := s_bind hf
      obtain ⟨x8, h10, hf⟩ := s_bind hf
      obtain ⟨x9, h11, hf⟩ := s_bind hf
      obtain ⟨x10, h12, hf⟩ := s_bind hf
      obtain ⟨x11, h13, hf⟩ := s_bind hf
      obtain ⟨x12, h14, hf⟩ := s_bind hf
      obtain ⟨x13, h15, hf⟩ := s_bind hf
      obtain ⟨q14, h16, hf⟩ := s_bind hf
      have le17 : s_le q14.2 (e_V r).2 := by
        refine s_lek hem_V ?_ k
        rcases s_ite hf with ⟨-, hf⟩ | ⟨-, hf⟩
        · obtain ⟨x15, -, hf⟩ := s_bind hf
          obtain ⟨x16, -, hf⟩ := s_bind hf
          obtain ⟨x17, -, hf⟩ := s_bind hf
          obtain ⟨q18, hh, hf⟩ := s_bind hf
          refine s_lz.tr (l_X8_copies hh) ?_
          obtain ⟨x19, -, hf⟩ := s_bind hf
          obtain ⟨σ20, hh, hf⟩ := s_bind hf
          refine s_lz.tr (s_le2 (s_pf_2 hh)) ?_
          obtain ⟨q21, hh, hf⟩ := s_bind hf
          refine s_lz.tr (l_X8_at hh) ?_
          obtain ⟨q22, hh, hf⟩ := s_bind hf
          refine s_lz.tr (l_X8_isJoining hh) ?_
          rcases s_ite hf with ⟨-, hf⟩ | ⟨-, hf⟩
          · rcases s_ite hf with ⟨-, hf⟩ | ⟨-, hf⟩
            · obtain ⟨x25, -, hf⟩ := s_bind hf
              obtain ⟨x26, -, hf⟩ := s_bind hf
              obtain ⟨q27, hh, hf⟩ := s_bind hf
              refine s_lz.tr (l_X8_adds hh) ?_
              cases hf
              exact s_le.rf
            · obtain ⟨q23, hh, hf⟩ := s_bind hf
              refine s_lz.tr (l_X8_isLone hh) ?_
              rcases s_ite hf with ⟨-, hf⟩ | ⟨-, hf⟩
              · cases hf
                exact s_le.rf
              · obtain ⟨q24, hh, hf⟩ := s_bind hf
                refine s_lz.tr (l_X8_d hh) ?_
                cases hf
                exact s_le.rf
          · obtain ⟨q28, hh, hf⟩ := s_bind hf
            refine s_lz.tr (l_X8_endOf hh) ?_
            obtain ⟨x29, -, hf⟩ := s_bind hf
            obtain ⟨x30, -, hf⟩ := s_bind hf
            obtain ⟨q31, hh, hf⟩ := s_bind hf
            refine s_lz.tr (l_X8_adds hh) ?_
            obtain ⟨q32, hh, hf⟩ := s_bind hf
            refine s_lz.tr (l_X8_endOf hh) ?_
            obtain ⟨q33, hh, hf⟩ := s_bind hf
            refine s_lz.tr (l_X8_adds hh) ?_
            cases hf
            exact s_le.rf
        · cases hf
          exact s_le.rf
      have le18 := s_le.tr (l_X8_partAt h16) le17
      refine lv_aload_n hx hb dX8_looksAll_78 rfl (lv_at hl 0 rfl) ?_
      refine lv_dup hx hb dX8_looksAll_79 rfl ?_
      refine r_gi X I fl_X8_357 h5 dX8_looksAll_80 ?_
      refine lv_iconst (v := 1) hx hb dX8_looksAll_83 (by decide) ?_
      refine lv_isub hx hb dX8_looksAll_84 ?_
      refine r_put X I fp_X8_357 (fun h => by cases h) h6 rfl rfl dX8_looksAll_85 (fun H locs I => ?_)
      have hn := s_k2 (s_pf_2 h6) hn
      refine lv_iconst (v := 4) hx hb dX8_looksAll_88 (by decide) ?_
      refine lv_aload_n hx hb dX8_looksAll_89 rfl (lv_at hl 0 rfl) ?_
      refine r_gi X I fl_X8_357 h7 dX8_looksAll_90 ?_
      refine lv_imul hx hb dX8_looksAll_93 ?_
      refine lv_istore_n (lv' := [(3, .int (4 * x5)), (0, .ref v0)]) hx hb dX8_looksAll_94 rfl hl (by decide) rfl (fun ls hl => ?_)
      refine lv_aload_n hx hb dX8_looksAll_95 rfl (lv_at hl 1 rfl) ?_
      refine lv_aload_n hx hb dX8_looksAll_96 rfl (lv_at hl 1 rfl) ?_
      refine r_gr X I fl_X8_92 h8 dX8_looksAll_97 ?_
      refine lv_iload_n hx hb dX8_looksAll_100 rfl (lv_at hl 0 rfl) ?_
      refine r_iald X I h9 dX8_looksAll_101 ?_
      refine lv_aload_n hx hb dX8_looksAll_102 rfl (lv_at hl 1 rfl) ?_
      refine r_gr X I fl_X8_92 h10 dX8_looksAll_103 ?_
      refine lv_iload_n hx hb dX8_looksAll_106 rfl (lv_at hl 0 rfl) ?_
      refine lv_iconst (v := 1) hx hb dX8_looksAll_107 (by decide) ?_
      refine lv_iadd hx hb dX8_looksAll_108 ?_
      refine r_iald X I h11 dX8_looksAll_109 ?_
      refine lv_aload_n hx hb dX8_looksAll_110 rfl (lv_at hl 1 rfl) ?_
      refine r_gr X I fl_X8_92 h12 dX8_looksAll_111 ?_
      refine lv_iload_n hx hb dX8_looksAll_114 rfl (lv_at hl 0 rfl) ?_
      refine lv_iconst (v := 2) hx hb dX8_looksAll_115 (by decide) ?_
      refine lv_iadd hx hb dX8_looksAll_116 ?_
      refine r_iald X I h13 dX8_looksAll_117 ?_
      refine lv_aload_n hx hb dX8_looksAll_118 rfl (lv_at hl 1 rfl) ?_
      refine r_gr X I fl_X8_92 h14 dX8_looksAll_119 ?_
      refine lv_iload_n hx hb dX8_looksAll_122 rfl (lv_at hl 0 rfl) ?_
      refine lv_iconst (v := 3) hx hb dX8_looksAll_123 (by decide) ?_
      refine lv_iadd hx hb dX8_looksAll_124 ?_
      refine r_iald X I h15 dX8_looksAll_125 ?_
      refine r_callV (Y := M_X8_partAt) (v := some (.int q14.1)) X I w_2224 my_X8_partAt (by omega) (t_X8_partAt (G := G) (d := d + 0) h16) (b_X8_partAt h16) rfl rfl hl.1 rfl (Nat.le_of_ble_eq_true rfl) hn le17 dX8_looksAll_126 (fun H locs cells slots I hn1 hn2 => ?_)
      have I : s_I G q14.2 s H locs := I
      have hn : cells + σ0.2.1 ≤ q14.2.2.1 ∧ slots + σ0.2.2.1 ≤ q14.2.2.2.1 := ⟨hn1, hn2⟩
      rcases s_ite hf with ⟨c19, hf⟩ | ⟨c19, hf⟩
      · refine lv_if_lt (tgt := 135) hx hb dX8_looksAll_129 (by decide) (fun _ => ?_) (fun n => absurd c19 n)
        obtain ⟨x15, h20, hf⟩ := s_bind hf
        obtain ⟨x16, h21, hf⟩ := s_bind hf
        obtain ⟨x17, h22, hf⟩ := s_bind hf
        obtain ⟨q18, h23, hf⟩ := s_bind hf
        obtain ⟨x19, h24, hf⟩ := s_bind hf
        obtain ⟨σ20, h25, hf⟩ := s_bind hf
        obtain ⟨q21, h26, hf⟩ := s_bind hf
        obtain ⟨q22, h27, hf⟩ := s_bind hf
        have le28 : s_le q22.2 (e_V r).2 := by
          refine s_lek hem_V ?_ k
          rcases s_ite hf with ⟨-, hf⟩ | ⟨-, hf⟩
          · rcases s_ite hf with ⟨-, hf⟩ | ⟨-, hf⟩
            · obtain ⟨x25, -, hf⟩ := s_bind hf
              obtain ⟨x26, -, hf⟩ := s_bind hf
              obtain ⟨q27, hh, hf⟩ := s_bind hf
              refine s_lz.tr (l_X8_adds hh) ?_
              cases hf
              exact s_le.rf
            · obtain ⟨q23, hh, hf⟩ := s_bind hf
              refine s_lz.tr (l_X8_isLone hh) ?_
              rcases s_ite hf with ⟨-, hf⟩ | ⟨-, hf⟩
              · cases hf
                exact s_le.rf
              · obtain ⟨q24, hh, hf⟩ := s_bind hf
                refine s_lz.tr (l_X8_d hh) ?_
                cases hf
                exact s_le.rf
          · obtain ⟨q28, hh, hf⟩ := s_bind hf
            refine s_lz.tr (l_X8_endOf hh) ?_
            obtain ⟨x29, -, hf⟩ := s_bind hf
            obtain ⟨x30, -, hf⟩ := s_bind hf
            obtain ⟨q31, hh, hf⟩ := s_bind hf
            refine s_lz.tr (l_X8_adds hh) ?_
            obtain ⟨q32, hh, hf⟩ := s_bind hf
            refine s_lz.tr (l_X8_endOf hh) ?_
            obtain ⟨q33, hh, hf⟩ := s_bind hf
            refine s_lz.tr (l_X8_adds hh) ?_
            cases hf
            exact s_le.rf
        have le29 := s_le.tr (l_X8_isJoining h27) le28
        have le30 := s_le.tr (l_X8_at h26) le29
        have le31 := s_le.tr (s_le2 (s_pf_2 h25)) le30
        refine lv_bipush (v := 30) hx hb dX8_looksAll_135 (by decide) ?_
        refine lv_aload_n hx hb dX8_looksAll_137 rfl (lv_at hl 1 rfl) ?_
        refine r_gi X I fl_X8_360 h20 dX8_looksAll_138 ?_
        refine lv_iadd hx hb dX8_looksAll_141 ?_
        refine lv_istore (lv' := [(4, .int (30 + x15)), (3, .int (4 * x5)), (0, .ref v0)]) hx hb dX8_looksAll_142 hl (by decide) rfl (fun ls hl => ?_)
        refine lv_aload_n hx hb dX8_looksAll_144 rfl (lv_at hl 2 rfl) ?_
        refine lv_bipush (v := 71) hx hb dX8_looksAll_145 (by decide) ?_
        refine lv_iconst (v := 0) hx hb dX8_looksAll_147 (by decide) ?_
        refine lv_aload_n hx hb dX8_looksAll_148 rfl (lv_at hl 2 rfl) ?_
        refine r_gr X I fl_X8_20 h21 dX8_looksAll_149 ?_
        refine lv_bipush (v := 71) hx hb dX8_looksAll_152 (by decide) ?_
        refine r_iald X I h22 dX8_looksAll_154 ?_
        refine lv_iconst (v := (-1)) hx hb dX8_looksAll_155 (by decide) ?_
        refine lv_iload hx hb dX8_looksAll_156 (lv_at hl 0 rfl) ?_
        refine r_callV (Y := M_X8_copies) (v := none) X I w_2228 my_X8_copies (by omega) (t_X8_copies (G := G) (d := d + 3) h23) (b_X8_copies h23) rfl rfl hl.1 rfl (Nat.le_of_ble_eq_true rfl) hn le31 dX8_looksAll_158 (fun H locs cells slots I hn1 hn2 => ?_)
        have I : s_I G q18.2 s H locs := I
        have hn : cells + σ0.2.1 ≤ q18.2.2.1 ∧ slots + σ0.2.2.1 ≤ q18.2.2.2.1 := ⟨hn1, hn2⟩
        refine lv_aload_n hx hb dX8_looksAll_161 rfl (lv_at hl 2 rfl) ?_
        refine lv_dup hx hb dX8_looksAll_162 rfl ?_
        refine r_gi X I fl_X8_360 h24 dX8_looksAll_163 ?_
        refine lv_iconst (v := 1) hx hb dX8_looksAll_166 (by decide) ?_
        refine lv_iadd hx hb dX8_looksAll_167 ?_
        refine r_put X I fp_X8_360 (fun h => by cases h) h25 rfl rfl dX8_looksAll_168 (fun H locs I => ?_)
        have hn := s_k2 (s_pf_2 h25) hn
        refine lv_aload_n hx hb dX8_looksAll_171 rfl (lv_at hl 2 rfl) ?_
        refine lv_iload hx hb dX8_looksAll_172 (lv_at hl 0 rfl) ?_
        refine lv_iconst (v := 0) hx hb dX8_looksAll_174 (by decide) ?_
        refine r_callV (Y := M_X8_at) (v := some (.int q21.1)) X I w_1901 my_X8_at (by omega) (t_X8_at (G := G) (d := d + 4) h26) (b_X8_at h26) rfl rfl hl.1 rfl (Nat.le_of_ble_eq_true rfl) hn le29 dX8_looksAll_175 (fun H locs cells slots I hn1 hn2 => ?_)
        have I : s_I G q21.2 s H locs := I
        have hn : cells + σ0.2.1 ≤ q21.2.2.1 ∧ slots + σ0.2.2.1 ≤ q21.2.2.2.1 := ⟨hn1, hn2⟩
        refine lv_istore (lv' := [(5, .int q21.1), (4, .int (30 + x15)), (3, .int (4 * x5)), (0, .ref v0)]) hx hb dX8_looksAll_178 hl (by decide) rfl (fun ls hl => ?_)
        refine lv_iload hx hb dX8_looksAll_180 (lv_at hl 0 rfl) ?_
        refine r_callS (Y := M_X8_isJoining) (v := some (.int q22.1)) X I w_1951 my_X8_isJoining (by omega) (t_X8_isJoining (G := G) (d := d + 4) h27) rfl rfl hl.1 rfl (Nat.le_of_ble_eq_true rfl) hn le28 dX8_looksAll_182 (fun H locs cells slots I hn1 hn2 => ?_)
        have I : s_I G q22.2 s H locs := I
        have hn : cells + σ0.2.1 ≤ q22.2.2.1 ∧ slots + σ0.2.2.1 ≤ q22.2.2.2.1 := ⟨hn1, hn2⟩
        rcases s_ite hf with ⟨c32, hf⟩ | ⟨c32, hf⟩
        · refine lv_if_eq (tgt := 227) hx hb dX8_looksAll_185 (by decide) (fun _ => ?_) (fun n => absurd c32 n)
          refine lv_iload hx hb dX8_looksAll_227 (lv_at hl 0 rfl) ?_
          refine lv_bipush (v := 12) hx hb dX8_looksAll_229 (by decide) ?_
          rcases s_ite hf with ⟨c33, hf⟩ | ⟨c33, hf⟩
          · refine lv_icmp_ne (tgt := 252) hx hb dX8_looksAll_231 (by decide) (fun n => absurd c33 n) (fun _ => ?_)
            obtain ⟨x25, h34, hf⟩ := s_bind hf
            obtain ⟨x26, h35, hf⟩ := s_bind hf
            obtain ⟨q27, h36, hf⟩ := s_bind hf
            cases hf
            have k : s_V G (d + 6) M_X8_looksAll vs0 σ0 Y_X8_looksAll (295, [.ref v0], q27.2) (e_V r) := k
            have le37 : s_le q27.2 (e_V r).2 := k.1
            refine lv_aload_n hx hb dX8_looksAll_234 rfl (lv_at hl 3 rfl) ?_
            refine lv_iload hx hb dX8_looksAll_235 (lv_at hl 1 rfl) ?_
            refine lv_iconst (v := 1) hx hb dX8_looksAll_237 (by decide) ?_
            refine lv_aload_n hx hb dX8_looksAll_238 rfl (lv_at hl 3 rfl) ?_
            refine r_gr X I fl_X8_20 h34 dX8_looksAll_239 ?_
            refine lv_iload hx hb dX8_looksAll_242 (lv_at hl 1 rfl) ?_
            refine r_iald X I h35 dX8_looksAll_244 ?_
            refine lv_iconst (v := (-1)) hx hb dX8_looksAll_245 (by decide) ?_
            refine r_callV (Y := M_X8_adds) (v := none) X I w_2220 my_X8_adds (by omega) (t_X8_adds (G := G) (d := d + 4) h36) (b_X8_adds h36) rfl rfl hl.1 rfl (Nat.le_of_ble_eq_true rfl) hn le37 dX8_looksAll_246 (fun H locs cells slots I hn1 hn2 => ?_)
            have I : s_I G q27.2 s H locs := I
            have hn : cells + σ0.2.1 ≤ q27.2.2.1 ∧ slots + σ0.2.2.1 ≤ q27.2.2.2.1 := ⟨hn1, hn2⟩
            refine lv_goto (tgt := 295) hx hb dX8_looksAll_249 (by decide) ?_
            exact k.2 p e s m below meth c _ _ _ _ _ X I hn.1 hn.2 (lv_sub hl [3] rfl)
          · refine lv_icmp_ne (tgt := 252) hx hb dX8_looksAll_231 (by decide) (fun _ => ?_) (fun n => absurd n c33)
            obtain ⟨q23, h38, hf⟩ := s_bind hf
            have le39 : s_le q23.2 (e_V r).2 := by
              refine s_lek hem_V ?_ k
              rcases s_ite hf with ⟨-, hf⟩ | ⟨-, hf⟩
              · cases hf
                exact s_le.rf
              · obtain ⟨q24, hh, hf⟩ := s_bind hf
                refine s_lz.tr (l_X8_d hh) ?_
                cases hf
                exact s_le.rf
            refine lv_iload hx hb dX8_looksAll_252 (lv_at hl 0 rfl) ?_
            refine r_callS (Y := M_X8_isLone) (v := some (.int q23.1)) X I w_1954 my_X8_isLone (by omega) (t_X8_isLone (G := G) (d := d + 4) h38) rfl rfl hl.1 rfl (Nat.le_of_ble_eq_true rfl) hn le39 dX8_looksAll_254 (fun H locs cells slots I hn1 hn2 => ?_)
            have I : s_I G q23.2 s H locs := I
            have hn : cells + σ0.2.1 ≤ q23.2.2.1 ∧ slots + σ0.2.2.1 ≤ q23.2.2.2.1 := ⟨hn1, hn2⟩
            rcases s_ite hf with ⟨c40, hf⟩ | ⟨c40, hf⟩
            · refine lv_if_eq (tgt := 295) hx hb dX8_looksAll_257 (by decide) (fun _ => ?_) (fun n => absurd c40 n)
              cases hf
              have k : s_V G (d + 6) M_X8_looksAll vs0 σ0 Y_X8_looksAll (295, [.ref v0], q23.2) (e_V r) := k
              exact k.2 p e s m below meth c _ _ _ _ _ X I hn.1 hn.2 (lv_sub hl [3] rfl)
            · refine lv_if_eq (tgt := 295) hx hb dX8_looksAll_257 (by decide) (fun n => absurd n c40) (fun _ => ?_)
              obtain ⟨q24, h41, hf⟩ := s_bind hf
              cases hf
              have k : s_V G (d + 6) M_X8_looksAll vs0 σ0 Y_X8_looksAll (268, [.ref v0, .int (30 + x15), .int (q24.1 - 1)], q24.2) (e_V r) := k
              have le42 : s_le q24.2 (e_V r).2 := k.1
              refine lv_aload_n hx hb dX8_looksAll_260 rfl (lv_at hl 3 rfl) ?_
              refine r_callV (Y := M_X8_d) (v := some (.int q24.1)) X I w_1889 my_X8_d (by omega) (t_X8_d (G := G) (d := d + 4) h41) (b_X8_d h41) rfl rfl hl.1 rfl (Nat.le_of_ble_eq_true rfl) hn le42 dX8_looksAll_261 (fun H locs cells slots I hn1 hn2 => ?_)
              have I : s_I G q24.2 s H locs := I
              have hn : cells + σ0.2.1 ≤ q24.2.2.1 ∧ slots + σ0.2.2.1 ≤ q24.2.2.2.1 := ⟨hn1, hn2⟩
              refine lv_iconst (v := 1) hx hb dX8_looksAll_264 (by decide) ?_
              refine lv_isub hx hb dX8_looksAll_265 ?_
              refine lv_istore (lv' := [(6, .int (q24.1 - 1)), (5, .int q21.1), (4, .int (30 + x15)), (3, .int (4 * x5)), (0, .ref v0)]) hx hb dX8_looksAll_266 hl (by decide) rfl (fun ls hl => ?_)
              exact k.2 p e s m below meth c _ _ _ _ _ X I hn.1 hn.2 (lv_sub hl [4, 2, 0] rfl)
        · refine lv_if_eq (tgt := 227) hx hb dX8_looksAll_185 (by decide) (fun n => absurd n c32) (fun _ => ?_)
          obtain ⟨q28, h43, hf⟩ := s_bind hf
          obtain ⟨x29, h44, hf⟩ := s_bind hf
          obtain ⟨x30, h45, hf⟩ := s_bind hf
          obtain ⟨q31, h46, hf⟩ := s_bind hf
          obtain ⟨q32, h47, hf⟩ := s_bind hf
          obtain ⟨q33, h48, hf⟩ := s_bind hf
          cases hf
          have k : s_V G (d + 6) M_X8_looksAll vs0 σ0 Y_X8_looksAll (295, [.ref v0], q33.2) (e_V r) := k
          have le49 : s_le q33.2 (e_V r).2 := k.1
          have le50 := s_le.tr (l_X8_adds h48) le49
          have le51 := s_le.tr (l_X8_endOf h47) le50
          have le52 := s_le.tr (l_X8_adds h46) le51
          refine lv_aload_n hx hb dX8_looksAll_188 rfl (lv_at hl 3 rfl) ?_
          refine lv_iload hx hb dX8_looksAll_189 (lv_at hl 1 rfl) ?_
          refine lv_aload_n hx hb dX8_looksAll_191 rfl (lv_at hl 3 rfl) ?_
          refine lv_iload hx hb dX8_looksAll_192 (lv_at hl 1 rfl) ?_
          refine lv_iconst (v := 1) hx hb dX8_looksAll_194 (by decide) ?_
          refine r_callV (Y := M_X8_endOf) (v := some (.int q28.1)) X I w_2063 my_X8_endOf (by omega) (t_X8_endOf (G := G) (d := d + 3) h43) (b_X8_endOf h43) rfl rfl hl.1 rfl (Nat.le_of_ble_eq_true rfl) hn le52 dX8_looksAll_195 (fun H locs cells slots I hn1 hn2 => ?_)
          have I : s_I G q28.2 s H locs := I
          have hn : cells + σ0.2.1 ≤ q28.2.2.1 ∧ slots + σ0.2.2.1 ≤ q28.2.2.2.1 := ⟨hn1, hn2⟩
          refine lv_aload_n hx hb dX8_looksAll_198 rfl (lv_at hl 3 rfl) ?_
          refine r_gr X I fl_X8_20 h44 dX8_looksAll_199 ?_
          refine lv_iload hx hb dX8_looksAll_202 (lv_at hl 1 rfl) ?_
          refine r_iald X I h45 dX8_looksAll_204 ?_
          refine lv_iconst (v := (-1)) hx hb dX8_looksAll_205 (by decide) ?_
          refine r_callV (Y := M_X8_adds) (v := none) X I w_2220 my_X8_adds (by omega) (t_X8_adds (G := G) (d := d + 4) h46) (b_X8_adds h46) rfl rfl hl.1 rfl (Nat.le_of_ble_eq_true rfl) hn le51 dX8_looksAll_206 (fun H locs cells slots I hn1 hn2 => ?_)
          have I : s_I G q31.2 s H locs := I
          have hn : cells + σ0.2.1 ≤ q31.2.2.1 ∧ slots + σ0.2.2.1 ≤ q31.2.2.2.1 := ⟨hn1, hn2⟩
          refine lv_aload_n hx hb dX8_looksAll_209 rfl (lv_at hl 3 rfl) ?_
          refine lv_iload hx hb dX8_looksAll_210 (lv_at hl 1 rfl) ?_
          refine lv_iconst (v := 1) hx hb dX8_looksAll_212 (by decide) ?_
          refine lv_aload_n hx hb dX8_looksAll_213 rfl (lv_at hl 3 rfl) ?_
          refine lv_iload hx hb dX8_looksAll_214 (lv_at hl 1 rfl) ?_
          refine lv_iconst (v := 1) hx hb dX8_looksAll_216 (by decide) ?_
          refine r_callV (Y := M_X8_endOf) (v := some (.int q32.1)) X I w_2063 my_X8_endOf (by omega) (t_X8_endOf (G := G) (d := d + 3) h47) (b_X8_endOf h47) rfl rfl hl.1 rfl (Nat.le_of_ble_eq_true rfl) hn le50 dX8_looksAll_217 (fun H locs cells slots I hn1 hn2 => ?_)
          have I : s_I G q32.2 s H locs := I
          have hn : cells + σ0.2.1 ≤ q32.2.2.1 ∧ slots + σ0.2.2.1 ≤ q32.2.2.2.1 := ⟨hn1, hn2⟩
          refine lv_iconst (v := (-1)) hx hb dX8_looksAll_220 (by decide) ?_
          refine r_callV (Y := M_X8_adds) (v := none) X I w_2220 my_X8_adds (by omega) (t_X8_adds (G := G) (d := d + 4) h48) (b_X8_adds h48) rfl rfl hl.1 rfl (Nat.le_of_ble_eq_true rfl) hn le49 dX8_looksAll_221 (fun H locs cells slots I hn1 hn2 => ?_)
          have I : s_I G q33.2 s H locs := I
          have hn : cells + σ0.2.1 ≤ q33.2.2.1 ∧ slots + σ0.2.2.1 ≤ q33.2.2.2.1 := ⟨hn1, hn2⟩
          refine lv_goto (tgt := 295) hx hb dX8_looksAll_224 (by decide) ?_
          exact k.2 p e s m below meth c _ _ _ _ _ X I hn.1 hn.2 (lv_sub hl [3] rfl)
      · refine lv_if_lt (tgt := 135) hx hb dX8_looksAll_129 (by decide) (fun n => absurd n c19) (fun _ => ?_)
        cases hf
        have k : s_V G (d + 6) M_X8_looksAll vs0 σ0 Y_X8_looksAll (62, [.ref v0], q14.2) (e_V r) := k
        refine lv_goto (tgt := 62) hx hb dX8_looksAll_132 (by decide) ?_
        exact k.2 p e s m below meth c _ _ _ _ _ X I hn.1 hn.2 (lv_sub hl [1] rfl)
set_option maxRecDepth 100000 in
set_option maxHeartbeats 4000000 in
theorem v_X8_looksAll_268 {G : sG} {d : Nat} {vs0 : List Value} {σ0 : sS} {v0 : Nat} {v4 : Int32} {v6 : Int32} {σ : sS} {z : sZ Unit} {r : Unit × sS} (hf : T_X8_looksAll_268 v0 v4 v6 σ = some z) (k : s_K G (d + 6) M_X8_looksAll vs0 σ0 Y_X8_looksAll e_V z r) : s_V G (d + 6) M_X8_looksAll vs0 σ0 Y_X8_looksAll (268, [.ref v0, .int v4, .int v6], σ) (e_V r) := by
  have le0 : s_le σ (e_V r).2 := s_lek hem_V (l_X8_looksAll_268 hf) k
  refine ⟨le0, ?_⟩
  intro p e s m below meth c H locs cells slots ls X I hn1 hn2 hl
  have hn : cells + σ0.2.1 ≤ σ.2.1 ∧ slots + σ0.2.2.1 ≤ σ.2.2.1 := ⟨hn1, hn2⟩
  have hl : lv_has ls 7 [(0, .ref v0), (4, .int v4), (6, .int v6)] := hl
  have hx := X.1
  have hb : c.code = cX8_looksAll := X.2.1
  have hown : s.vm.findClass RX8 = some m.cls := X.2.2.2.2.2.1
  have hts := X.2.2.2.2.2.2.1
  refine W.eq (g2 := F0 m 268 ls []) rfl ?_
  unfold T_X8_looksAll_268 at hf
  refine lv_iload hx hb dX8_looksAll_268 (lv_at hl 2 rfl) ?_
  rcases s_ite hf with ⟨c1, hf⟩ | ⟨c1, hf⟩
  · refine lv_if_lt (tgt := 295) hx hb dX8_looksAll_270 (by decide) (fun _ => ?_) (fun n => absurd c1 n)
    cases hf
    have k : s_V G (d + 6) M_X8_looksAll vs0 σ0 Y_X8_looksAll (295, [.ref v0], σ) (e_V r) := k
    exact k.2 p e s m below meth c _ _ _ _ _ X I hn.1 hn.2 (lv_sub hl [0] rfl)
  · refine lv_if_lt (tgt := 295) hx hb dX8_looksAll_270 (by decide) (fun n => absurd n c1) (fun _ => ?_)
    obtain ⟨x1, h2, hf⟩ := s_bind hf
    obtain ⟨x2, h3, hf⟩ := s_bind hf
    obtain ⟨q3, h4, hf⟩ := s_bind hf
    cases hf
    have k : s_V G (d + 6) M_X8_looksAll vs0 σ0 Y_X8_looksAll (268, [.ref v0, .int v4, .int (v6 + (-1))], q3.2) (e_V r) := k
    have le5 : s_le q3.2 (e_V r).2 := k.1
    refine lv_aload_n hx hb dX8_looksAll_273 rfl (lv_at hl 0 rfl) ?_
    refine lv_iload hx hb dX8_looksAll_274 (lv_at hl 1 rfl) ?_
    refine lv_iconst (v := 1) hx hb dX8_looksAll_276 (by decide) ?_
    refine lv_aload_n hx hb dX8_looksAll_277 rfl (lv_at hl 0 rfl) ?_
    refine r_gr X I fl_X8_20 h2 dX8_looksAll_278 ?_
    refine lv_iload hx hb dX8_looksAll_281 (lv_at hl 1 rfl) ?_
    refine r_iald X I h3 dX8_looksAll_283 ?_
    refine lv_iload hx hb dX8_looksAll_284 (lv_at hl 2 rfl) ?_
    refine r_callV (Y := M_X8_adds) (v := none) X I w_2220 my_X8_adds (by omega) (t_X8_adds (G := G) (d := d + 4) h4) (b_X8_adds h4) rfl rfl hl.1 rfl (Nat.le_of_ble_eq_true rfl) hn le5 dX8_looksAll_286 (fun H locs cells slots I hn1 hn2 => ?_)
    have I : s_I G q3.2 s H locs := I
    have hn : cells + σ0.2.1 ≤ q3.2.2.1 ∧ slots + σ0.2.2.1 ≤ q3.2.2.2.1 := ⟨hn1, hn2⟩
    refine lv_iinc (v := (v6 + (-1))) (lv' := [(6, .int (v6 + (-1))), (0, .ref v0), (4, .int v4)]) hx hb dX8_looksAll_289 hl (k := 2) rfl rfl (by decide) rfl (fun ls hl => ?_)
    refine lv_goto (tgt := 268) hx hb dX8_looksAll_292 (by decide) ?_
    exact k.2 p e s m below meth c _ _ _ _ _ X I hn.1 hn.2 (lv_sub hl [1, 2, 0] rfl)
set_option maxRecDepth 100000 in
set_option maxHeartbeats 4000000 in
theorem v_X8_looksAll_295 {G : sG} {d : Nat} {vs0 : List Value} {σ0 : sS} {v0 : Nat} {σ : sS} {z : sZ Unit} {r : Unit × sS} (hf : T_X8_looksAll_295 v0 σ = some z) (k : s_K G (d + 6) M_X8_looksAll vs0 σ0 Y_X8_looksAll e_V z r) : s_V G (d + 6) M_X8_looksAll vs0 σ0 Y_X8_looksAll (295, [.ref v0], σ) (e_V r) := by
  have le0 : s_le σ (e_V r).2 := s_lek hem_V (l_X8_looksAll_295 hf) k
  refine ⟨le0, ?_⟩
  intro p e s m below meth c H locs cells slots ls X I hn1 hn2 hl
  have hn : cells + σ0.2.1 ≤ σ.2.1 ∧ slots + σ0.2.2.1 ≤ σ.2.2.1 := ⟨hn1, hn2⟩
  have hl : lv_has ls 7 [(0, .ref v0)] := hl
  have hx := X.1
  have hb : c.code = cX8_looksAll := X.2.1
  have hown : s.vm.findClass RX8 = some m.cls := X.2.2.2.2.2.1
  have hts := X.2.2.2.2.2.2.1
  refine W.eq (g2 := F0 m 295 ls []) rfl ?_
  unfold T_X8_looksAll_295 at hf
  cases hf
  have k : s_V G (d + 6) M_X8_looksAll vs0 σ0 Y_X8_looksAll (62, [.ref v0], σ) (e_V r) := k
  refine lv_goto (tgt := 62) hx hb dX8_looksAll_295 (by decide) ?_
  exact k.2 p e s m below meth c _ _ _ _ _ X I hn.1 hn.2 (lv_sub hl [0] rfl)
theorem v_X8_looksAll {G : sG} {d : Nat} {vs0 : List Value} {σ0 : sS} {x : sL} {z : sZ Unit} {r : Unit × sS} (hs : S_X8_looksAll x = some z) (k : s_K G (d + 6) M_X8_looksAll vs0 σ0 Y_X8_looksAll e_V z r) : s_V G (d + 6) M_X8_looksAll vs0 σ0 Y_X8_looksAll x (e_V r) := by
  obtain ⟨pc, vs, σ⟩ := x
  unfold S_X8_looksAll at hs
  dsimp only at hs
  rcases s_ite hs with ⟨c, hs⟩ | ⟨-, hs⟩
  · subst c
    unfold U_X8_looksAll_0 at hs
    obtain ⟨a0, g0, hs⟩ := s_bind hs
    obtain ⟨a1, g1, hs⟩ := s_bind hs
    obtain ⟨a2, g2, hs⟩ := s_bind hs
    obtain ⟨u9, ge, hs⟩ := s_bind hs
    rw [g_r_to g0, g_i_to g1, g_i_to g2, g_e_to ge]
    exact v_X8_looksAll_0 hs k
  rcases s_ite hs with ⟨c, hs⟩ | ⟨-, hs⟩
  · subst c
    unfold U_X8_looksAll_17 at hs
    obtain ⟨a0, g0, hs⟩ := s_bind hs
    obtain ⟨a1, g1, hs⟩ := s_bind hs
    obtain ⟨a2, g2, hs⟩ := s_bind hs
    obtain ⟨a3, g3, hs⟩ := s_bind hs
    obtain ⟨u9, ge, hs⟩ := s_bind hs
    rw [g_r_to g0, g_i_to g1, g_i_to g2, g_i_to g3, g_e_to ge]
    exact v_X8_looksAll_17 hs k
  rcases s_ite hs with ⟨c, hs⟩ | ⟨-, hs⟩
  · subst c
    unfold U_X8_looksAll_43 at hs
    obtain ⟨a0, g0, hs⟩ := s_bind hs
    obtain ⟨a1, g1, hs⟩ := s_bind hs
    obtain ⟨a2, g2, hs⟩ := s_bind hs
    obtain ⟨a3, g3, hs⟩ := s_bind hs
    obtain ⟨u9, ge, hs⟩ := s_bind hs
    rw [g_r_to g0, g_i_to g1, g_i_to g2, g_i_to g3, g_e_to ge]
    exact v_X8_looksAll_43 hs k
  rcases s_ite hs with ⟨c, hs⟩ | ⟨-, hs⟩
  · subst c
    unfold U_X8_looksAll_62 at hs
    obtain ⟨a0, g0, hs⟩ := s_bind hs
    obtain ⟨u9, ge, hs⟩ := s_bind hs
    rw [g_r_to g0, g_e_to ge]
    exact v_X8_looksAll_62 hs k
  rcases s_ite hs with ⟨c, hs⟩ | ⟨-, hs⟩
  · subst c
    unfold U_X8_looksAll_268 at hs
    obtain ⟨a0, g0, hs⟩ := s_bind hs
    obtain ⟨a1, g1, hs⟩ := s_bind hs
    obtain ⟨a2, g2, hs⟩ := s_bind hs
    obtain ⟨u9, ge, hs⟩ := s_bind hs
    rw [g_r_to g0, g_i_to g1, g_i_to g2, g_e_to ge]
    exact v_X8_looksAll_268 hs k
  rcases s_ite hs with ⟨c, hs⟩ | ⟨-, hs⟩
  · subst c
    unfold U_X8_looksAll_295 at hs
    obtain ⟨a0, g0, hs⟩ := s_bind hs
    obtain ⟨u9, ge, hs⟩ := s_bind hs
    rw [g_r_to g0, g_e_to ge]
    exact v_X8_looksAll_295 hs k
  cases hs
theorem t_X8_looksAll {G : sG} {d : Nat} {v0 : Nat} {v1 : Int32} {v2 : Int32} {σ : sS} {q : Unit × sS} (h : F_X8_looksAll v0 v1 v2 σ = some q) : s_T G (d + 6) M_X8_looksAll [.ref v0, .int v1, .int v2] σ (e_V q) := by
  unfold F_X8_looksAll at h
  obtain ⟨-, -, h⟩ := s_bind h
  exact s_ofV rfl (by decide) (Nat.le_of_ble_eq_true rfl) rfl rfl (s_run_ind (V := fun x r => s_V G (d + 6) M_X8_looksAll [.ref v0, .int v1, .int v2] σ Y_X8_looksAll x (e_V r)) (fun x z r hs hk => v_X8_looksAll hs (by cases z <;> exact hk)) h)
/-! X8_assumedAt -/
noncomputable def T_X8_assumedAt_0 (v0 : Nat) (v1 : Int32) (σ : sS) : Option (sZ Int32) :=
  some (.inl (2, [.ref v0, .int v1, .int 0], σ))
noncomputable def U_X8_assumedAt_0 (vs : List Value) (σ : sS) : Option (sZ Int32) := (g_r vs).bind fun a0 => (g_i a0.2).bind fun a1 => (g_e a1.2).bind fun _ => T_X8_assumedAt_0 a0.1 a1.1 σ
noncomputable def T_X8_assumedAt_2 (v0 : Nat) (v1 : Int32) (v2 : Int32) (σ : sS) : Option (sZ Int32) :=
  (s_fi σ v0 8 34).bind fun x1 =>
  if x1 ≤ v2 then (some (.inr ((-1), σ)))
  else ((s_fr σ v0 8 32).bind fun x2 =>
  (s_ai σ x2 v2).bind fun x3 =>
  if x3 = v1 then (some (.inr (v2, σ)))
  else (some (.inl (2, [.ref v0, .int v1, .int (v2 + 1)], σ))))
noncomputable def U_X8_assumedAt_2 (vs : List Value) (σ : sS) : Option (sZ Int32) := (g_r vs).bind fun a0 => (g_i a0.2).bind fun a1 => (g_i a1.2).bind fun a2 => (g_e a2.2).bind fun _ => T_X8_assumedAt_2 a0.1 a1.1 a2.1 σ
noncomputable def S_X8_assumedAt (x : sL) : Option (sZ Int32) := if x.1 = 0 then U_X8_assumedAt_0 x.2.1 x.2.2 else if x.1 = 2 then U_X8_assumedAt_2 x.2.1 x.2.2 else none
def Y_X8_assumedAt (pc : Nat) : List Nat := if pc = 0 then [0, 1] else if pc = 2 then [0, 1, 2] else []
noncomputable def F_X8_assumedAt (v0 : Nat) (v1 : Int32) (σ : sS) : Option (Int32 × sS) := (s_is σ v0 8).bind fun _ => s_run S_X8_assumedAt (0, [.ref v0, .int v1], σ)
theorem l_X8_assumedAt_0 {v0 : Nat} {v1 : Int32} {σ : sS} {z : sZ Int32} (hf : T_X8_assumedAt_0 v0 v1 σ = some z) : s_lz σ z := by
  unfold T_X8_assumedAt_0 at hf
  cases hf
  exact s_le.rf
theorem l_X8_assumedAt_2 {v0 : Nat} {v1 : Int32} {v2 : Int32} {σ : sS} {z : sZ Int32} (hf : T_X8_assumedAt_2 v0 v1 v2 σ = some z) : s_lz σ z := by
  unfold T_X8_assumedAt_2 at hf
  obtain ⟨x1, -, hf⟩ := s_bind hf
  rcases s_ite hf with ⟨-, hf⟩ | ⟨-, hf⟩
  · cases hf
    exact s_le.rf
  · obtain ⟨x2, -, hf⟩ := s_bind hf
    obtain ⟨x3, -, hf⟩ := s_bind hf
    rcases s_ite hf with ⟨-, hf⟩ | ⟨-, hf⟩
    · cases hf
      exact s_le.rf
    · cases hf
      exact s_le.rf
theorem l_X8_assumedAt_s {x : sL} {z : sZ Int32} (hs : S_X8_assumedAt x = some z) : s_lz x.2.2 z := by
  obtain ⟨pc, vs, σ⟩ := x
  unfold S_X8_assumedAt at hs
  dsimp only at hs ⊢
  rcases s_ite hs with ⟨c, hs⟩ | ⟨-, hs⟩
  · subst c
    unfold U_X8_assumedAt_0 at hs
    obtain ⟨a0, g0, hs⟩ := s_bind hs
    obtain ⟨a1, g1, hs⟩ := s_bind hs
    obtain ⟨u9, ge, hs⟩ := s_bind hs
    exact l_X8_assumedAt_0 hs
  rcases s_ite hs with ⟨c, hs⟩ | ⟨-, hs⟩
  · subst c
    unfold U_X8_assumedAt_2 at hs
    obtain ⟨a0, g0, hs⟩ := s_bind hs
    obtain ⟨a1, g1, hs⟩ := s_bind hs
    obtain ⟨a2, g2, hs⟩ := s_bind hs
    obtain ⟨u9, ge, hs⟩ := s_bind hs
    exact l_X8_assumedAt_2 hs
  cases hs
theorem l_X8_assumedAt {v0 : Nat} {v1 : Int32} {σ : sS} {q : Int32 × sS} (h : F_X8_assumedAt v0 v1 σ = some q) : s_le σ q.2 := by
  unfold F_X8_assumedAt at h
  obtain ⟨-, -, h⟩ := s_bind h
  exact s_run_ind (V := fun x r => s_le x.2.2 r.2) (fun x z r hs hk => by
    have h9 := l_X8_assumedAt_s hs
    cases z with
    | inl y => exact s_le.tr h9 hk
    | inr q => cases hk; exact h9) h
theorem b_X8_assumedAt {v0 : Nat} {v1 : Int32} {σ : sS} {q : Int32 × sS} (h : F_X8_assumedAt v0 v1 σ = some q) : ∃ fs, σ.1 v0 = some (.inr (8, fs)) := by
  unfold F_X8_assumedAt at h
  obtain ⟨u, hu, -⟩ := s_bind h
  exact s_is_to hu
set_option maxRecDepth 100000 in
set_option maxHeartbeats 4000000 in
theorem v_X8_assumedAt_0 {G : sG} {d : Nat} {vs0 : List Value} {σ0 : sS} {v0 : Nat} {v1 : Int32} {σ : sS} {z : sZ Int32} {r : Int32 × sS} (hf : T_X8_assumedAt_0 v0 v1 σ = some z) (k : s_K G (d + 1) M_X8_assumedAt vs0 σ0 Y_X8_assumedAt e_I z r) : s_V G (d + 1) M_X8_assumedAt vs0 σ0 Y_X8_assumedAt (0, [.ref v0, .int v1], σ) (e_I r) := by
  have le0 : s_le σ (e_I r).2 := s_lek hem_I (l_X8_assumedAt_0 hf) k
  refine ⟨le0, ?_⟩
  intro p e s m below meth c H locs cells slots ls X I hn1 hn2 hl
  have hn : cells + σ0.2.1 ≤ σ.2.1 ∧ slots + σ0.2.2.1 ≤ σ.2.2.1 := ⟨hn1, hn2⟩
  have hl : lv_has ls 3 [(0, .ref v0), (1, .int v1)] := hl
  have hx := X.1
  have hb : c.code = cX8_assumedAt := X.2.1
  have hown : s.vm.findClass RX8 = some m.cls := X.2.2.2.2.2.1
  have hts := X.2.2.2.2.2.2.1
  refine W.eq (g2 := F0 m 0 ls []) rfl ?_
  unfold T_X8_assumedAt_0 at hf
  cases hf
  have k : s_V G (d + 1) M_X8_assumedAt vs0 σ0 Y_X8_assumedAt (2, [.ref v0, .int v1, .int 0], σ) (e_I r) := k
  refine lv_iconst (v := 0) hx hb dX8_assumedAt_0 (by decide) ?_
  refine lv_istore_n (lv' := [(2, .int 0), (0, .ref v0), (1, .int v1)]) hx hb dX8_assumedAt_1 rfl hl (by decide) rfl (fun ls hl => ?_)
  exact k.2 p e s m below meth c _ _ _ _ _ X I hn.1 hn.2 (lv_sub hl [1, 2, 0] rfl)
set_option maxRecDepth 100000 in
set_option maxHeartbeats 4000000 in
theorem v_X8_assumedAt_2 {G : sG} {d : Nat} {vs0 : List Value} {σ0 : sS} {v0 : Nat} {v1 : Int32} {v2 : Int32} {σ : sS} {z : sZ Int32} {r : Int32 × sS} (hf : T_X8_assumedAt_2 v0 v1 v2 σ = some z) (k : s_K G (d + 1) M_X8_assumedAt vs0 σ0 Y_X8_assumedAt e_I z r) : s_V G (d + 1) M_X8_assumedAt vs0 σ0 Y_X8_assumedAt (2, [.ref v0, .int v1, .int v2], σ) (e_I r) := by
  have le0 : s_le σ (e_I r).2 := s_lek hem_I (l_X8_assumedAt_2 hf) k
  refine ⟨le0, ?_⟩
  intro p e s m below meth c H locs cells slots ls X I hn1 hn2 hl
  have hn : cells + σ0.2.1 ≤ σ.2.1 ∧ slots + σ0.2.2.1 ≤ σ.2.2.1 := ⟨hn1, hn2⟩
  have hl : lv_has ls 3 [(0, .ref v0), (1, .int v1), (2, .int v2)] := hl
  have hx := X.1
  have hb : c.code = cX8_assumedAt := X.2.1
  have hown : s.vm.findClass RX8 = some m.cls := X.2.2.2.2.2.1
  have hts := X.2.2.2.2.2.2.1
  refine W.eq (g2 := F0 m 2 ls []) rfl ?_
  unfold T_X8_assumedAt_2 at hf
  obtain ⟨x1, h1, hf⟩ := s_bind hf
  refine lv_iload_n hx hb dX8_assumedAt_2 rfl (lv_at hl 2 rfl) ?_
  refine lv_aload_n hx hb dX8_assumedAt_3 rfl (lv_at hl 0 rfl) ?_
  refine r_gi X I fl_X8_378 h1 dX8_assumedAt_4 ?_
  rcases s_ite hf with ⟨c2, hf⟩ | ⟨c2, hf⟩
  · refine lv_icmp_ge (tgt := 28) hx hb dX8_assumedAt_7 (by decide) (fun _ => ?_) (fun n => absurd c2 n)
    cases hf
    have k : _ = r := k
    subst k
    refine lv_iconst (v := (-1)) hx hb dX8_assumedAt_28 (by decide) ?_
    exact r_iret X I rfl rfl rfl hn dX8_assumedAt_29
  · refine lv_icmp_ge (tgt := 28) hx hb dX8_assumedAt_7 (by decide) (fun n => absurd n c2) (fun _ => ?_)
    obtain ⟨x2, h3, hf⟩ := s_bind hf
    obtain ⟨x3, h4, hf⟩ := s_bind hf
    refine lv_aload_n hx hb dX8_assumedAt_10 rfl (lv_at hl 0 rfl) ?_
    refine r_gr X I fl_X8_86 h3 dX8_assumedAt_11 ?_
    refine lv_iload_n hx hb dX8_assumedAt_14 rfl (lv_at hl 2 rfl) ?_
    refine r_iald X I h4 dX8_assumedAt_15 ?_
    refine lv_iload_n hx hb dX8_assumedAt_16 rfl (lv_at hl 1 rfl) ?_
    rcases s_ite hf with ⟨c5, hf⟩ | ⟨c5, hf⟩
    · refine lv_icmp_ne (tgt := 22) hx hb dX8_assumedAt_17 (by decide) (fun n => absurd c5 n) (fun _ => ?_)
      cases hf
      have k : _ = r := k
      subst k
      refine lv_iload_n hx hb dX8_assumedAt_20 rfl (lv_at hl 2 rfl) ?_
      exact r_iret X I rfl rfl rfl hn dX8_assumedAt_21
    · refine lv_icmp_ne (tgt := 22) hx hb dX8_assumedAt_17 (by decide) (fun _ => ?_) (fun n => absurd n c5)
      cases hf
      have k : s_V G (d + 1) M_X8_assumedAt vs0 σ0 Y_X8_assumedAt (2, [.ref v0, .int v1, .int (v2 + 1)], σ) (e_I r) := k
      refine lv_iinc (v := (v2 + 1)) (lv' := [(2, .int (v2 + 1)), (0, .ref v0), (1, .int v1)]) hx hb dX8_assumedAt_22 hl (k := 2) rfl rfl (by decide) rfl (fun ls hl => ?_)
      refine lv_goto (tgt := 2) hx hb dX8_assumedAt_25 (by decide) ?_
      exact k.2 p e s m below meth c _ _ _ _ _ X I hn.1 hn.2 (lv_sub hl [1, 2, 0] rfl)
theorem v_X8_assumedAt {G : sG} {d : Nat} {vs0 : List Value} {σ0 : sS} {x : sL} {z : sZ Int32} {r : Int32 × sS} (hs : S_X8_assumedAt x = some z) (k : s_K G (d + 1) M_X8_assumedAt vs0 σ0 Y_X8_assumedAt e_I z r) : s_V G (d + 1) M_X8_assumedAt vs0 σ0 Y_X8_assumedAt x (e_I r) := by
  obtain ⟨pc, vs, σ⟩ := x
  unfold S_X8_assumedAt at hs
  dsimp only at hs
  rcases s_ite hs with ⟨c, hs⟩ | ⟨-, hs⟩
  · subst c
    unfold U_X8_assumedAt_0 at hs
    obtain ⟨a0, g0, hs⟩ := s_bind hs
    obtain ⟨a1, g1, hs⟩ := s_bind hs
    obtain ⟨u9, ge, hs⟩ := s_bind hs
    rw [g_r_to g0, g_i_to g1, g_e_to ge]
    exact v_X8_assumedAt_0 hs k
  rcases s_ite hs with ⟨c, hs⟩ | ⟨-, hs⟩
  · subst c
    unfold U_X8_assumedAt_2 at hs
    obtain ⟨a0, g0, hs⟩ := s_bind hs
    obtain ⟨a1, g1, hs⟩ := s_bind hs
    obtain ⟨a2, g2, hs⟩ := s_bind hs
    obtain ⟨u9, ge, hs⟩ := s_bind hs
    rw [g_r_to g0, g_i_to g1, g_i_to g2, g_e_to ge]
    exact v_X8_assumedAt_2 hs k
  cases hs
theorem t_X8_assumedAt {G : sG} {d : Nat} {v0 : Nat} {v1 : Int32} {σ : sS} {q : Int32 × sS} (h : F_X8_assumedAt v0 v1 σ = some q) : s_T G (d + 1) M_X8_assumedAt [.ref v0, .int v1] σ (e_I q) := by
  unfold F_X8_assumedAt at h
  obtain ⟨-, -, h⟩ := s_bind h
  exact s_ofV rfl (by decide) (Nat.le_of_ble_eq_true rfl) rfl rfl (s_run_ind (V := fun x r => s_V G (d + 1) M_X8_assumedAt [.ref v0, .int v1] σ Y_X8_assumedAt x (e_I r)) (fun x z r hs hk => v_X8_assumedAt hs (by cases z <;> exact hk)) h)
/-! X8_caseOf -/
noncomputable def T_X8_caseOf_0 (v0 : Nat) (v1 : Int32) (v2 : Int32) (v3 : Int32) (v4 : Int32) (σ : sS) : Option (sZ Int32) :=
  some (.inl (3, [.ref v0, .int v1, .int v2, .int v3, .int v4, .int 0], σ))
noncomputable def U_X8_caseOf_0 (vs : List Value) (σ : sS) : Option (sZ Int32) := (g_r vs).bind fun a0 => (g_i a0.2).bind fun a1 => (g_i a1.2).bind fun a2 => (g_i a2.2).bind fun a3 => (g_i a3.2).bind fun a4 => (g_e a4.2).bind fun _ => T_X8_caseOf_0 a0.1 a1.1 a2.1 a3.1 a4.1 σ
noncomputable def T_X8_caseOf_3 (v0 : Nat) (v1 : Int32) (v2 : Int32) (v3 : Int32) (v4 : Int32) (v5 : Int32) (σ : sS) : Option (sZ Int32) :=
  (s_fi σ v0 8 33).bind fun x1 =>
  if x1 ≤ v5 then (some (.inr ((-1), σ)))
  else ((s_fr σ v0 8 23).bind fun x2 =>
  (s_ai σ x2 v5).bind fun x3 =>
  if x3 = 15 then ((F_X8_endOf v0 (30 + v5) 1 σ).bind fun q4 =>
  (F_X8_isPart v0 v1 v2 v3 (-1) (30 + v5) 1 q4.1 q4.2).bind fun q5 =>
  if q5.1 = 0 then (some (.inl (71, [.ref v0, .int v1, .int v2, .int v3, .int v4, .int v5], q5.2)))
  else ((F_X8_isRight v0 (30 + v5) 15 (30 + v4) q5.2).bind fun q6 =>
  if q6.1 = 0 then (some (.inl (71, [.ref v0, .int v1, .int v2, .int v3, .int v4, .int v5], q6.2)))
  else (some (.inr (v5, q6.2)))))
  else (some (.inl (71, [.ref v0, .int v1, .int v2, .int v3, .int v4, .int v5], σ))))
noncomputable def U_X8_caseOf_3 (vs : List Value) (σ : sS) : Option (sZ Int32) := (g_r vs).bind fun a0 => (g_i a0.2).bind fun a1 => (g_i a1.2).bind fun a2 => (g_i a2.2).bind fun a3 => (g_i a3.2).bind fun a4 => (g_i a4.2).bind fun a5 => (g_e a5.2).bind fun _ => T_X8_caseOf_3 a0.1 a1.1 a2.1 a3.1 a4.1 a5.1 σ
noncomputable def T_X8_caseOf_71 (v0 : Nat) (v1 : Int32) (v2 : Int32) (v3 : Int32) (v4 : Int32) (v5 : Int32) (σ : sS) : Option (sZ Int32) :=
  some (.inl (3, [.ref v0, .int v1, .int v2, .int v3, .int v4, .int (v5 + 1)], σ))
noncomputable def U_X8_caseOf_71 (vs : List Value) (σ : sS) : Option (sZ Int32) := (g_r vs).bind fun a0 => (g_i a0.2).bind fun a1 => (g_i a1.2).bind fun a2 => (g_i a2.2).bind fun a3 => (g_i a3.2).bind fun a4 => (g_i a4.2).bind fun a5 => (g_e a5.2).bind fun _ => T_X8_caseOf_71 a0.1 a1.1 a2.1 a3.1 a4.1 a5.1 σ
noncomputable def S_X8_caseOf (x : sL) : Option (sZ Int32) := if x.1 = 0 then U_X8_caseOf_0 x.2.1 x.2.2 else if x.1 = 3 then U_X8_caseOf_3 x.2.1 x.2.2 else if x.1 = 71 then U_X8_caseOf_71 x.2.1 x.2.2 else none
def Y_X8_caseOf (pc : Nat) : List Nat := if pc = 0 then [0, 1, 2, 3, 4] else if pc = 3 then [0, 1, 2, 3, 4, 5] else if pc = 71 then [0, 1, 2, 3, 4, 5] else []
noncomputable def F_X8_caseOf (v0 : Nat) (v1 : Int32) (v2 : Int32) (v3 : Int32) (v4 : Int32) (σ : sS) : Option (Int32 × sS) := (s_is σ v0 8).bind fun _ => s_run S_X8_caseOf (0, [.ref v0, .int v1, .int v2, .int v3, .int v4], σ)
theorem l_X8_caseOf_0 {v0 : Nat} {v1 : Int32} {v2 : Int32} {v3 : Int32} {v4 : Int32} {σ : sS} {z : sZ Int32} (hf : T_X8_caseOf_0 v0 v1 v2 v3 v4 σ = some z) : s_lz σ z := by
  unfold T_X8_caseOf_0 at hf
  cases hf
  exact s_le.rf
theorem l_X8_caseOf_3 {v0 : Nat} {v1 : Int32} {v2 : Int32} {v3 : Int32} {v4 : Int32} {v5 : Int32} {σ : sS} {z : sZ Int32} (hf : T_X8_caseOf_3 v0 v1 v2 v3 v4 v5 σ = some z) : s_lz σ z := by
  unfold T_X8_caseOf_3 at hf
  obtain ⟨x1, -, hf⟩ := s_bind hf
  rcases s_ite hf with ⟨-, hf⟩ | ⟨-, hf⟩
  · cases hf
    exact s_le.rf
  · obtain ⟨x2, -, hf⟩ := s_bind hf
    obtain ⟨x3, -, hf⟩ := s_bind hf
    rcases s_ite hf with ⟨-, hf⟩ | ⟨-, hf⟩
    · obtain ⟨q4, hh, hf⟩ := s_bind hf
      refine s_lz.tr (l_X8_endOf hh) ?_
      obtain ⟨q5, hh, hf⟩ := s_bind hf
      refine s_lz.tr (l_X8_isPart hh) ?_
      rcases s_ite hf with ⟨-, hf⟩ | ⟨-, hf⟩
      · cases hf
        exact s_le.rf
      · obtain ⟨q6, hh, hf⟩ := s_bind hf
        refine s_lz.tr (l_X8_isRight hh) ?_
        rcases s_ite hf with ⟨-, hf⟩ | ⟨-, hf⟩
        · cases hf
          exact s_le.rf
        · cases hf
          exact s_le.rf
    · cases hf
      exact s_le.rf
theorem l_X8_caseOf_71 {v0 : Nat} {v1 : Int32} {v2 : Int32} {v3 : Int32} {v4 : Int32} {v5 : Int32} {σ : sS} {z : sZ Int32} (hf : T_X8_caseOf_71 v0 v1 v2 v3 v4 v5 σ = some z) : s_lz σ z := by
  unfold T_X8_caseOf_71 at hf
  cases hf
  exact s_le.rf
theorem l_X8_caseOf_s {x : sL} {z : sZ Int32} (hs : S_X8_caseOf x = some z) : s_lz x.2.2 z := by
  obtain ⟨pc, vs, σ⟩ := x
  unfold S_X8_caseOf at hs
  dsimp only at hs ⊢
  rcases s_ite hs with ⟨c, hs⟩ | ⟨-, hs⟩
  · subst c
    unfold U_X8_caseOf_0 at hs
    obtain ⟨a0, g0, hs⟩ := s_bind hs
    obtain ⟨a1, g1, hs⟩ := s_bind hs
    obtain ⟨a2, g2, hs⟩ := s_bind hs
    obtain ⟨a3, g3, hs⟩ := s_bind hs
    obtain ⟨a4, g4, hs⟩ := s_bind hs
    obtain ⟨u9, ge, hs⟩ := s_bind hs
    exact l_X8_caseOf_0 hs
  rcases s_ite hs with ⟨c, hs⟩ | ⟨-, hs⟩
  · subst c
    unfold U_X8_caseOf_3 at hs
    obtain ⟨a0, g0, hs⟩ := s_bind hs
    obtain ⟨a1, g1, hs⟩ := s_bind hs
    obtain ⟨a2, g2, hs⟩ := s_bind hs
    obtain ⟨a3, g3, hs⟩ := s_bind hs
    obtain ⟨a4, g4, hs⟩ := s_bind hs
    obtain ⟨a5, g5, hs⟩ := s_bind hs
    obtain ⟨u9, ge, hs⟩ := s_bind hs
    exact l_X8_caseOf_3 hs
  rcases s_ite hs with ⟨c, hs⟩ | ⟨-, hs⟩
  · subst c
    unfold U_X8_caseOf_71 at hs
    obtain ⟨a0, g0, hs⟩ := s_bind hs
    obtain ⟨a1, g1, hs⟩ := s_bind hs
    obtain ⟨a2, g2, hs⟩ := s_bind hs
    obtain ⟨a3, g3, hs⟩ := s_bind hs
    obtain ⟨a4, g4, hs⟩ := s_bind hs
    obtain ⟨a5, g5, hs⟩ := s_bind hs
    obtain ⟨u9, ge, hs⟩ := s_bind hs
    exact l_X8_caseOf_71 hs
  cases hs
theorem l_X8_caseOf {v0 : Nat} {v1 : Int32} {v2 : Int32} {v3 : Int32} {v4 : Int32} {σ : sS} {q : Int32 × sS} (h : F_X8_caseOf v0 v1 v2 v3 v4 σ = some q) : s_le σ q.2 := by
  unfold F_X8_caseOf at h
  obtain ⟨-, -, h⟩ := s_bind h
  exact s_run_ind (V := fun x r => s_le x.2.2 r.2) (fun x z r hs hk => by
    have h9 := l_X8_caseOf_s hs
    cases z with
    | inl y => exact s_le.tr h9 hk
    | inr q => cases hk; exact h9) h
theorem b_X8_caseOf {v0 : Nat} {v1 : Int32} {v2 : Int32} {v3 : Int32} {v4 : Int32} {σ : sS} {q : Int32 × sS} (h : F_X8_caseOf v0 v1 v2 v3 v4 σ = some q) : ∃ fs, σ.1 v0 = some (.inr (8, fs)) := by
  unfold F_X8_caseOf at h
  obtain ⟨u, hu, -⟩ := s_bind h
  exact s_is_to hu
set_option maxRecDepth 100000 in
set_option maxHeartbeats 4000000 in
theorem v_X8_caseOf_0 {G : sG} {d : Nat} {vs0 : List Value} {σ0 : sS} {v0 : Nat} {v1 : Int32} {v2 : Int32} {v3 : Int32} {v4 : Int32} {σ : sS} {z : sZ Int32} {r : Int32 × sS} (hf : T_X8_caseOf_0 v0 v1 v2 v3 v4 σ = some z) (k : s_K G (d + 5) M_X8_caseOf vs0 σ0 Y_X8_caseOf e_I z r) : s_V G (d + 5) M_X8_caseOf vs0 σ0 Y_X8_caseOf (0, [.ref v0, .int v1, .int v2, .int v3, .int v4], σ) (e_I r) := by
  have le0 : s_le σ (e_I r).2 := s_lek hem_I (l_X8_caseOf_0 hf) k
  refine ⟨le0, ?_⟩
  intro p e s m below meth c H locs cells slots ls X I hn1 hn2 hl
  have hn : cells + σ0.2.1 ≤ σ.2.1 ∧ slots + σ0.2.2.1 ≤ σ.2.2.1 := ⟨hn1, hn2⟩
  have hl : lv_has ls 7 [(0, .ref v0), (1, .int v1), (2, .int v2), (3, .int v3), (4, .int v4)] := hl
  have hx := X.1
  have hb : c.code = cX8_caseOf := X.2.1
  have hown : s.vm.findClass RX8 = some m.cls := X.2.2.2.2.2.1
  have hts := X.2.2.2.2.2.2.1
  refine W.eq (g2 := F0 m 0 ls []) rfl ?_
  unfold T_X8_caseOf_0 at hf
  cases hf
  have k : s_V G (d + 5) M_X8_caseOf vs0 σ0 Y_X8_caseOf (3, [.ref v0, .int v1, .int v2, .int v3, .int v4, .int 0], σ) (e_I r) := k
  refine lv_iconst (v := 0) hx hb dX8_caseOf_0 (by decide) ?_
  refine lv_istore (lv' := [(5, .int 0), (0, .ref v0), (1, .int v1), (2, .int v2), (3, .int v3), (4, .int v4)]) hx hb dX8_caseOf_1 hl (by decide) rfl (fun ls hl => ?_)
  exact k.2 p e s m below meth c _ _ _ _ _ X I hn.1 hn.2 (lv_sub hl [1, 2, 3, 4, 5, 0] rfl)
set_option maxRecDepth 100000 in
set_option maxHeartbeats 4000000 in
theorem v_X8_caseOf_3 {G : sG} {d : Nat} {vs0 : List Value} {σ0 : sS} {v0 : Nat} {v1 : Int32} {v2 : Int32} {v3 : Int32} {v4 : Int32} {v5 : Int32} {σ : sS} {z : sZ Int32} {r : Int32 × sS} (hf : T_X8_caseOf_3 v0 v1 v2 v3 v4 v5 σ = some z) (k : s_K G (d + 5) M_X8_caseOf vs0 σ0 Y_X8_caseOf e_I z r) : s_V G (d + 5) M_X8_caseOf vs0 σ0 Y_X8_caseOf (3, [.ref v0, .int v1, .int v2, .int v3, .int v4, .int v5], σ) (e_I r) := by
  have le0 : s_le σ (e_I r).2 := s_lek hem_I (l_X8_caseOf_3 hf) k
  refine ⟨le0, ?_⟩
  intro p e s m below meth c H locs cells slots ls X I hn1 hn2 hl
  have hn : cells + σ0.2.1 ≤ σ.2.1 ∧ slots + σ0.2.2.1 ≤ σ.2.2.1 := ⟨hn1, hn2⟩
  have hl : lv_has ls 7 [(0, .ref v0), (1, .int v1), (2, .int v2), (3, .int v3), (4, .int v4), (5, .int v5)] := hl
  have hx := X.1
  have hb : c.code = cX8_caseOf := X.2.1
  have hown : s.vm.findClass RX8 = some m.cls := X.2.2.2.2.2.1
  have hts := X.2.2.2.2.2.2.1
  refine W.eq (g2 := F0 m 3 ls []) rfl ?_
  unfold T_X8_caseOf_3 at hf
  obtain ⟨x1, h1, hf⟩ := s_bind hf
  refine lv_iload hx hb dX8_caseOf_3 (lv_at hl 5 rfl) ?_
  refine lv_aload_n hx hb dX8_caseOf_5 rfl (lv_at hl 0 rfl) ?_
  refine r_gi X I fl_X8_360 h1 dX8_caseOf_6 ?_
  rcases s_ite hf with ⟨c2, hf⟩ | ⟨c2, hf⟩
  · refine lv_icmp_ge (tgt := 77) hx hb dX8_caseOf_9 (by decide) (fun _ => ?_) (fun n => absurd c2 n)
    cases hf
    have k : _ = r := k
    subst k
    refine lv_iconst (v := (-1)) hx hb dX8_caseOf_77 (by decide) ?_
    exact r_iret X I rfl rfl rfl hn dX8_caseOf_78
  · refine lv_icmp_ge (tgt := 77) hx hb dX8_caseOf_9 (by decide) (fun n => absurd n c2) (fun _ => ?_)
    obtain ⟨x2, h3, hf⟩ := s_bind hf
    obtain ⟨x3, h4, hf⟩ := s_bind hf
    refine lv_bipush (v := 30) hx hb dX8_caseOf_12 (by decide) ?_
    refine lv_iload hx hb dX8_caseOf_14 (lv_at hl 5 rfl) ?_
    refine lv_iadd hx hb dX8_caseOf_16 ?_
    refine lv_istore (lv' := [(6, .int (30 + v5)), (0, .ref v0), (1, .int v1), (2, .int v2), (3, .int v3), (4, .int v4), (5, .int v5)]) hx hb dX8_caseOf_17 hl (by decide) rfl (fun ls hl => ?_)
    refine lv_aload_n hx hb dX8_caseOf_19 rfl (lv_at hl 1 rfl) ?_
    refine r_gr X I fl_X8_59 h3 dX8_caseOf_20 ?_
    refine lv_iload hx hb dX8_caseOf_23 (lv_at hl 6 rfl) ?_
    refine r_iald X I h4 dX8_caseOf_25 ?_
    refine lv_bipush (v := 15) hx hb dX8_caseOf_26 (by decide) ?_
    rcases s_ite hf with ⟨c5, hf⟩ | ⟨c5, hf⟩
    · refine lv_icmp_ne (tgt := 71) hx hb dX8_caseOf_28 (by decide) (fun n => absurd c5 n) (fun _ => ?_)
      obtain ⟨q4, h6, hf⟩ := s_bind hf
      obtain ⟨q5, h7, hf⟩ := s_bind hf
      have le8 : s_le q5.2 (e_I r).2 := by
        refine s_lek hem_I ?_ k
        rcases s_ite hf with ⟨-, hf⟩ | ⟨-, hf⟩
        · cases hf
          exact s_le.rf
        · obtain ⟨q6, hh, hf⟩ := s_bind hf
          refine s_lz.tr (l_X8_isRight hh) ?_
          rcases s_ite hf with ⟨-, hf⟩ | ⟨-, hf⟩
          · cases hf
            exact s_le.rf
          · cases hf
            exact s_le.rf
      have le9 := s_le.tr (l_X8_isPart h7) le8
      refine lv_aload_n hx hb dX8_caseOf_31 rfl (lv_at hl 1 rfl) ?_
      refine lv_iload_n hx hb dX8_caseOf_32 rfl (lv_at hl 2 rfl) ?_
      refine lv_iload_n hx hb dX8_caseOf_33 rfl (lv_at hl 3 rfl) ?_
      refine lv_iload_n hx hb dX8_caseOf_34 rfl (lv_at hl 4 rfl) ?_
      refine lv_iconst (v := (-1)) hx hb dX8_caseOf_35 (by decide) ?_
      refine lv_iload hx hb dX8_caseOf_36 (lv_at hl 0 rfl) ?_
      refine lv_iconst (v := 1) hx hb dX8_caseOf_38 (by decide) ?_
      refine lv_aload_n hx hb dX8_caseOf_39 rfl (lv_at hl 1 rfl) ?_
      refine lv_iload hx hb dX8_caseOf_40 (lv_at hl 0 rfl) ?_
      refine lv_iconst (v := 1) hx hb dX8_caseOf_42 (by decide) ?_
      refine r_callV (Y := M_X8_endOf) (v := some (.int q4.1)) X I w_2063 my_X8_endOf (by omega) (t_X8_endOf (G := G) (d := d + 2) h6) (b_X8_endOf h6) rfl rfl hl.1 rfl (Nat.le_of_ble_eq_true rfl) hn le9 dX8_caseOf_43 (fun H locs cells slots I hn1 hn2 => ?_)
      have I : s_I G q4.2 s H locs := I
      have hn : cells + σ0.2.1 ≤ q4.2.2.1 ∧ slots + σ0.2.2.1 ≤ q4.2.2.2.1 := ⟨hn1, hn2⟩
      refine r_callV (Y := M_X8_isPart) (v := some (.int q5.1)) X I w_1928 my_X8_isPart (by omega) (t_X8_isPart (G := G) (d := d + 2) h7) (b_X8_isPart h7) rfl rfl hl.1 rfl (Nat.le_of_ble_eq_true rfl) hn le8 dX8_caseOf_46 (fun H locs cells slots I hn1 hn2 => ?_)
      have I : s_I G q5.2 s H locs := I
      have hn : cells + σ0.2.1 ≤ q5.2.2.1 ∧ slots + σ0.2.2.1 ≤ q5.2.2.2.1 := ⟨hn1, hn2⟩
      rcases s_ite hf with ⟨c10, hf⟩ | ⟨c10, hf⟩
      · refine lv_if_eq (tgt := 71) hx hb dX8_caseOf_49 (by decide) (fun _ => ?_) (fun n => absurd c10 n)
        cases hf
        have k : s_V G (d + 5) M_X8_caseOf vs0 σ0 Y_X8_caseOf (71, [.ref v0, .int v1, .int v2, .int v3, .int v4, .int v5], q5.2) (e_I r) := k
        exact k.2 p e s m below meth c _ _ _ _ _ X I hn.1 hn.2 (lv_sub hl [1, 2, 3, 4, 5, 6] rfl)
      · refine lv_if_eq (tgt := 71) hx hb dX8_caseOf_49 (by decide) (fun n => absurd n c10) (fun _ => ?_)
        obtain ⟨q6, h11, hf⟩ := s_bind hf
        have le12 : s_le q6.2 (e_I r).2 := by
          refine s_lek hem_I ?_ k
          rcases s_ite hf with ⟨-, hf⟩ | ⟨-, hf⟩
          · cases hf
            exact s_le.rf
          · cases hf
            exact s_le.rf
        refine lv_aload_n hx hb dX8_caseOf_52 rfl (lv_at hl 1 rfl) ?_
        refine lv_iload hx hb dX8_caseOf_53 (lv_at hl 0 rfl) ?_
        refine lv_bipush (v := 15) hx hb dX8_caseOf_55 (by decide) ?_
        refine lv_bipush (v := 30) hx hb dX8_caseOf_57 (by decide) ?_
        refine lv_iload hx hb dX8_caseOf_59 (lv_at hl 5 rfl) ?_
        refine lv_iadd hx hb dX8_caseOf_61 ?_
        refine r_callV (Y := M_X8_isRight) (v := some (.int q6.1)) X I w_2067 my_X8_isRight (by omega) (t_X8_isRight (G := G) (d := d + 0) h11) (b_X8_isRight h11) rfl rfl hl.1 rfl (Nat.le_of_ble_eq_true rfl) hn le12 dX8_caseOf_62 (fun H locs cells slots I hn1 hn2 => ?_)
        have I : s_I G q6.2 s H locs := I
        have hn : cells + σ0.2.1 ≤ q6.2.2.1 ∧ slots + σ0.2.2.1 ≤ q6.2.2.2.1 := ⟨hn1, hn2⟩
        rcases s_ite hf with ⟨c13, hf⟩ | ⟨c13, hf⟩
        · refine lv_if_eq (tgt := 71) hx hb dX8_caseOf_65 (by decide) (fun _ => ?_) (fun n => absurd c13 n)
          cases hf
          have k : s_V G (d + 5) M_X8_caseOf vs0 σ0 Y_X8_caseOf (71, [.ref v0, .int v1, .int v2, .int v3, .int v4, .int v5], q6.2) (e_I r) := k
          exact k.2 p e s m below meth c _ _ _ _ _ X I hn.1 hn.2 (lv_sub hl [1, 2, 3, 4, 5, 6] rfl)
        · refine lv_if_eq (tgt := 71) hx hb dX8_caseOf_65 (by decide) (fun n => absurd n c13) (fun _ => ?_)
          cases hf
          have k : _ = r := k
          subst k
          refine lv_iload hx hb dX8_caseOf_68 (lv_at hl 6 rfl) ?_
          exact r_iret X I rfl rfl rfl hn dX8_caseOf_70
    · refine lv_icmp_ne (tgt := 71) hx hb dX8_caseOf_28 (by decide) (fun _ => ?_) (fun n => absurd n c5)
      cases hf
      have k : s_V G (d + 5) M_X8_caseOf vs0 σ0 Y_X8_caseOf (71, [.ref v0, .int v1, .int v2, .int v3, .int v4, .int v5], σ) (e_I r) := k
      exact k.2 p e s m below meth c _ _ _ _ _ X I hn.1 hn.2 (lv_sub hl [1, 2, 3, 4, 5, 6] rfl)
set_option maxRecDepth 100000 in
set_option maxHeartbeats 4000000 in
theorem v_X8_caseOf_71 {G : sG} {d : Nat} {vs0 : List Value} {σ0 : sS} {v0 : Nat} {v1 : Int32} {v2 : Int32} {v3 : Int32} {v4 : Int32} {v5 : Int32} {σ : sS} {z : sZ Int32} {r : Int32 × sS} (hf : T_X8_caseOf_71 v0 v1 v2 v3 v4 v5 σ = some z) (k : s_K G (d + 5) M_X8_caseOf vs0 σ0 Y_X8_caseOf e_I z r) : s_V G (d + 5) M_X8_caseOf vs0 σ0 Y_X8_caseOf (71, [.ref v0, .int v1, .int v2, .int v3, .int v4, .int v5], σ) (e_I r) := by
  have le0 : s_le σ (e_I r).2 := s_lek hem_I (l_X8_caseOf_71 hf) k
  refine ⟨le0, ?_⟩
  intro p e s m below meth c H locs cells slots ls X I hn1 hn2 hl
  have hn : cells + σ0.2.1 ≤ σ.2.1 ∧ slots + σ0.2.2.1 ≤ σ.2.2.1 := ⟨hn1, hn2⟩
  have hl : lv_has ls 7 [(0, .ref v0), (1, .int v1), (2, .int v2), (3, .int v3), (4, .int v4), (5, .int v5)] := hl
  have hx := X.1
  have hb : c.code = cX8_caseOf := X.2.1
  have hown : s.vm.findClass RX8 = some m.cls := X.2.2.2.2.2.1
  have hts := X.2.2.2.2.2.2.1
  refine W.eq (g2 := F0 m 71 ls []) rfl ?_
  unfold T_X8_caseOf_71 at hf
  cases hf
  have k : s_V G (d + 5) M_X8_caseOf vs0 σ0 Y_X8_caseOf (3, [.ref v0, .int v1, .int v2, .int v3, .int v4, .int (v5 + 1)], σ) (e_I r) := k
  refine lv_iinc (v := (v5 + 1)) (lv' := [(5, .int (v5 + 1)), (0, .ref v0), (1, .int v1), (2, .int v2), (3, .int v3), (4, .int v4)]) hx hb dX8_caseOf_71 hl (k := 5) rfl rfl (by decide) rfl (fun ls hl => ?_)
  refine lv_goto (tgt := 3) hx hb dX8_caseOf_74 (by decide) ?_
  exact k.2 p e s m below meth c _ _ _ _ _ X I hn.1 hn.2 (lv_sub hl [1, 2, 3, 4, 5, 0] rfl)
theorem v_X8_caseOf {G : sG} {d : Nat} {vs0 : List Value} {σ0 : sS} {x : sL} {z : sZ Int32} {r : Int32 × sS} (hs : S_X8_caseOf x = some z) (k : s_K G (d + 5) M_X8_caseOf vs0 σ0 Y_X8_caseOf e_I z r) : s_V G (d + 5) M_X8_caseOf vs0 σ0 Y_X8_caseOf x (e_I r) := by
  obtain ⟨pc, vs, σ⟩ := x
  unfold S_X8_caseOf at hs
  dsimp only at hs
  rcases s_ite hs with ⟨c, hs⟩ | ⟨-, hs⟩
  · subst c
    unfold U_X8_caseOf_0 at hs
    obtain ⟨a0, g0, hs⟩ := s_bind hs
    obtain ⟨a1, g1, hs⟩ := s_bind hs
    obtain ⟨a2, g2, hs⟩ := s_bind hs
    obtain ⟨a3, g3, hs⟩ := s_bind hs
    obtain ⟨a4, g4, hs⟩ := s_bind hs
    obtain ⟨u9, ge, hs⟩ := s_bind hs
    rw [g_r_to g0, g_i_to g1, g_i_to g2, g_i_to g3, g_i_to g4, g_e_to ge]
    exact v_X8_caseOf_0 hs k
  rcases s_ite hs with ⟨c, hs⟩ | ⟨-, hs⟩
  · subst c
    unfold U_X8_caseOf_3 at hs
    obtain ⟨a0, g0, hs⟩ := s_bind hs
    obtain ⟨a1, g1, hs⟩ := s_bind hs
    obtain ⟨a2, g2, hs⟩ := s_bind hs
    obtain ⟨a3, g3, hs⟩ := s_bind hs
    obtain ⟨a4, g4, hs⟩ := s_bind hs
    obtain ⟨a5, g5, hs⟩ := s_bind hs
    obtain ⟨u9, ge, hs⟩ := s_bind hs
    rw [g_r_to g0, g_i_to g1, g_i_to g2, g_i_to g3, g_i_to g4, g_i_to g5, g_e_to ge]
    exact v_X8_caseOf_3 hs k
  rcases s_ite hs with ⟨c, hs⟩ | ⟨-, hs⟩
  · subst c
    unfold U_X8_caseOf_71 at hs
    obtain ⟨a0, g0, hs⟩ := s_bind hs
    obtain ⟨a1, g1, hs⟩ := s_bind hs
    obtain ⟨a2, g2, hs⟩ := s_bind hs
    obtain ⟨a3, g3, hs⟩ := s_bind hs
    obtain ⟨a4, g4, hs⟩ := s_bind hs
    obtain ⟨a5, g5, hs⟩ := s_bind hs
    obtain ⟨u9, ge, hs⟩ := s_bind hs
    rw [g_r_to g0, g_i_to g1, g_i_to g2, g_i_to g3, g_i_to g4, g_i_to g5, g_e_to ge]
    exact v_X8_caseOf_71 hs k
  cases hs
theorem t_X8_caseOf {G : sG} {d : Nat} {v0 : Nat} {v1 : Int32} {v2 : Int32} {v3 : Int32} {v4 : Int32} {σ : sS} {q : Int32 × sS} (h : F_X8_caseOf v0 v1 v2 v3 v4 σ = some q) : s_T G (d + 5) M_X8_caseOf [.ref v0, .int v1, .int v2, .int v3, .int v4] σ (e_I q) := by
  unfold F_X8_caseOf at h
  obtain ⟨-, -, h⟩ := s_bind h
  exact s_ofV rfl (by decide) (Nat.le_of_ble_eq_true rfl) rfl rfl (s_run_ind (V := fun x r => s_V G (d + 5) M_X8_caseOf [.ref v0, .int v1, .int v2, .int v3, .int v4] σ Y_X8_caseOf x (e_I r)) (fun x z r hs hk => v_X8_caseOf hs (by cases z <;> exact hk)) h)
