/-! X0_fitsCases -/
noncomputable def T_X0_fitsCases_0 (v0 : Nat) (v1 : Int32) (v2 : Int32) (v3 : Int32) (v4 : Int32) (σ : sS) : Option (sZ Int32) :=
  (s_fr σ v0 0 4).bind fun x1 =>
  (F_X2_kindOf x1 v1 σ).bind fun q2 =>
  if q2.1 = 3 then ((s_fr q2.2 v0 0 4).bind fun x3 =>
  (s_fr q2.2 v0 0 4).bind fun x4 =>
  (F_X2_firstOf x4 v1 q2.2).bind fun q5 =>
  (F_X2_isMade x3 v2 4 q5.1 v4 q5.2).bind fun q6 =>
  if q6.1 = 0 then (some (.inr (0, q6.2)))
  else ((s_fr q6.2 v0 0 4).bind fun x7 =>
  (s_fr q6.2 v0 0 4).bind fun x8 =>
  (F_X2_secondOf x8 v1 q6.2).bind fun q9 =>
  (F_X2_isMade x7 v3 4 q9.1 v4 q9.2).bind fun q10 =>
  if q10.1 = 0 then (some (.inr (0, q10.2)))
  else (some (.inr (1, q10.2)))))
  else (some (.inr (0, q2.2)))
noncomputable def U_X0_fitsCases_0 (vs : List Value) (σ : sS) : Option (sZ Int32) := (g_r vs).bind fun a0 => (g_i a0.2).bind fun a1 => (g_i a1.2).bind fun a2 => (g_i a2.2).bind fun a3 => (g_i a3.2).bind fun a4 => (g_e a4.2).bind fun _ => T_X0_fitsCases_0 a0.1 a1.1 a2.1 a3.1 a4.1 σ
noncomputable def S_X0_fitsCases (x : sL) : Option (sZ Int32) := if x.1 = 0 then U_X0_fitsCases_0 x.2.1 x.2.2 else none
def Y_X0_fitsCases (pc : Nat) : List Nat := if pc = 0 then [0, 1, 2, 3, 4] else []
noncomputable def F_X0_fitsCases (v0 : Nat) (v1 : Int32) (v2 : Int32) (v3 : Int32) (v4 : Int32) (σ : sS) : Option (Int32 × sS) := (s_is σ v0 0).bind fun _ => s_run S_X0_fitsCases (0, [.ref v0, .int v1, .int v2, .int v3, .int v4], σ)
theorem l_X0_fitsCases_0 {v0 : Nat} {v1 : Int32} {v2 : Int32} {v3 : Int32} {v4 : Int32} {σ : sS} {z : sZ Int32} (hf : T_X0_fitsCases_0 v0 v1 v2 v3 v4 σ = some z) : s_lz σ z := by
  unfold T_X0_fitsCases_0 at hf
  obtain ⟨x1, -, hf⟩ := s_bind hf
  obtain ⟨q2, hh, hf⟩ := s_bind hf
  refine s_lz.tr (l_X2_kindOf hh) ?_
  rcases s_ite hf with ⟨-, hf⟩ | ⟨-, hf⟩
  · obtain ⟨x3, -, hf⟩ := s_bind hf
    obtain ⟨x4, -, hf⟩ := s_bind hf
    obtain ⟨q5, hh, hf⟩ := s_bind hf
    refine s_lz.tr (l_X2_firstOf hh) ?_
    obtain ⟨q6, hh, hf⟩ := s_bind hf
    refine s_lz.tr (l_X2_isMade hh) ?_
    rcases s_ite hf with ⟨-, hf⟩ | ⟨-, hf⟩
    · cases hf
      exact s_le.rf
    · obtain ⟨x7, -, hf⟩ := s_bind hf
      obtain ⟨x8, -, hf⟩ := s_bind hf
      obtain ⟨q9, hh, hf⟩ := s_bind hf
      refine s_lz.tr (l_X2_secondOf hh) ?_
      obtain ⟨q10, hh, hf⟩ := s_bind hf
      refine s_lz.tr (l_X2_isMade hh) ?_
      rcases s_ite hf with ⟨-, hf⟩ | ⟨-, hf⟩
      · cases hf
        exact s_le.rf
      · cases hf
        exact s_le.rf
  · cases hf
    exact s_le.rf
theorem l_X0_fitsCases_s {x : sL} {z : sZ Int32} (hs : S_X0_fitsCases x = some z) : s_lz x.2.2 z := by
  obtain ⟨pc, vs, σ⟩ := x
  unfold S_X0_fitsCases at hs
  dsimp only at hs ⊢
  rcases s_ite hs with ⟨c, hs⟩ | ⟨-, hs⟩
  · subst c
    unfold U_X0_fitsCases_0 at hs
    obtain ⟨a0, g0, hs⟩ := s_bind hs
    obtain ⟨a1, g1, hs⟩ := s_bind hs
    obtain ⟨a2, g2, hs⟩ := s_bind hs
    obtain ⟨a3, g3, hs⟩ := s_bind hs
    obtain ⟨a4, g4, hs⟩ := s_bind hs
    obtain ⟨u9, ge, hs⟩ := s_bind hs
    exact l_X0_fitsCases_0 hs
  cases hs
theorem l_X0_fitsCases {v0 : Nat} {v1 : Int32} {v2 : Int32} {v3 : Int32} {v4 : Int32} {σ : sS} {q : Int32 × sS} (h : F_X0_fitsCases v0 v1 v2 v3 v4 σ = some q) : s_le σ q.2 := by
  unfold F_X0_fitsCases at h
  obtain ⟨-, -, h⟩ := s_bind h
  exact s_run_ind (V := fun x r => s_le x.2.2 r.2) (fun x z r hs hk => by
    have h9 := l_X0_fitsCases_s hs
    cases z with
    | inl y => exact s_le.tr h9 hk
    | inr q => cases hk; exact h9) h
theorem b_X0_fitsCases {v0 : Nat} {v1 : Int32} {v2 : Int32} {v3 : Int32} {v4 : Int32} {σ : sS} {q : Int32 × sS} (h : F_X0_fitsCases v0 v1 v2 v3 v4 σ = some q) : ∃ fs, σ.1 v0 = some (.inr (0, fs)) := by
  unfold F_X0_fitsCases at h
  obtain ⟨u, hu, -⟩ := s_bind h
  exact s_is_to hu
set_option maxRecDepth 100000 in
set_option maxHeartbeats 4000000 in
theorem v_X0_fitsCases_0 {G : sG} {d : Nat} {vs0 : List Value} {σ0 : sS} {v0 : Nat} {v1 : Int32} {v2 : Int32} {v3 : Int32} {v4 : Int32} {σ : sS} {z : sZ Int32} {r : Int32 × sS} (hf : T_X0_fitsCases_0 v0 v1 v2 v3 v4 σ = some z) (k : s_K G (d + 2) M_X0_fitsCases vs0 σ0 Y_X0_fitsCases e_I z r) : s_V G (d + 2) M_X0_fitsCases vs0 σ0 Y_X0_fitsCases (0, [.ref v0, .int v1, .int v2, .int v3, .int v4], σ) (e_I r) := by
  have le0 : s_le σ (e_I r).2 := s_lek hem_I (l_X0_fitsCases_0 hf) k
  refine ⟨le0, ?_⟩
  intro p e s m below meth c H locs cells slots ls X I hn1 hn2 hl
  have hn : cells + σ0.2.1 ≤ σ.2.1 ∧ slots + σ0.2.2.1 ≤ σ.2.2.1 := ⟨hn1, hn2⟩
  have hl : lv_has ls 5 [(0, .ref v0), (1, .int v1), (2, .int v2), (3, .int v3), (4, .int v4)] := hl
  have hx := X.1
  have hb : c.code = cX0_fitsCases := X.2.1
  have hown : s.vm.findClass RX0 = some m.cls := X.2.2.2.2.2.1
  have hts := X.2.2.2.2.2.2.1
  refine W.eq (g2 := F0 m 0 ls []) rfl ?_
  unfold T_X0_fitsCases_0 at hf
  obtain ⟨x1, h1, hf⟩ := s_bind hf
  obtain ⟨q2, h2, hf⟩ := s_bind hf
  have le3 : s_le q2.2 (e_I r).2 := by
    refine s_lek hem_I ?_ k
    rcases s_ite hf with ⟨-, hf⟩ | ⟨-, hf⟩
    · obtain ⟨x3, -, hf⟩ := s_bind hf
      obtain ⟨x4, -, hf⟩ := s_bind hf
      obtain ⟨q5, hh, hf⟩ := s_bind hf
      refine s_lz.tr (l_X2_firstOf hh) ?_
      obtain ⟨q6, hh, hf⟩ := s_bind hf
      refine s_lz.tr (l_X2_isMade hh) ?_
      rcases s_ite hf with ⟨-, hf⟩ | ⟨-, hf⟩
      · cases hf
        exact s_le.rf
      · obtain ⟨x7, -, hf⟩ := s_bind hf
        obtain ⟨x8, -, hf⟩ := s_bind hf
        obtain ⟨q9, hh, hf⟩ := s_bind hf
        refine s_lz.tr (l_X2_secondOf hh) ?_
        obtain ⟨q10, hh, hf⟩ := s_bind hf
        refine s_lz.tr (l_X2_isMade hh) ?_
        rcases s_ite hf with ⟨-, hf⟩ | ⟨-, hf⟩
        · cases hf
          exact s_le.rf
        · cases hf
          exact s_le.rf
    · cases hf
      exact s_le.rf
  refine lv_aload_n hx hb dX0_fitsCases_0 rfl (lv_at hl 0 rfl) ?_
  refine r_gr X I fl_X0_9 h1 dX0_fitsCases_1 ?_
  refine lv_iload_n hx hb dX0_fitsCases_4 rfl (lv_at hl 1 rfl) ?_
  refine r_callV (Y := M_X2_kindOf) (v := some (.int q2.1)) X I w_572 my_X2_kindOf (by omega) (t_X2_kindOf (G := G) (d := d + 0) h2) (b_X2_kindOf h2) rfl rfl hl.1 rfl (Nat.le_of_ble_eq_true rfl) hn le3 dX0_fitsCases_5 (fun H locs cells slots I hn1 hn2 => ?_)
  have I : s_I G q2.2 s H locs := I
  have hn : cells + σ0.2.1 ≤ q2.2.2.1 ∧ slots + σ0.2.2.1 ≤ q2.2.2.2.1 := ⟨hn1, hn2⟩
  refine lv_iconst (v := 3) hx hb dX0_fitsCases_8 (by decide) ?_
  rcases s_ite hf with ⟨c4, hf⟩ | ⟨c4, hf⟩
  · refine lv_icmp_ne (tgt := 60) hx hb dX0_fitsCases_9 (by decide) (fun n => absurd c4 n) (fun _ => ?_)
    obtain ⟨x3, h5, hf⟩ := s_bind hf
    obtain ⟨x4, h6, hf⟩ := s_bind hf
    obtain ⟨q5, h7, hf⟩ := s_bind hf
    obtain ⟨q6, h8, hf⟩ := s_bind hf
    have le9 : s_le q6.2 (e_I r).2 := by
      refine s_lek hem_I ?_ k
      rcases s_ite hf with ⟨-, hf⟩ | ⟨-, hf⟩
      · cases hf
        exact s_le.rf
      · obtain ⟨x7, -, hf⟩ := s_bind hf
        obtain ⟨x8, -, hf⟩ := s_bind hf
        obtain ⟨q9, hh, hf⟩ := s_bind hf
        refine s_lz.tr (l_X2_secondOf hh) ?_
        obtain ⟨q10, hh, hf⟩ := s_bind hf
        refine s_lz.tr (l_X2_isMade hh) ?_
        rcases s_ite hf with ⟨-, hf⟩ | ⟨-, hf⟩
        · cases hf
          exact s_le.rf
        · cases hf
          exact s_le.rf
    have le10 := s_le.tr (l_X2_isMade h8) le9
    refine lv_aload_n hx hb dX0_fitsCases_12 rfl (lv_at hl 0 rfl) ?_
    refine r_gr X I fl_X0_9 h5 dX0_fitsCases_13 ?_
    refine lv_iload_n hx hb dX0_fitsCases_16 rfl (lv_at hl 2 rfl) ?_
    refine lv_iconst (v := 4) hx hb dX0_fitsCases_17 (by decide) ?_
    refine lv_aload_n hx hb dX0_fitsCases_18 rfl (lv_at hl 0 rfl) ?_
    refine r_gr X I fl_X0_9 h6 dX0_fitsCases_19 ?_
    refine lv_iload_n hx hb dX0_fitsCases_22 rfl (lv_at hl 1 rfl) ?_
    refine r_callV (Y := M_X2_firstOf) (v := some (.int q5.1)) X I w_576 my_X2_firstOf (by omega) (t_X2_firstOf (G := G) (d := d + 0) h7) (b_X2_firstOf h7) rfl rfl hl.1 rfl (Nat.le_of_ble_eq_true rfl) hn le10 dX0_fitsCases_23 (fun H locs cells slots I hn1 hn2 => ?_)
    have I : s_I G q5.2 s H locs := I
    have hn : cells + σ0.2.1 ≤ q5.2.2.1 ∧ slots + σ0.2.2.1 ≤ q5.2.2.2.1 := ⟨hn1, hn2⟩
    refine lv_iload hx hb dX0_fitsCases_26 (lv_at hl 4 rfl) ?_
    refine r_callV (Y := M_X2_isMade) (v := some (.int q6.1)) X I w_580 my_X2_isMade (by omega) (t_X2_isMade (G := G) (d := d + 0) h8) (b_X2_isMade h8) rfl rfl hl.1 rfl (Nat.le_of_ble_eq_true rfl) hn le9 dX0_fitsCases_28 (fun H locs cells slots I hn1 hn2 => ?_)
    have I : s_I G q6.2 s H locs := I
    have hn : cells + σ0.2.1 ≤ q6.2.2.1 ∧ slots + σ0.2.2.1 ≤ q6.2.2.2.1 := ⟨hn1, hn2⟩
    rcases s_ite hf with ⟨c11, hf⟩ | ⟨c11, hf⟩
    · refine lv_if_eq (tgt := 60) hx hb dX0_fitsCases_31 (by decide) (fun _ => ?_) (fun n => absurd c11 n)
      cases hf
      have k : _ = r := k
      subst k
      refine lv_iconst (v := 0) hx hb dX0_fitsCases_60 (by decide) ?_
      exact r_iret X I rfl rfl rfl hn dX0_fitsCases_61
    · refine lv_if_eq (tgt := 60) hx hb dX0_fitsCases_31 (by decide) (fun n => absurd n c11) (fun _ => ?_)
      obtain ⟨x7, h12, hf⟩ := s_bind hf
      obtain ⟨x8, h13, hf⟩ := s_bind hf
      obtain ⟨q9, h14, hf⟩ := s_bind hf
      obtain ⟨q10, h15, hf⟩ := s_bind hf
      have le16 : s_le q10.2 (e_I r).2 := by
        refine s_lek hem_I ?_ k
        rcases s_ite hf with ⟨-, hf⟩ | ⟨-, hf⟩
        · cases hf
          exact s_le.rf
        · cases hf
          exact s_le.rf
      have le17 := s_le.tr (l_X2_isMade h15) le16
      refine lv_aload_n hx hb dX0_fitsCases_34 rfl (lv_at hl 0 rfl) ?_
      refine r_gr X I fl_X0_9 h12 dX0_fitsCases_35 ?_
      refine lv_iload_n hx hb dX0_fitsCases_38 rfl (lv_at hl 3 rfl) ?_
      refine lv_iconst (v := 4) hx hb dX0_fitsCases_39 (by decide) ?_
      refine lv_aload_n hx hb dX0_fitsCases_40 rfl (lv_at hl 0 rfl) ?_
      refine r_gr X I fl_X0_9 h13 dX0_fitsCases_41 ?_
      refine lv_iload_n hx hb dX0_fitsCases_44 rfl (lv_at hl 1 rfl) ?_
      refine r_callV (Y := M_X2_secondOf) (v := some (.int q9.1)) X I w_584 my_X2_secondOf (by omega) (t_X2_secondOf (G := G) (d := d + 0) h14) (b_X2_secondOf h14) rfl rfl hl.1 rfl (Nat.le_of_ble_eq_true rfl) hn le17 dX0_fitsCases_45 (fun H locs cells slots I hn1 hn2 => ?_)
      have I : s_I G q9.2 s H locs := I
      have hn : cells + σ0.2.1 ≤ q9.2.2.1 ∧ slots + σ0.2.2.1 ≤ q9.2.2.2.1 := ⟨hn1, hn2⟩
      refine lv_iload hx hb dX0_fitsCases_48 (lv_at hl 4 rfl) ?_
      refine r_callV (Y := M_X2_isMade) (v := some (.int q10.1)) X I w_580 my_X2_isMade (by omega) (t_X2_isMade (G := G) (d := d + 0) h15) (b_X2_isMade h15) rfl rfl hl.1 rfl (Nat.le_of_ble_eq_true rfl) hn le16 dX0_fitsCases_50 (fun H locs cells slots I hn1 hn2 => ?_)
      have I : s_I G q10.2 s H locs := I
      have hn : cells + σ0.2.1 ≤ q10.2.2.1 ∧ slots + σ0.2.2.1 ≤ q10.2.2.2.1 := ⟨hn1, hn2⟩
      rcases s_ite hf with ⟨c18, hf⟩ | ⟨c18, hf⟩
      · refine lv_if_eq (tgt := 60) hx hb dX0_fitsCases_53 (by decide) (fun _ => ?_) (fun n => absurd c18 n)
        cases hf
        have k : _ = r := k
        subst k
        refine lv_iconst (v := 0) hx hb dX0_fitsCases_60 (by decide) ?_
        exact r_iret X I rfl rfl rfl hn dX0_fitsCases_61
      · refine lv_if_eq (tgt := 60) hx hb dX0_fitsCases_53 (by decide) (fun n => absurd n c18) (fun _ => ?_)
        cases hf
        have k : _ = r := k
        subst k
        refine lv_iconst (v := 1) hx hb dX0_fitsCases_56 (by decide) ?_
        refine lv_goto (tgt := 61) hx hb dX0_fitsCases_57 (by decide) ?_
        exact r_iret X I rfl rfl rfl hn dX0_fitsCases_61
  · refine lv_icmp_ne (tgt := 60) hx hb dX0_fitsCases_9 (by decide) (fun _ => ?_) (fun n => absurd n c4)
    cases hf
    have k : _ = r := k
    subst k
    refine lv_iconst (v := 0) hx hb dX0_fitsCases_60 (by decide) ?_
    exact r_iret X I rfl rfl rfl hn dX0_fitsCases_61
theorem v_X0_fitsCases {G : sG} {d : Nat} {vs0 : List Value} {σ0 : sS} {x : sL} {z : sZ Int32} {r : Int32 × sS} (hs : S_X0_fitsCases x = some z) (k : s_K G (d + 2) M_X0_fitsCases vs0 σ0 Y_X0_fitsCases e_I z r) : s_V G (d + 2) M_X0_fitsCases vs0 σ0 Y_X0_fitsCases x (e_I r) := by
  obtain ⟨pc, vs, σ⟩ := x
  unfold S_X0_fitsCases at hs
  dsimp only at hs
  rcases s_ite hs with ⟨c, hs⟩ | ⟨-, hs⟩
  · subst c
    unfold U_X0_fitsCases_0 at hs
    obtain ⟨a0, g0, hs⟩ := s_bind hs
    obtain ⟨a1, g1, hs⟩ := s_bind hs
    obtain ⟨a2, g2, hs⟩ := s_bind hs
    obtain ⟨a3, g3, hs⟩ := s_bind hs
    obtain ⟨a4, g4, hs⟩ := s_bind hs
    obtain ⟨u9, ge, hs⟩ := s_bind hs
    rw [g_r_to g0, g_i_to g1, g_i_to g2, g_i_to g3, g_i_to g4, g_e_to ge]
    exact v_X0_fitsCases_0 hs k
  cases hs
theorem t_X0_fitsCases {G : sG} {d : Nat} {v0 : Nat} {v1 : Int32} {v2 : Int32} {v3 : Int32} {v4 : Int32} {σ : sS} {q : Int32 × sS} (h : F_X0_fitsCases v0 v1 v2 v3 v4 σ = some q) : s_T G (d + 2) M_X0_fitsCases [.ref v0, .int v1, .int v2, .int v3, .int v4] σ (e_I q) := by
  unfold F_X0_fitsCases at h
  obtain ⟨-, -, h⟩ := s_bind h
  exact s_ofV rfl (by decide) (Nat.le_of_ble_eq_true rfl) rfl rfl (s_run_ind (V := fun x r => s_V G (d + 2) M_X0_fitsCases [.ref v0, .int v1, .int v2, .int v3, .int v4] σ Y_X0_fitsCases x (e_I r)) (fun x z r hs hk => v_X0_fitsCases hs (by cases z <;> exact hk)) h)
/-! X0_isPlaced -/
noncomputable def T_X0_isPlaced_0 (v0 : Nat) (v1 : Int32) (v2 : Int32) (σ : sS) : Option (sZ Int32) :=
  some (.inl (2, [.ref v0, .int v1, .int v2, .int 0], σ))
noncomputable def U_X0_isPlaced_0 (vs : List Value) (σ : sS) : Option (sZ Int32) := (g_r vs).bind fun a0 => (g_i a0.2).bind fun a1 => (g_i a1.2).bind fun a2 => (g_e a2.2).bind fun _ => T_X0_isPlaced_0 a0.1 a1.1 a2.1 σ
noncomputable def T_X0_isPlaced_2 (v0 : Nat) (v1 : Int32) (v2 : Int32) (v3 : Int32) (σ : sS) : Option (sZ Int32) :=
  (s_fr σ v0 0 5).bind fun x1 =>
  (s_fi σ x1 1 0).bind fun x2 =>
  if x2 ≤ v3 then (some (.inr (0, σ)))
  else ((s_fr σ v0 0 4).bind fun x3 =>
  (F_X2_placedOf x3 v1 v3 σ).bind fun q4 =>
  if q4.1 = v2 then (some (.inr (1, q4.2)))
  else (some (.inl (2, [.ref v0, .int v1, .int v2, .int (v3 + 1)], q4.2))))
noncomputable def U_X0_isPlaced_2 (vs : List Value) (σ : sS) : Option (sZ Int32) := (g_r vs).bind fun a0 => (g_i a0.2).bind fun a1 => (g_i a1.2).bind fun a2 => (g_i a2.2).bind fun a3 => (g_e a3.2).bind fun _ => T_X0_isPlaced_2 a0.1 a1.1 a2.1 a3.1 σ
noncomputable def S_X0_isPlaced (x : sL) : Option (sZ Int32) := if x.1 = 0 then U_X0_isPlaced_0 x.2.1 x.2.2 else if x.1 = 2 then U_X0_isPlaced_2 x.2.1 x.2.2 else none
def Y_X0_isPlaced (pc : Nat) : List Nat := if pc = 0 then [0, 1, 2] else if pc = 2 then [0, 1, 2, 3] else []
noncomputable def F_X0_isPlaced (v0 : Nat) (v1 : Int32) (v2 : Int32) (σ : sS) : Option (Int32 × sS) := (s_is σ v0 0).bind fun _ => s_run S_X0_isPlaced (0, [.ref v0, .int v1, .int v2], σ)
theorem l_X0_isPlaced_0 {v0 : Nat} {v1 : Int32} {v2 : Int32} {σ : sS} {z : sZ Int32} (hf : T_X0_isPlaced_0 v0 v1 v2 σ = some z) : s_lz σ z := by
  unfold T_X0_isPlaced_0 at hf
  cases hf
  exact s_le.rf
theorem l_X0_isPlaced_2 {v0 : Nat} {v1 : Int32} {v2 : Int32} {v3 : Int32} {σ : sS} {z : sZ Int32} (hf : T_X0_isPlaced_2 v0 v1 v2 v3 σ = some z) : s_lz σ z := by
  unfold T_X0_isPlaced_2 at hf
  obtain ⟨x1, -, hf⟩ := s_bind hf
  obtain ⟨x2, -, hf⟩ := s_bind hf
  rcases s_ite hf with ⟨-, hf⟩ | ⟨-, hf⟩
  · cases hf
    exact s_le.rf
  · obtain ⟨x3, -, hf⟩ := s_bind hf
    obtain ⟨q4, hh, hf⟩ := s_bind hf
    refine s_lz.tr (l_X2_placedOf hh) ?_
    rcases s_ite hf with ⟨-, hf⟩ | ⟨-, hf⟩
    · cases hf
      exact s_le.rf
    · cases hf
      exact s_le.rf
theorem l_X0_isPlaced_s {x : sL} {z : sZ Int32} (hs : S_X0_isPlaced x = some z) : s_lz x.2.2 z := by
  obtain ⟨pc, vs, σ⟩ := x
  unfold S_X0_isPlaced at hs
  dsimp only at hs ⊢
  rcases s_ite hs with ⟨c, hs⟩ | ⟨-, hs⟩
  · subst c
    unfold U_X0_isPlaced_0 at hs
    obtain ⟨a0, g0, hs⟩ := s_bind hs
    obtain ⟨a1, g1, hs⟩ := s_bind hs
    obtain ⟨a2, g2, hs⟩ := s_bind hs
    obtain ⟨u9, ge, hs⟩ := s_bind hs
    exact l_X0_isPlaced_0 hs
  rcases s_ite hs with ⟨c, hs⟩ | ⟨-, hs⟩
  · subst c
    unfold U_X0_isPlaced_2 at hs
    obtain ⟨a0, g0, hs⟩ := s_bind hs
    obtain ⟨a1, g1, hs⟩ := s_bind hs
    obtain ⟨a2, g2, hs⟩ := s_bind hs
    obtain ⟨a3, g3, hs⟩ := s_bind hs
    obtain ⟨u9, ge, hs⟩ := s_bind hs
    exact l_X0_isPlaced_2 hs
  cases hs
theorem l_X0_isPlaced {v0 : Nat} {v1 : Int32} {v2 : Int32} {σ : sS} {q : Int32 × sS} (h : F_X0_isPlaced v0 v1 v2 σ = some q) : s_le σ q.2 := by
  unfold F_X0_isPlaced at h
  obtain ⟨-, -, h⟩ := s_bind h
  exact s_run_ind (V := fun x r => s_le x.2.2 r.2) (fun x z r hs hk => by
    have h9 := l_X0_isPlaced_s hs
    cases z with
    | inl y => exact s_le.tr h9 hk
    | inr q => cases hk; exact h9) h
theorem b_X0_isPlaced {v0 : Nat} {v1 : Int32} {v2 : Int32} {σ : sS} {q : Int32 × sS} (h : F_X0_isPlaced v0 v1 v2 σ = some q) : ∃ fs, σ.1 v0 = some (.inr (0, fs)) := by
  unfold F_X0_isPlaced at h
  obtain ⟨u, hu, -⟩ := s_bind h
  exact s_is_to hu
set_option maxRecDepth 100000 in
set_option maxHeartbeats 4000000 in
theorem v_X0_isPlaced_0 {G : sG} {d : Nat} {vs0 : List Value} {σ0 : sS} {v0 : Nat} {v1 : Int32} {v2 : Int32} {σ : sS} {z : sZ Int32} {r : Int32 × sS} (hf : T_X0_isPlaced_0 v0 v1 v2 σ = some z) (k : s_K G (d + 2) M_X0_isPlaced vs0 σ0 Y_X0_isPlaced e_I z r) : s_V G (d + 2) M_X0_isPlaced vs0 σ0 Y_X0_isPlaced (0, [.ref v0, .int v1, .int v2], σ) (e_I r) := by
  have le0 : s_le σ (e_I r).2 := s_lek hem_I (l_X0_isPlaced_0 hf) k
  refine ⟨le0, ?_⟩
  intro p e s m below meth c H locs cells slots ls X I hn1 hn2 hl
  have hn : cells + σ0.2.1 ≤ σ.2.1 ∧ slots + σ0.2.2.1 ≤ σ.2.2.1 := ⟨hn1, hn2⟩
  have hl : lv_has ls 4 [(0, .ref v0), (1, .int v1), (2, .int v2)] := hl
  have hx := X.1
  have hb : c.code = cX0_isPlaced := X.2.1
  have hown : s.vm.findClass RX0 = some m.cls := X.2.2.2.2.2.1
  have hts := X.2.2.2.2.2.2.1
  refine W.eq (g2 := F0 m 0 ls []) rfl ?_
  unfold T_X0_isPlaced_0 at hf
  cases hf
  have k : s_V G (d + 2) M_X0_isPlaced vs0 σ0 Y_X0_isPlaced (2, [.ref v0, .int v1, .int v2, .int 0], σ) (e_I r) := k
  refine lv_iconst (v := 0) hx hb dX0_isPlaced_0 (by decide) ?_
  refine lv_istore_n (lv' := [(3, .int 0), (0, .ref v0), (1, .int v1), (2, .int v2)]) hx hb dX0_isPlaced_1 rfl hl (by decide) rfl (fun ls hl => ?_)
  exact k.2 p e s m below meth c _ _ _ _ _ X I hn.1 hn.2 (lv_sub hl [1, 2, 3, 0] rfl)
set_option maxRecDepth 100000 in
set_option maxHeartbeats 4000000 in
theorem v_X0_isPlaced_2 {G : sG} {d : Nat} {vs0 : List Value} {σ0 : sS} {v0 : Nat} {v1 : Int32} {v2 : Int32} {v3 : Int32} {σ : sS} {z : sZ Int32} {r : Int32 × sS} (hf : T_X0_isPlaced_2 v0 v1 v2 v3 σ = some z) (k : s_K G (d + 2) M_X0_isPlaced vs0 σ0 Y_X0_isPlaced e_I z r) : s_V G (d + 2) M_X0_isPlaced vs0 σ0 Y_X0_isPlaced (2, [.ref v0, .int v1, .int v2, .int v3], σ) (e_I r) := by
  have le0 : s_le σ (e_I r).2 := s_lek hem_I (l_X0_isPlaced_2 hf) k
  refine ⟨le0, ?_⟩
  intro p e s m below meth c H locs cells slots ls X I hn1 hn2 hl
  have hn : cells + σ0.2.1 ≤ σ.2.1 ∧ slots + σ0.2.2.1 ≤ σ.2.2.1 := ⟨hn1, hn2⟩
  have hl : lv_has ls 4 [(0, .ref v0), (1, .int v1), (2, .int v2), (3, .int v3)] := hl
  have hx := X.1
  have hb : c.code = cX0_isPlaced := X.2.1
  have hown : s.vm.findClass RX0 = some m.cls := X.2.2.2.2.2.1
  have hts := X.2.2.2.2.2.2.1
  refine W.eq (g2 := F0 m 2 ls []) rfl ?_
  unfold T_X0_isPlaced_2 at hf
  obtain ⟨x1, h1, hf⟩ := s_bind hf
  obtain ⟨x2, h2, hf⟩ := s_bind hf
  refine lv_iload_n hx hb dX0_isPlaced_2 rfl (lv_at hl 3 rfl) ?_
  refine lv_aload_n hx hb dX0_isPlaced_3 rfl (lv_at hl 0 rfl) ?_
  refine r_gr X I fl_X0_15 h1 dX0_isPlaced_4 ?_
  refine r_gi X I fl_X0_87 h2 dX0_isPlaced_7 ?_
  rcases s_ite hf with ⟨c3, hf⟩ | ⟨c3, hf⟩
  · refine lv_icmp_ge (tgt := 34) hx hb dX0_isPlaced_10 (by decide) (fun _ => ?_) (fun n => absurd c3 n)
    cases hf
    have k : _ = r := k
    subst k
    refine lv_iconst (v := 0) hx hb dX0_isPlaced_34 (by decide) ?_
    exact r_iret X I rfl rfl rfl hn dX0_isPlaced_35
  · refine lv_icmp_ge (tgt := 34) hx hb dX0_isPlaced_10 (by decide) (fun n => absurd n c3) (fun _ => ?_)
    obtain ⟨x3, h4, hf⟩ := s_bind hf
    obtain ⟨q4, h5, hf⟩ := s_bind hf
    have le6 : s_le q4.2 (e_I r).2 := by
      refine s_lek hem_I ?_ k
      rcases s_ite hf with ⟨-, hf⟩ | ⟨-, hf⟩
      · cases hf
        exact s_le.rf
      · cases hf
        exact s_le.rf
    refine lv_aload_n hx hb dX0_isPlaced_13 rfl (lv_at hl 0 rfl) ?_
    refine r_gr X I fl_X0_9 h4 dX0_isPlaced_14 ?_
    refine lv_iload_n hx hb dX0_isPlaced_17 rfl (lv_at hl 1 rfl) ?_
    refine lv_iload_n hx hb dX0_isPlaced_18 rfl (lv_at hl 3 rfl) ?_
    refine r_callV (Y := M_X2_placedOf) (v := some (.int q4.1)) X I w_592 my_X2_placedOf (by omega) (t_X2_placedOf (G := G) (d := d + 0) h5) (b_X2_placedOf h5) rfl rfl hl.1 rfl (Nat.le_of_ble_eq_true rfl) hn le6 dX0_isPlaced_19 (fun H locs cells slots I hn1 hn2 => ?_)
    have I : s_I G q4.2 s H locs := I
    have hn : cells + σ0.2.1 ≤ q4.2.2.1 ∧ slots + σ0.2.2.1 ≤ q4.2.2.2.1 := ⟨hn1, hn2⟩
    refine lv_iload_n hx hb dX0_isPlaced_22 rfl (lv_at hl 2 rfl) ?_
    rcases s_ite hf with ⟨c7, hf⟩ | ⟨c7, hf⟩
    · refine lv_icmp_ne (tgt := 28) hx hb dX0_isPlaced_23 (by decide) (fun n => absurd c7 n) (fun _ => ?_)
      cases hf
      have k : _ = r := k
      subst k
      refine lv_iconst (v := 1) hx hb dX0_isPlaced_26 (by decide) ?_
      exact r_iret X I rfl rfl rfl hn dX0_isPlaced_27
    · refine lv_icmp_ne (tgt := 28) hx hb dX0_isPlaced_23 (by decide) (fun _ => ?_) (fun n => absurd n c7)
      cases hf
      have k : s_V G (d + 2) M_X0_isPlaced vs0 σ0 Y_X0_isPlaced (2, [.ref v0, .int v1, .int v2, .int (v3 + 1)], q4.2) (e_I r) := k
      refine lv_iinc (v := (v3 + 1)) (lv' := [(3, .int (v3 + 1)), (0, .ref v0), (1, .int v1), (2, .int v2)]) hx hb dX0_isPlaced_28 hl (k := 3) rfl rfl (by decide) rfl (fun ls hl => ?_)
      refine lv_goto (tgt := 2) hx hb dX0_isPlaced_31 (by decide) ?_
      exact k.2 p e s m below meth c _ _ _ _ _ X I hn.1 hn.2 (lv_sub hl [1, 2, 3, 0] rfl)
theorem v_X0_isPlaced {G : sG} {d : Nat} {vs0 : List Value} {σ0 : sS} {x : sL} {z : sZ Int32} {r : Int32 × sS} (hs : S_X0_isPlaced x = some z) (k : s_K G (d + 2) M_X0_isPlaced vs0 σ0 Y_X0_isPlaced e_I z r) : s_V G (d + 2) M_X0_isPlaced vs0 σ0 Y_X0_isPlaced x (e_I r) := by
  obtain ⟨pc, vs, σ⟩ := x
  unfold S_X0_isPlaced at hs
  dsimp only at hs
  rcases s_ite hs with ⟨c, hs⟩ | ⟨-, hs⟩
  · subst c
    unfold U_X0_isPlaced_0 at hs
    obtain ⟨a0, g0, hs⟩ := s_bind hs
    obtain ⟨a1, g1, hs⟩ := s_bind hs
    obtain ⟨a2, g2, hs⟩ := s_bind hs
    obtain ⟨u9, ge, hs⟩ := s_bind hs
    rw [g_r_to g0, g_i_to g1, g_i_to g2, g_e_to ge]
    exact v_X0_isPlaced_0 hs k
  rcases s_ite hs with ⟨c, hs⟩ | ⟨-, hs⟩
  · subst c
    unfold U_X0_isPlaced_2 at hs
    obtain ⟨a0, g0, hs⟩ := s_bind hs
    obtain ⟨a1, g1, hs⟩ := s_bind hs
    obtain ⟨a2, g2, hs⟩ := s_bind hs
    obtain ⟨a3, g3, hs⟩ := s_bind hs
    obtain ⟨u9, ge, hs⟩ := s_bind hs
    rw [g_r_to g0, g_i_to g1, g_i_to g2, g_i_to g3, g_e_to ge]
    exact v_X0_isPlaced_2 hs k
  cases hs
theorem t_X0_isPlaced {G : sG} {d : Nat} {v0 : Nat} {v1 : Int32} {v2 : Int32} {σ : sS} {q : Int32 × sS} (h : F_X0_isPlaced v0 v1 v2 σ = some q) : s_T G (d + 2) M_X0_isPlaced [.ref v0, .int v1, .int v2] σ (e_I q) := by
  unfold F_X0_isPlaced at h
  obtain ⟨-, -, h⟩ := s_bind h
  exact s_ofV rfl (by decide) (Nat.le_of_ble_eq_true rfl) rfl rfl (s_run_ind (V := fun x r => s_V G (d + 2) M_X0_isPlaced [.ref v0, .int v1, .int v2] σ Y_X0_isPlaced x (e_I r)) (fun x z r hs hk => v_X0_isPlaced hs (by cases z <;> exact hk)) h)
/-! X0_areEach -/
noncomputable def T_X0_areEach_0 (v0 : Nat) (v1 : Int32) (v2 : Int32) (σ : sS) : Option (sZ Int32) :=
  some (.inl (2, [.ref v0, .int v1, .int v2, .int 0], σ))
noncomputable def U_X0_areEach_0 (vs : List Value) (σ : sS) : Option (sZ Int32) := (g_r vs).bind fun a0 => (g_i a0.2).bind fun a1 => (g_i a1.2).bind fun a2 => (g_e a2.2).bind fun _ => T_X0_areEach_0 a0.1 a1.1 a2.1 σ
noncomputable def T_X0_areEach_2 (v0 : Nat) (v1 : Int32) (v2 : Int32) (v3 : Int32) (σ : sS) : Option (sZ Int32) :=
  (s_fr σ v0 0 5).bind fun x1 =>
  (s_fi σ x1 1 0).bind fun x2 =>
  if x2 ≤ v3 then (some (.inr (1, σ)))
  else ((s_fr σ v0 0 5).bind fun x3 =>
  (s_fr σ v0 0 5).bind fun x4 =>
  (F_X1_premiseOf x4 v1 v3 σ).bind fun q5 =>
  (F_X1_nodeOfLine x3 q5.1 q5.2).bind fun q6 =>
  (s_fr q6.2 v0 0 4).bind fun x7 =>
  (F_X2_placedOf x7 v2 v3 q6.2).bind fun q8 =>
  if q6.1 = q8.1 then (some (.inl (2, [.ref v0, .int v1, .int v2, .int (v3 + 1)], q8.2)))
  else (some (.inr (0, q8.2))))
noncomputable def U_X0_areEach_2 (vs : List Value) (σ : sS) : Option (sZ Int32) := (g_r vs).bind fun a0 => (g_i a0.2).bind fun a1 => (g_i a1.2).bind fun a2 => (g_i a2.2).bind fun a3 => (g_e a3.2).bind fun _ => T_X0_areEach_2 a0.1 a1.1 a2.1 a3.1 σ
noncomputable def S_X0_areEach (x : sL) : Option (sZ Int32) := if x.1 = 0 then U_X0_areEach_0 x.2.1 x.2.2 else if x.1 = 2 then U_X0_areEach_2 x.2.1 x.2.2 else none
def Y_X0_areEach (pc : Nat) : List Nat := if pc = 0 then [0, 1, 2] else if pc = 2 then [0, 1, 2, 3] else []
noncomputable def F_X0_areEach (v0 : Nat) (v1 : Int32) (v2 : Int32) (σ : sS) : Option (Int32 × sS) := (s_is σ v0 0).bind fun _ => s_run S_X0_areEach (0, [.ref v0, .int v1, .int v2], σ)
theorem l_X0_areEach_0 {v0 : Nat} {v1 : Int32} {v2 : Int32} {σ : sS} {z : sZ Int32} (hf : T_X0_areEach_0 v0 v1 v2 σ = some z) : s_lz σ z := by
  unfold T_X0_areEach_0 at hf
  cases hf
  exact s_le.rf
theorem l_X0_areEach_2 {v0 : Nat} {v1 : Int32} {v2 : Int32} {v3 : Int32} {σ : sS} {z : sZ Int32} (hf : T_X0_areEach_2 v0 v1 v2 v3 σ = some z) : s_lz σ z := by
  unfold T_X0_areEach_2 at hf
  obtain ⟨x1, -, hf⟩ := s_bind hf
  obtain ⟨x2, -, hf⟩ := s_bind hf
  rcases s_ite hf with ⟨-, hf⟩ | ⟨-, hf⟩
  · cases hf
    exact s_le.rf
  · obtain ⟨x3, -, hf⟩ := s_bind hf
    obtain ⟨x4, -, hf⟩ := s_bind hf
    obtain ⟨q5, hh, hf⟩ := s_bind hf
    refine s_lz.tr (l_X1_premiseOf hh) ?_
    obtain ⟨q6, hh, hf⟩ := s_bind hf
    refine s_lz.tr (l_X1_nodeOfLine hh) ?_
    obtain ⟨x7, -, hf⟩ := s_bind hf
    obtain ⟨q8, hh, hf⟩ := s_bind hf
    refine s_lz.tr (l_X2_placedOf hh) ?_
    rcases s_ite hf with ⟨-, hf⟩ | ⟨-, hf⟩
    · cases hf
      exact s_le.rf
    · cases hf
      exact s_le.rf
theorem l_X0_areEach_s {x : sL} {z : sZ Int32} (hs : S_X0_areEach x = some z) : s_lz x.2.2 z := by
  obtain ⟨pc, vs, σ⟩ := x
  unfold S_X0_areEach at hs
  dsimp only at hs ⊢
  rcases s_ite hs with ⟨c, hs⟩ | ⟨-, hs⟩
  · subst c
    unfold U_X0_areEach_0 at hs
    obtain ⟨a0, g0, hs⟩ := s_bind hs
    obtain ⟨a1, g1, hs⟩ := s_bind hs
    obtain ⟨a2, g2, hs⟩ := s_bind hs
    obtain ⟨u9, ge, hs⟩ := s_bind hs
    exact l_X0_areEach_0 hs
  rcases s_ite hs with ⟨c, hs⟩ | ⟨-, hs⟩
  · subst c
    unfold U_X0_areEach_2 at hs
    obtain ⟨a0, g0, hs⟩ := s_bind hs
    obtain ⟨a1, g1, hs⟩ := s_bind hs
    obtain ⟨a2, g2, hs⟩ := s_bind hs
    obtain ⟨a3, g3, hs⟩ := s_bind hs
    obtain ⟨u9, ge, hs⟩ := s_bind hs
    exact l_X0_areEach_2 hs
  cases hs
theorem l_X0_areEach {v0 : Nat} {v1 : Int32} {v2 : Int32} {σ : sS} {q : Int32 × sS} (h : F_X0_areEach v0 v1 v2 σ = some q) : s_le σ q.2 := by
  unfold F_X0_areEach at h
  obtain ⟨-, -, h⟩ := s_bind h
  exact s_run_ind (V := fun x r => s_le x.2.2 r.2) (fun x z r hs hk => by
    have h9 := l_X0_areEach_s hs
    cases z with
    | inl y => exact s_le.tr h9 hk
    | inr q => cases hk; exact h9) h
theorem b_X0_areEach {v0 : Nat} {v1 : Int32} {v2 : Int32} {σ : sS} {q : Int32 × sS} (h : F_X0_areEach v0 v1 v2 σ = some q) : ∃ fs, σ.1 v0 = some (.inr (0, fs)) := by
  unfold F_X0_areEach at h
  obtain ⟨u, hu, -⟩ := s_bind h
  exact s_is_to hu
set_option maxRecDepth 100000 in
set_option maxHeartbeats 4000000 in
theorem v_X0_areEach_0 {G : sG} {d : Nat} {vs0 : List Value} {σ0 : sS} {v0 : Nat} {v1 : Int32} {v2 : Int32} {σ : sS} {z : sZ Int32} {r : Int32 × sS} (hf : T_X0_areEach_0 v0 v1 v2 σ = some z) (k : s_K G (d + 3) M_X0_areEach vs0 σ0 Y_X0_areEach e_I z r) : s_V G (d + 3) M_X0_areEach vs0 σ0 Y_X0_areEach (0, [.ref v0, .int v1, .int v2], σ) (e_I r) := by
  have le0 : s_le σ (e_I r).2 := s_lek hem_I (l_X0_areEach_0 hf) k
  refine ⟨le0, ?_⟩
  intro p e s m below meth c H locs cells slots ls X I hn1 hn2 hl
  have hn : cells + σ0.2.1 ≤ σ.2.1 ∧ slots + σ0.2.2.1 ≤ σ.2.2.1 := ⟨hn1, hn2⟩
  have hl : lv_has ls 4 [(0, .ref v0), (1, .int v1), (2, .int v2)] := hl
  have hx := X.1
  have hb : c.code = cX0_areEach := X.2.1
  have hown : s.vm.findClass RX0 = some m.cls := X.2.2.2.2.2.1
  have hts := X.2.2.2.2.2.2.1
  refine W.eq (g2 := F0 m 0 ls []) rfl ?_
  unfold T_X0_areEach_0 at hf
  cases hf
  have k : s_V G (d + 3) M_X0_areEach vs0 σ0 Y_X0_areEach (2, [.ref v0, .int v1, .int v2, .int 0], σ) (e_I r) := k
  refine lv_iconst (v := 0) hx hb dX0_areEach_0 (by decide) ?_
  refine lv_istore_n (lv' := [(3, .int 0), (0, .ref v0), (1, .int v1), (2, .int v2)]) hx hb dX0_areEach_1 rfl hl (by decide) rfl (fun ls hl => ?_)
  exact k.2 p e s m below meth c _ _ _ _ _ X I hn.1 hn.2 (lv_sub hl [1, 2, 3, 0] rfl)
set_option maxRecDepth 100000 in
set_option maxHeartbeats 4000000 in
theorem v_X0_areEach_2 {G : sG} {d : Nat} {vs0 : List Value} {σ0 : sS} {v0 : Nat} {v1 : Int32} {v2 : Int32} {v3 : Int32} {σ : sS} {z : sZ Int32} {r : Int32 × sS} (hf : T_X0_areEach_2 v0 v1 v2 v3 σ = some z) (k : s_K G (d + 3) M_X0_areEach vs0 σ0 Y_X0_areEach e_I z r) : s_V G (d + 3) M_X0_areEach vs0 σ0 Y_X0_areEach (2, [.ref v0, .int v1, .int v2, .int v3], σ) (e_I r) := by
  have le0 : s_le σ (e_I r).2 := s_lek hem_I (l_X0_areEach_2 hf) k
  refine ⟨le0, ?_⟩
  intro p e s m below meth c H locs cells slots ls X I hn1 hn2 hl
  have hn : cells + σ0.2.1 ≤ σ.2.1 ∧ slots + σ0.2.2.1 ≤ σ.2.2.1 := ⟨hn1, hn2⟩
  have hl : lv_has ls 4 [(0, .ref v0), (1, .int v1), (2, .int v2), (3, .int v3)] := hl
  have hx := X.1
  have hb : c.code = cX0_areEach := X.2.1
  have hown : s.vm.findClass RX0 = some m.cls := X.2.2.2.2.2.1
  have hts := X.2.2.2.2.2.2.1
  refine W.eq (g2 := F0 m 2 ls []) rfl ?_
  unfold T_X0_areEach_2 at hf
  obtain ⟨x1, h1, hf⟩ := s_bind hf
  obtain ⟨x2, h2, hf⟩ := s_bind hf
  refine lv_iload_n hx hb dX0_areEach_2 rfl (lv_at hl 3 rfl) ?_
  refine lv_aload_n hx hb dX0_areEach_3 rfl (lv_at hl 0 rfl) ?_
  refine r_gr X I fl_X0_15 h1 dX0_areEach_4 ?_
  refine r_gi X I fl_X0_87 h2 dX0_areEach_7 ?_
  rcases s_ite hf with ⟨c3, hf⟩ | ⟨c3, hf⟩
  · refine lv_icmp_ge (tgt := 49) hx hb dX0_areEach_10 (by decide) (fun _ => ?_) (fun n => absurd c3 n)
    cases hf
    have k : _ = r := k
    subst k
    refine lv_iconst (v := 1) hx hb dX0_areEach_49 (by decide) ?_
    exact r_iret X I rfl rfl rfl hn dX0_areEach_50
  · refine lv_icmp_ge (tgt := 49) hx hb dX0_areEach_10 (by decide) (fun n => absurd n c3) (fun _ => ?_)
    obtain ⟨x3, h4, hf⟩ := s_bind hf
    obtain ⟨x4, h5, hf⟩ := s_bind hf
    obtain ⟨q5, h6, hf⟩ := s_bind hf
    obtain ⟨q6, h7, hf⟩ := s_bind hf
    obtain ⟨x7, h8, hf⟩ := s_bind hf
    obtain ⟨q8, h9, hf⟩ := s_bind hf
    have le10 : s_le q8.2 (e_I r).2 := by
      refine s_lek hem_I ?_ k
      rcases s_ite hf with ⟨-, hf⟩ | ⟨-, hf⟩
      · cases hf
        exact s_le.rf
      · cases hf
        exact s_le.rf
    have le11 := s_le.tr (l_X2_placedOf h9) le10
    have le12 := s_le.tr (l_X1_nodeOfLine h7) le11
    refine lv_aload_n hx hb dX0_areEach_13 rfl (lv_at hl 0 rfl) ?_
    refine r_gr X I fl_X0_15 h4 dX0_areEach_14 ?_
    refine lv_aload_n hx hb dX0_areEach_17 rfl (lv_at hl 0 rfl) ?_
    refine r_gr X I fl_X0_15 h5 dX0_areEach_18 ?_
    refine lv_iload_n hx hb dX0_areEach_21 rfl (lv_at hl 1 rfl) ?_
    refine lv_iload_n hx hb dX0_areEach_22 rfl (lv_at hl 3 rfl) ?_
    refine r_callV (Y := M_X1_premiseOf) (v := some (.int q5.1)) X I w_554 my_X1_premiseOf (by omega) (t_X1_premiseOf (G := G) (d := d + 0) h6) (b_X1_premiseOf h6) rfl rfl hl.1 rfl (Nat.le_of_ble_eq_true rfl) hn le12 dX0_areEach_23 (fun H locs cells slots I hn1 hn2 => ?_)
    have I : s_I G q5.2 s H locs := I
    have hn : cells + σ0.2.1 ≤ q5.2.2.1 ∧ slots + σ0.2.2.1 ≤ q5.2.2.2.1 := ⟨hn1, hn2⟩
    refine r_callV (Y := M_X1_nodeOfLine) (v := some (.int q6.1)) X I w_525 my_X1_nodeOfLine (by omega) (t_X1_nodeOfLine (G := G) (d := d + 0) h7) (b_X1_nodeOfLine h7) rfl rfl hl.1 rfl (Nat.le_of_ble_eq_true rfl) hn le11 dX0_areEach_26 (fun H locs cells slots I hn1 hn2 => ?_)
    have I : s_I G q6.2 s H locs := I
    have hn : cells + σ0.2.1 ≤ q6.2.2.1 ∧ slots + σ0.2.2.1 ≤ q6.2.2.2.1 := ⟨hn1, hn2⟩
    refine lv_aload_n hx hb dX0_areEach_29 rfl (lv_at hl 0 rfl) ?_
    refine r_gr X I fl_X0_9 h8 dX0_areEach_30 ?_
    refine lv_iload_n hx hb dX0_areEach_33 rfl (lv_at hl 2 rfl) ?_
    refine lv_iload_n hx hb dX0_areEach_34 rfl (lv_at hl 3 rfl) ?_
    refine r_callV (Y := M_X2_placedOf) (v := some (.int q8.1)) X I w_592 my_X2_placedOf (by omega) (t_X2_placedOf (G := G) (d := d + 1) h9) (b_X2_placedOf h9) rfl rfl hl.1 rfl (Nat.le_of_ble_eq_true rfl) hn le10 dX0_areEach_35 (fun H locs cells slots I hn1 hn2 => ?_)
    have I : s_I G q8.2 s H locs := I
    have hn : cells + σ0.2.1 ≤ q8.2.2.1 ∧ slots + σ0.2.2.1 ≤ q8.2.2.2.1 := ⟨hn1, hn2⟩
    rcases s_ite hf with ⟨c13, hf⟩ | ⟨c13, hf⟩
    · refine lv_icmp_eq (tgt := 43) hx hb dX0_areEach_38 (by decide) (fun _ => ?_) (fun n => absurd c13 n)
      cases hf
      have k : s_V G (d + 3) M_X0_areEach vs0 σ0 Y_X0_areEach (2, [.ref v0, .int v1, .int v2, .int (v3 + 1)], q8.2) (e_I r) := k
      refine lv_iinc (v := (v3 + 1)) (lv' := [(3, .int (v3 + 1)), (0, .ref v0), (1, .int v1), (2, .int v2)]) hx hb dX0_areEach_43 hl (k := 3) rfl rfl (by decide) rfl (fun ls hl => ?_)
      refine lv_goto (tgt := 2) hx hb dX0_areEach_46 (by decide) ?_
      exact k.2 p e s m below meth c _ _ _ _ _ X I hn.1 hn.2 (lv_sub hl [1, 2, 3, 0] rfl)
    · refine lv_icmp_eq (tgt := 43) hx hb dX0_areEach_38 (by decide) (fun n => absurd n c13) (fun _ => ?_)
      cases hf
      have k : _ = r := k
      subst k
      refine lv_iconst (v := 0) hx hb dX0_areEach_41 (by decide) ?_
      exact r_iret X I rfl rfl rfl hn dX0_areEach_42
theorem v_X0_areEach {G : sG} {d : Nat} {vs0 : List Value} {σ0 : sS} {x : sL} {z : sZ Int32} {r : Int32 × sS} (hs : S_X0_areEach x = some z) (k : s_K G (d + 3) M_X0_areEach vs0 σ0 Y_X0_areEach e_I z r) : s_V G (d + 3) M_X0_areEach vs0 σ0 Y_X0_areEach x (e_I r) := by
  obtain ⟨pc, vs, σ⟩ := x
  unfold S_X0_areEach at hs
  dsimp only at hs
  rcases s_ite hs with ⟨c, hs⟩ | ⟨-, hs⟩
  · subst c
    unfold U_X0_areEach_0 at hs
    obtain ⟨a0, g0, hs⟩ := s_bind hs
    obtain ⟨a1, g1, hs⟩ := s_bind hs
    obtain ⟨a2, g2, hs⟩ := s_bind hs
    obtain ⟨u9, ge, hs⟩ := s_bind hs
    rw [g_r_to g0, g_i_to g1, g_i_to g2, g_e_to ge]
    exact v_X0_areEach_0 hs k
  rcases s_ite hs with ⟨c, hs⟩ | ⟨-, hs⟩
  · subst c
    unfold U_X0_areEach_2 at hs
    obtain ⟨a0, g0, hs⟩ := s_bind hs
    obtain ⟨a1, g1, hs⟩ := s_bind hs
    obtain ⟨a2, g2, hs⟩ := s_bind hs
    obtain ⟨a3, g3, hs⟩ := s_bind hs
    obtain ⟨u9, ge, hs⟩ := s_bind hs
    rw [g_r_to g0, g_i_to g1, g_i_to g2, g_i_to g3, g_e_to ge]
    exact v_X0_areEach_2 hs k
  cases hs
theorem t_X0_areEach {G : sG} {d : Nat} {v0 : Nat} {v1 : Int32} {v2 : Int32} {σ : sS} {q : Int32 × sS} (h : F_X0_areEach v0 v1 v2 σ = some q) : s_T G (d + 3) M_X0_areEach [.ref v0, .int v1, .int v2] σ (e_I q) := by
  unfold F_X0_areEach at h
  obtain ⟨-, -, h⟩ := s_bind h
  exact s_ofV rfl (by decide) (Nat.le_of_ble_eq_true rfl) rfl rfl (s_run_ind (V := fun x r => s_V G (d + 3) M_X0_areEach [.ref v0, .int v1, .int v2] σ Y_X0_areEach x (e_I r)) (fun x z r hs hk => v_X0_areEach hs (by cases z <;> exact hk)) h)
/-! X0_fitsPlain -/
noncomputable def T_X0_fitsPlain_0 (v0 : Nat) (v1 : Int32) (v2 : Int32) (v3 : Int32) (v4 : Int32) (σ : sS) : Option (sZ Int32) :=
  if v1 = 2 then ((s_fr σ v0 0 4).bind fun x1 =>
  (F_X2_isMade x1 v4 2 v2 v3 σ).bind fun q2 =>
  if (q2.1 = 0 ∨ q2.1 = 1) then (some (.inr (q2.1, q2.2))) else none)
  else if v1 = 3 then ((s_fr σ v0 0 4).bind fun x3 =>
  (F_X2_kindOf x3 v2 σ).bind fun q4 =>
  if q4.1 = 2 then ((s_fr q4.2 v0 0 4).bind fun x5 =>
  (F_X2_firstOf x5 v2 q4.2).bind fun q6 =>
  if q6.1 = v4 then (some (.inr (1, q6.2)))
  else (some (.inr (0, q6.2))))
  else (some (.inr (0, q4.2))))
  else if v1 = 4 then ((s_fr σ v0 0 4).bind fun x7 =>
  (F_X2_kindOf x7 v2 σ).bind fun q8 =>
  if q8.1 = 2 then ((s_fr q8.2 v0 0 4).bind fun x9 =>
  (F_X2_secondOf x9 v2 q8.2).bind fun q10 =>
  if q10.1 = v4 then (some (.inr (1, q10.2)))
  else (some (.inr (0, q10.2))))
  else (some (.inr (0, q8.2))))
  else if v1 = 5 then ((s_fr σ v0 0 4).bind fun x11 =>
  (F_X2_kindOf x11 v4 σ).bind fun q12 =>
  if q12.1 = 3 then ((s_fr q12.2 v0 0 4).bind fun x13 =>
  (F_X2_firstOf x13 v4 q12.2).bind fun q14 =>
  if q14.1 = v2 then (some (.inr (1, q14.2)))
  else (some (.inr (0, q14.2))))
  else (some (.inr (0, q12.2))))
  else if v1 = 6 then ((s_fr σ v0 0 4).bind fun x15 =>
  (F_X2_kindOf x15 v4 σ).bind fun q16 =>
  if q16.1 = 3 then ((s_fr q16.2 v0 0 4).bind fun x17 =>
  (F_X2_secondOf x17 v4 q16.2).bind fun q18 =>
  if q18.1 = v2 then (some (.inr (1, q18.2)))
  else (some (.inr (0, q18.2))))
  else (some (.inr (0, q16.2))))
  else if v1 = 7 then ((s_fr σ v0 0 4).bind fun x19 =>
  (F_X2_isMade x19 v3 4 v2 v4 σ).bind fun q20 =>
  if (q20.1 = 0 ∨ q20.1 = 1) then (some (.inr (q20.1, q20.2))) else none)
  else if v1 = 8 then ((s_fr σ v0 0 4).bind fun x21 =>
  (F_X2_kindOf x21 v2 σ).bind fun q22 =>
  if q22.1 = 1 then ((s_fr q22.2 v0 0 4).bind fun x23 =>
  (s_fr q22.2 v0 0 4).bind fun x24 =>
  (F_X2_firstOf x24 v2 q22.2).bind fun q25 =>
  (F_X2_isMade x23 q25.1 1 v4 (-1) q25.2).bind fun q26 =>
  if q26.1 = 0 then (some (.inr (0, q26.2)))
  else (some (.inr (1, q26.2))))
  else (some (.inr (0, q22.2))))
  else if v1 = 9 then (some (.inr (0, σ)))
  else if v1 = 10 then (some (.inr (0, σ)))
  else if v1 = 11 then (some (.inr (0, σ)))
  else if v1 = 12 then (some (.inr (0, σ)))
  else if v1 = 13 then (some (.inr (0, σ)))
  else if v1 = 14 then ((s_fr σ v0 0 4).bind fun x27 =>
  (F_X2_isMade x27 v3 1 v2 (-1) σ).bind fun q28 =>
  if (q28.1 = 0 ∨ q28.1 = 1) then (some (.inr (q28.1, q28.2))) else none)
  else (some (.inr (0, σ)))
noncomputable def U_X0_fitsPlain_0 (vs : List Value) (σ : sS) : Option (sZ Int32) := (g_r vs).bind fun a0 => (g_i a0.2).bind fun a1 => (g_i a1.2).bind fun a2 => (g_i a2.2).bind fun a3 => (g_i a3.2).bind fun a4 => (g_e a4.2).bind fun _ => T_X0_fitsPlain_0 a0.1 a1.1 a2.1 a3.1 a4.1 σ
noncomputable def S_X0_fitsPlain (x : sL) : Option (sZ Int32) := if x.1 = 0 then U_X0_fitsPlain_0 x.2.1 x.2.2 else none
def Y_X0_fitsPlain (pc : Nat) : List Nat := if pc = 0 then [0, 1, 2, 3, 4] else []
noncomputable def F_X0_fitsPlain (v0 : Nat) (v1 : Int32) (v2 : Int32) (v3 : Int32) (v4 : Int32) (σ : sS) : Option (Int32 × sS) := (s_is σ v0 0).bind fun _ => s_run S_X0_fitsPlain (0, [.ref v0, .int v1, .int v2, .int v3, .int v4], σ)
theorem l_X0_fitsPlain_0 {v0 : Nat} {v1 : Int32} {v2 : Int32} {v3 : Int32} {v4 : Int32} {σ : sS} {z : sZ Int32} (hf : T_X0_fitsPlain_0 v0 v1 v2 v3 v4 σ = some z) : s_lz σ z := by
  unfold T_X0_fitsPlain_0 at hf
  rcases s_ite hf with ⟨-, hf⟩ | ⟨-, hf⟩
  · obtain ⟨x1, -, hf⟩ := s_bind hf
    obtain ⟨q2, hh, hf⟩ := s_bind hf
    refine s_lz.tr (l_X2_isMade hh) ?_
    rcases s_ite hf with ⟨-, hf⟩ | ⟨-, hf⟩
    · cases hf
      exact s_le.rf
    · cases hf
  rcases s_ite hf with ⟨-, hf⟩ | ⟨-, hf⟩
  · obtain ⟨x3, -, hf⟩ := s_bind hf
    obtain ⟨q4, hh, hf⟩ := s_bind hf
    refine s_lz.tr (l_X2_kindOf hh) ?_
    rcases s_ite hf with ⟨-, hf⟩ | ⟨-, hf⟩
    · obtain ⟨x5, -, hf⟩ := s_bind hf
      obtain ⟨q6, hh, hf⟩ := s_bind hf
      refine s_lz.tr (l_X2_firstOf hh) ?_
      rcases s_ite hf with ⟨-, hf⟩ | ⟨-, hf⟩
      · cases hf
        exact s_le.rf
      · cases hf
        exact s_le.rf
    · cases hf
      exact s_le.rf
  rcases s_ite hf with ⟨-, hf⟩ | ⟨-, hf⟩
  · obtain ⟨x7, -, hf⟩ := s_bind hf
    obtain ⟨q8, hh, hf⟩ := s_bind hf
    refine s_lz.tr (l_X2_kindOf hh) ?_
    rcases s_ite hf with ⟨-, hf⟩ | ⟨-, hf⟩
    · obtain ⟨x9, -, hf⟩ := s_bind hf
      obtain ⟨q10, hh, hf⟩ := s_bind hf
      refine s_lz.tr (l_X2_secondOf hh) ?_
      rcases s_ite hf with ⟨-, hf⟩ | ⟨-, hf⟩
      · cases hf
        exact s_le.rf
      · cases hf
        exact s_le.rf
    · cases hf
      exact s_le.rf
  rcases s_ite hf with ⟨-, hf⟩ | ⟨-, hf⟩
  · obtain ⟨x11, -, hf⟩ := s_bind hf
    obtain ⟨q12, hh, hf⟩ := s_bind hf
    refine s_lz.tr (l_X2_kindOf hh) ?_
    rcases s_ite hf with ⟨-, hf⟩ | ⟨-, hf⟩
    · obtain ⟨x13, -, hf⟩ := s_bind hf
      obtain ⟨q14, hh, hf⟩ := s_bind hf
      refine s_lz.tr (l_X2_firstOf hh) ?_
      rcases s_ite hf with ⟨-, hf⟩ | ⟨-, hf⟩
      · cases hf
        exact s_le.rf
      · cases hf
        exact s_le.rf
    · cases hf
      exact s_le.rf
  rcases s_ite hf with ⟨-, hf⟩ | ⟨-, hf⟩
  · obtain ⟨x15, -, hf⟩ := s_bind hf
    obtain ⟨q16, hh, hf⟩ := s_bind hf
    refine s_lz.tr (l_X2_kindOf hh) ?_
    rcases s_ite hf with ⟨-, hf⟩ | ⟨-, hf⟩
    · obtain ⟨x17, -, hf⟩ := s_bind hf
      obtain ⟨q18, hh, hf⟩ := s_bind hf
      refine s_lz.tr (l_X2_secondOf hh) ?_
      rcases s_ite hf with ⟨-, hf⟩ | ⟨-, hf⟩
      · cases hf
        exact s_le.rf
      · cases hf
        exact s_le.rf
    · cases hf
      exact s_le.rf
  rcases s_ite hf with ⟨-, hf⟩ | ⟨-, hf⟩
  · obtain ⟨x19, -, hf⟩ := s_bind hf
    obtain ⟨q20, hh, hf⟩ := s_bind hf
    refine s_lz.tr (l_X2_isMade hh) ?_
    rcases s_ite hf with ⟨-, hf⟩ | ⟨-, hf⟩
    · cases hf
      exact s_le.rf
    · cases hf
  rcases s_ite hf with ⟨-, hf⟩ | ⟨-, hf⟩
  · obtain ⟨x21, -, hf⟩ := s_bind hf
    obtain ⟨q22, hh, hf⟩ := s_bind hf
    refine s_lz.tr (l_X2_kindOf hh) ?_
    rcases s_ite hf with ⟨-, hf⟩ | ⟨-, hf⟩
    · obtain ⟨x23, -, hf⟩ := s_bind hf
      obtain ⟨x24, -, hf⟩ := s_bind hf
      obtain ⟨q25, hh, hf⟩ := s_bind hf
      refine s_lz.tr (l_X2_firstOf hh) ?_
      obtain ⟨q26, hh, hf⟩ := s_bind hf
      refine s_lz.tr (l_X2_isMade hh) ?_
      rcases s_ite hf with ⟨-, hf⟩ | ⟨-, hf⟩
      · cases hf
        exact s_le.rf
      · cases hf
        exact s_le.rf
    · cases hf
      exact s_le.rf
  rcases s_ite hf with ⟨-, hf⟩ | ⟨-, hf⟩
  · cases hf
    exact s_le.rf
  rcases s_ite hf with ⟨-, hf⟩ | ⟨-, hf⟩
  · cases hf
    exact s_le.rf
  rcases s_ite hf with ⟨-, hf⟩ | ⟨-, hf⟩
  · cases hf
    exact s_le.rf
  rcases s_ite hf with ⟨-, hf⟩ | ⟨-, hf⟩
  · cases hf
    exact s_le.rf
  rcases s_ite hf with ⟨-, hf⟩ | ⟨-, hf⟩
  · cases hf
    exact s_le.rf
  rcases s_ite hf with ⟨-, hf⟩ | ⟨-, hf⟩
  · obtain ⟨x27, -, hf⟩ := s_bind hf
    obtain ⟨q28, hh, hf⟩ := s_bind hf
    refine s_lz.tr (l_X2_isMade hh) ?_
    rcases s_ite hf with ⟨-, hf⟩ | ⟨-, hf⟩
    · cases hf
      exact s_le.rf
    · cases hf
  cases hf
  exact s_le.rf
theorem l_X0_fitsPlain_s {x : sL} {z : sZ Int32} (hs : S_X0_fitsPlain x = some z) : s_lz x.2.2 z := by
  obtain ⟨pc, vs, σ⟩ := x
  unfold S_X0_fitsPlain at hs
  dsimp only at hs ⊢
  rcases s_ite hs with ⟨c, hs⟩ | ⟨-, hs⟩
  · subst c
    unfold U_X0_fitsPlain_0 at hs
    obtain ⟨a0, g0, hs⟩ := s_bind hs
    obtain ⟨a1, g1, hs⟩ := s_bind hs
    obtain ⟨a2, g2, hs⟩ := s_bind hs
    obtain ⟨a3, g3, hs⟩ := s_bind hs
    obtain ⟨a4, g4, hs⟩ := s_bind hs
    obtain ⟨u9, ge, hs⟩ := s_bind hs
    exact l_X0_fitsPlain_0 hs
  cases hs
theorem l_X0_fitsPlain {v0 : Nat} {v1 : Int32} {v2 : Int32} {v3 : Int32} {v4 : Int32} {σ : sS} {q : Int32 × sS} (h : F_X0_fitsPlain v0 v1 v2 v3 v4 σ = some q) : s_le σ q.2 := by
  unfold F_X0_fitsPlain at h
  obtain ⟨-, -, h⟩ := s_bind h
  exact s_run_ind (V := fun x r => s_le x.2.2 r.2) (fun x z r hs hk => by
    have h9 := l_X0_fitsPlain_s hs
    cases z with
    | inl y => exact s_le.tr h9 hk
    | inr q => cases hk; exact h9) h
theorem b_X0_fitsPlain {v0 : Nat} {v1 : Int32} {v2 : Int32} {v3 : Int32} {v4 : Int32} {σ : sS} {q : Int32 × sS} (h : F_X0_fitsPlain v0 v1 v2 v3 v4 σ = some q) : ∃ fs, σ.1 v0 = some (.inr (0, fs)) := by
  unfold F_X0_fitsPlain at h
  obtain ⟨u, hu, -⟩ := s_bind h
  exact s_is_to hu
set_option maxRecDepth 100000 in
set_option maxHeartbeats 4000000 in
theorem v_X0_fitsPlain_0 {G : sG} {d : Nat} {vs0 : List Value} {σ0 : sS} {v0 : Nat} {v1 : Int32} {v2 : Int32} {v3 : Int32} {v4 : Int32} {σ : sS} {z : sZ Int32} {r : Int32 × sS} (hf : T_X0_fitsPlain_0 v0 v1 v2 v3 v4 σ = some z) (k : s_K G (d + 2) M_X0_fitsPlain vs0 σ0 Y_X0_fitsPlain e_I z r) : s_V G (d + 2) M_X0_fitsPlain vs0 σ0 Y_X0_fitsPlain (0, [.ref v0, .int v1, .int v2, .int v3, .int v4], σ) (e_I r) := by
  have le0 : s_le σ (e_I r).2 := s_lek hem_I (l_X0_fitsPlain_0 hf) k
  refine ⟨le0, ?_⟩
  intro p e s m below meth c H locs cells slots ls X I hn1 hn2 hl
  have hn : cells + σ0.2.1 ≤ σ.2.1 ∧ slots + σ0.2.2.1 ≤ σ.2.2.1 := ⟨hn1, hn2⟩
  have hl : lv_has ls 5 [(0, .ref v0), (1, .int v1), (2, .int v2), (3, .int v3), (4, .int v4)] := hl
  have hx := X.1
  have hb : c.code = cX0_fitsPlain := X.2.1
  have hown : s.vm.findClass RX0 = some m.cls := X.2.2.2.2.2.1
  have hts := X.2.2.2.2.2.2.1
  refine W.eq (g2 := F0 m 0 ls []) rfl ?_
  unfold T_X0_fitsPlain_0 at hf
  refine lv_iload_n hx hb dX0_fitsPlain_0 rfl (lv_at hl 1 rfl) ?_
  rcases s_ite hf with ⟨c1, hf⟩ | ⟨c1, hf⟩
  · refine lv_tableIn (tgt := 68) (off := 67) hx hb dX0_fitsPlain_1 (by rw [c1]; decide) (by rw [c1]; decide) (by rw [c1]; rfl) (by decide) ?_
    obtain ⟨x1, h2, hf⟩ := s_bind hf
    obtain ⟨q2, h3, hf⟩ := s_bind hf
    have le4 : s_le q2.2 (e_I r).2 := by
      refine s_lek hem_I ?_ k
      rcases s_ite hf with ⟨-, hf⟩ | ⟨-, hf⟩
      · cases hf
        exact s_le.rf
      · cases hf
    refine lv_aload_n hx hb dX0_fitsPlain_68 rfl (lv_at hl 0 rfl) ?_
    refine r_gr X I fl_X0_9 h2 dX0_fitsPlain_69 ?_
    refine lv_iload hx hb dX0_fitsPlain_72 (lv_at hl 4 rfl) ?_
    refine lv_iconst (v := 2) hx hb dX0_fitsPlain_74 (by decide) ?_
    refine lv_iload_n hx hb dX0_fitsPlain_75 rfl (lv_at hl 2 rfl) ?_
    refine lv_iload_n hx hb dX0_fitsPlain_76 rfl (lv_at hl 3 rfl) ?_
    refine r_callV (Y := M_X2_isMade) (v := some (.int q2.1)) X I w_580 my_X2_isMade (by omega) (t_X2_isMade (G := G) (d := d + 0) h3) (b_X2_isMade h3) rfl rfl hl.1 rfl (Nat.le_of_ble_eq_true rfl) hn le4 dX0_fitsPlain_77 (fun H locs cells slots I hn1 hn2 => ?_)
    have I : s_I G q2.2 s H locs := I
    have hn : cells + σ0.2.1 ≤ q2.2.2.1 ∧ slots + σ0.2.2.1 ≤ q2.2.2.2.1 := ⟨hn1, hn2⟩
    rcases s_ite hf with ⟨hchk, hf⟩ | ⟨-, hf⟩
    · cases hf
      have k : _ = r := k
      subst k
      exact r_iret X I rfl (s_nb hchk) rfl hn dX0_fitsPlain_80
    · cases hf
  rcases s_ite hf with ⟨c5, hf⟩ | ⟨c5, hf⟩
  · refine lv_tableIn (tgt := 81) (off := 80) hx hb dX0_fitsPlain_1 (by rw [c5]; decide) (by rw [c5]; decide) (by rw [c5]; rfl) (by decide) ?_
    obtain ⟨x3, h6, hf⟩ := s_bind hf
    obtain ⟨q4, h7, hf⟩ := s_bind hf
    have le8 : s_le q4.2 (e_I r).2 := by
      refine s_lek hem_I ?_ k
      rcases s_ite hf with ⟨-, hf⟩ | ⟨-, hf⟩
      · obtain ⟨x5, -, hf⟩ := s_bind hf
        obtain ⟨q6, hh, hf⟩ := s_bind hf
        refine s_lz.tr (l_X2_firstOf hh) ?_
        rcases s_ite hf with ⟨-, hf⟩ | ⟨-, hf⟩
        · cases hf
          exact s_le.rf
        · cases hf
          exact s_le.rf
      · cases hf
        exact s_le.rf
    refine lv_aload_n hx hb dX0_fitsPlain_81 rfl (lv_at hl 0 rfl) ?_
    refine r_gr X I fl_X0_9 h6 dX0_fitsPlain_82 ?_
    refine lv_iload_n hx hb dX0_fitsPlain_85 rfl (lv_at hl 2 rfl) ?_
    refine r_callV (Y := M_X2_kindOf) (v := some (.int q4.1)) X I w_572 my_X2_kindOf (by omega) (t_X2_kindOf (G := G) (d := d + 0) h7) (b_X2_kindOf h7) rfl rfl hl.1 rfl (Nat.le_of_ble_eq_true rfl) hn le8 dX0_fitsPlain_86 (fun H locs cells slots I hn1 hn2 => ?_)
    have I : s_I G q4.2 s H locs := I
    have hn : cells + σ0.2.1 ≤ q4.2.2.1 ∧ slots + σ0.2.2.1 ≤ q4.2.2.2.1 := ⟨hn1, hn2⟩
    refine lv_iconst (v := 2) hx hb dX0_fitsPlain_89 (by decide) ?_
    rcases s_ite hf with ⟨c9, hf⟩ | ⟨c9, hf⟩
    · refine lv_icmp_ne (tgt := 110) hx hb dX0_fitsPlain_90 (by decide) (fun n => absurd c9 n) (fun _ => ?_)
      obtain ⟨x5, h10, hf⟩ := s_bind hf
      obtain ⟨q6, h11, hf⟩ := s_bind hf
      have le12 : s_le q6.2 (e_I r).2 := by
        refine s_lek hem_I ?_ k
        rcases s_ite hf with ⟨-, hf⟩ | ⟨-, hf⟩
        · cases hf
          exact s_le.rf
        · cases hf
          exact s_le.rf
      refine lv_aload_n hx hb dX0_fitsPlain_93 rfl (lv_at hl 0 rfl) ?_
      refine r_gr X I fl_X0_9 h10 dX0_fitsPlain_94 ?_
      refine lv_iload_n hx hb dX0_fitsPlain_97 rfl (lv_at hl 2 rfl) ?_
      refine r_callV (Y := M_X2_firstOf) (v := some (.int q6.1)) X I w_576 my_X2_firstOf (by omega) (t_X2_firstOf (G := G) (d := d + 0) h11) (b_X2_firstOf h11) rfl rfl hl.1 rfl (Nat.le_of_ble_eq_true rfl) hn le12 dX0_fitsPlain_98 (fun H locs cells slots I hn1 hn2 => ?_)
      have I : s_I G q6.2 s H locs := I
      have hn : cells + σ0.2.1 ≤ q6.2.2.1 ∧ slots + σ0.2.2.1 ≤ q6.2.2.2.1 := ⟨hn1, hn2⟩
      refine lv_iload hx hb dX0_fitsPlain_101 (lv_at hl 4 rfl) ?_
      rcases s_ite hf with ⟨c13, hf⟩ | ⟨c13, hf⟩
      · refine lv_icmp_ne (tgt := 110) hx hb dX0_fitsPlain_103 (by decide) (fun n => absurd c13 n) (fun _ => ?_)
        cases hf
        have k : _ = r := k
        subst k
        refine lv_iconst (v := 1) hx hb dX0_fitsPlain_106 (by decide) ?_
        refine lv_goto (tgt := 111) hx hb dX0_fitsPlain_107 (by decide) ?_
        exact r_iret X I rfl rfl rfl hn dX0_fitsPlain_111
      · refine lv_icmp_ne (tgt := 110) hx hb dX0_fitsPlain_103 (by decide) (fun _ => ?_) (fun n => absurd n c13)
        cases hf
        have k : _ = r := k
        subst k
        refine lv_iconst (v := 0) hx hb dX0_fitsPlain_110 (by decide) ?_
        exact r_iret X I rfl rfl rfl hn dX0_fitsPlain_111
    · refine lv_icmp_ne (tgt := 110) hx hb dX0_fitsPlain_90 (by decide) (fun _ => ?_) (fun n => absurd n c9)
      cases hf
      have k : _ = r := k
      subst k
      refine lv_iconst (v := 0) hx hb dX0_fitsPlain_110 (by decide) ?_
      exact r_iret X I rfl rfl rfl hn dX0_fitsPlain_111
  rcases s_ite hf with ⟨c14, hf⟩ | ⟨c14, hf⟩
  · refine lv_tableIn (tgt := 112) (off := 111) hx hb dX0_fitsPlain_1 (by rw [c14]; decide) (by rw [c14]; decide) (by rw [c14]; rfl) (by decide) ?_
    obtain ⟨x7, h15, hf⟩ := s_bind hf
    obtain ⟨q8, h16, hf⟩ := s_bind hf
    have le17 : s_le q8.2 (e_I r).2 := by
      refine s_lek hem_I ?_ k
      rcases s_ite hf with ⟨-, hf⟩ | ⟨-, hf⟩
      · obtain ⟨x9, -, hf⟩ := s_bind hf
        obtain ⟨q10, hh, hf⟩ := s_bind hf
        refine s_lz.tr (l_X2_secondOf hh) ?_
        rcases s_ite hf with ⟨-, hf⟩ | ⟨-, hf⟩
        · cases hf
          exact s_le.rf
        · cases hf
          exact s_le.rf
      · cases hf
        exact s_le.rf
    refine lv_aload_n hx hb dX0_fitsPlain_112 rfl (lv_at hl 0 rfl) ?_
    refine r_gr X I fl_X0_9 h15 dX0_fitsPlain_113 ?_
    refine lv_iload_n hx hb dX0_fitsPlain_116 rfl (lv_at hl 2 rfl) ?_
    refine r_callV (Y := M_X2_kindOf) (v := some (.int q8.1)) X I w_572 my_X2_kindOf (by omega) (t_X2_kindOf (G := G) (d := d + 0) h16) (b_X2_kindOf h16) rfl rfl hl.1 rfl (Nat.le_of_ble_eq_true rfl) hn le17 dX0_fitsPlain_117 (fun H locs cells slots I hn1 hn2 => ?_)
    have I : s_I G q8.2 s H locs := I
    have hn : cells + σ0.2.1 ≤ q8.2.2.1 ∧ slots + σ0.2.2.1 ≤ q8.2.2.2.1 := ⟨hn1, hn2⟩
    refine lv_iconst (v := 2) hx hb dX0_fitsPlain_120 (by decide) ?_
    rcases s_ite hf with ⟨c18, hf⟩ | ⟨c18, hf⟩
    · refine lv_icmp_ne (tgt := 141) hx hb dX0_fitsPlain_121 (by decide) (fun n => absurd c18 n) (fun _ => ?_)
      obtain ⟨x9, h19, hf⟩ := s_bind hf
      obtain ⟨q10, h20, hf⟩ := s_bind hf
      have le21 : s_le q10.2 (e_I r).2 := by
        refine s_lek hem_I ?_ k
        rcases s_ite hf with ⟨-, hf⟩ | ⟨-, hf⟩
        · cases hf
          exact s_le.rf
        · cases hf
          exact s_le.rf
      refine lv_aload_n hx hb dX0_fitsPlain_124 rfl (lv_at hl 0 rfl) ?_
      refine r_gr X I fl_X0_9 h19 dX0_fitsPlain_125 ?_
      refine lv_iload_n hx hb dX0_fitsPlain_128 rfl (lv_at hl 2 rfl) ?_
      refine r_callV (Y := M_X2_secondOf) (v := some (.int q10.1)) X I w_584 my_X2_secondOf (by omega) (t_X2_secondOf (G := G) (d := d + 0) h20) (b_X2_secondOf h20) rfl rfl hl.1 rfl (Nat.le_of_ble_eq_true rfl) hn le21 dX0_fitsPlain_129 (fun H locs cells slots I hn1 hn2 => ?_)
      have I : s_I G q10.2 s H locs := I
      have hn : cells + σ0.2.1 ≤ q10.2.2.1 ∧ slots + σ0.2.2.1 ≤ q10.2.2.2.1 := ⟨hn1, hn2⟩
      refine lv_iload hx hb dX0_fitsPlain_132 (lv_at hl 4 rfl) ?_
      rcases s_ite hf with ⟨c22, hf⟩ | ⟨c22, hf⟩
      · refine lv_icmp_ne (tgt := 141) hx hb dX0_fitsPlain_134 (by decide) (fun n => absurd c22 n) (fun _ => ?_)
        cases hf
        have k : _ = r := k
        subst k
        refine lv_iconst (v := 1) hx hb dX0_fitsPlain_137 (by decide) ?_
        refine lv_goto (tgt := 142) hx hb dX0_fitsPlain_138 (by decide) ?_
        exact r_iret X I rfl rfl rfl hn dX0_fitsPlain_142
      · refine lv_icmp_ne (tgt := 141) hx hb dX0_fitsPlain_134 (by decide) (fun _ => ?_) (fun n => absurd n c22)
        cases hf
        have k : _ = r := k
        subst k
        refine lv_iconst (v := 0) hx hb dX0_fitsPlain_141 (by decide) ?_
        exact r_iret X I rfl rfl rfl hn dX0_fitsPlain_142
    · refine lv_icmp_ne (tgt := 141) hx hb dX0_fitsPlain_121 (by decide) (fun _ => ?_) (fun n => absurd n c18)
      cases hf
      have k : _ = r := k
      subst k
      refine lv_iconst (v := 0) hx hb dX0_fitsPlain_141 (by decide) ?_
      exact r_iret X I rfl rfl rfl hn dX0_fitsPlain_142
  rcases s_ite hf with ⟨c23, hf⟩ | ⟨c23, hf⟩
  · refine lv_tableIn (tgt := 143) (off := 142) hx hb dX0_fitsPlain_1 (by rw [c23]; decide) (by rw [c23]; decide) (by rw [c23]; rfl) (by decide) ?_
    obtain ⟨x11, h24, hf⟩ := s_bind hf
    obtain ⟨q12, h25, hf⟩ := s_bind hf
    have le26 : s_le q12.2 (e_I r).2 := by
      refine s_lek hem_I ?_ k
      rcases s_ite hf with ⟨-, hf⟩ | ⟨-, hf⟩
      · obtain ⟨x13, -, hf⟩ := s_bind hf
        obtain ⟨q14, hh, hf⟩ := s_bind hf
        refine s_lz.tr (l_X2_firstOf hh) ?_
        rcases s_ite hf with ⟨-, hf⟩ | ⟨-, hf⟩
        · cases hf
          exact s_le.rf
        · cases hf
          exact s_le.rf
      · cases hf
        exact s_le.rf
    refine lv_aload_n hx hb dX0_fitsPlain_143 rfl (lv_at hl 0 rfl) ?_
    refine r_gr X I fl_X0_9 h24 dX0_fitsPlain_144 ?_
    refine lv_iload hx hb dX0_fitsPlain_147 (lv_at hl 4 rfl) ?_
    refine r_callV (Y := M_X2_kindOf) (v := some (.int q12.1)) X I w_572 my_X2_kindOf (by omega) (t_X2_kindOf (G := G) (d := d + 0) h25) (b_X2_kindOf h25) rfl rfl hl.1 rfl (Nat.le_of_ble_eq_true rfl) hn le26 dX0_fitsPlain_149 (fun H locs cells slots I hn1 hn2 => ?_)
    have I : s_I G q12.2 s H locs := I
    have hn : cells + σ0.2.1 ≤ q12.2.2.1 ∧ slots + σ0.2.2.1 ≤ q12.2.2.2.1 := ⟨hn1, hn2⟩
    refine lv_iconst (v := 3) hx hb dX0_fitsPlain_152 (by decide) ?_
    rcases s_ite hf with ⟨c27, hf⟩ | ⟨c27, hf⟩
    · refine lv_icmp_ne (tgt := 173) hx hb dX0_fitsPlain_153 (by decide) (fun n => absurd c27 n) (fun _ => ?_)
      obtain ⟨x13, h28, hf⟩ := s_bind hf
      obtain ⟨q14, h29, hf⟩ := s_bind hf
      have le30 : s_le q14.2 (e_I r).2 := by
        refine s_lek hem_I ?_ k
        rcases s_ite hf with ⟨-, hf⟩ | ⟨-, hf⟩
        · cases hf
          exact s_le.rf
        · cases hf
          exact s_le.rf
      refine lv_aload_n hx hb dX0_fitsPlain_156 rfl (lv_at hl 0 rfl) ?_
      refine r_gr X I fl_X0_9 h28 dX0_fitsPlain_157 ?_
      refine lv_iload hx hb dX0_fitsPlain_160 (lv_at hl 4 rfl) ?_
      refine r_callV (Y := M_X2_firstOf) (v := some (.int q14.1)) X I w_576 my_X2_firstOf (by omega) (t_X2_firstOf (G := G) (d := d + 0) h29) (b_X2_firstOf h29) rfl rfl hl.1 rfl (Nat.le_of_ble_eq_true rfl) hn le30 dX0_fitsPlain_162 (fun H locs cells slots I hn1 hn2 => ?_)
      have I : s_I G q14.2 s H locs := I
      have hn : cells + σ0.2.1 ≤ q14.2.2.1 ∧ slots + σ0.2.2.1 ≤ q14.2.2.2.1 := ⟨hn1, hn2⟩
      refine lv_iload_n hx hb dX0_fitsPlain_165 rfl (lv_at hl 2 rfl) ?_
      rcases s_ite hf with ⟨c31, hf⟩ | ⟨c31, hf⟩
      · refine lv_icmp_ne (tgt := 173) hx hb dX0_fitsPlain_166 (by decide) (fun n => absurd c31 n) (fun _ => ?_)
        cases hf
        have k : _ = r := k
        subst k
        refine lv_iconst (v := 1) hx hb dX0_fitsPlain_169 (by decide) ?_
        refine lv_goto (tgt := 174) hx hb dX0_fitsPlain_170 (by decide) ?_
        exact r_iret X I rfl rfl rfl hn dX0_fitsPlain_174
      · refine lv_icmp_ne (tgt := 173) hx hb dX0_fitsPlain_166 (by decide) (fun _ => ?_) (fun n => absurd n c31)
        cases hf
        have k : _ = r := k
        subst k
        refine lv_iconst (v := 0) hx hb dX0_fitsPlain_173 (by decide) ?_
        exact r_iret X I rfl rfl rfl hn dX0_fitsPlain_174
    · refine lv_icmp_ne (tgt := 173) hx hb dX0_fitsPlain_153 (by decide) (fun _ => ?_) (fun n => absurd n c27)
      cases hf
      have k : _ = r := k
      subst k
      refine lv_iconst (v := 0) hx hb dX0_fitsPlain_173 (by decide) ?_
      exact r_iret X I rfl rfl rfl hn dX0_fitsPlain_174
  rcases s_ite hf with ⟨c32, hf⟩ | ⟨c32, hf⟩
  · refine lv_tableIn (tgt := 175) (off := 174) hx hb dX0_fitsPlain_1 (by rw [c32]; decide) (by rw [c32]; decide) (by rw [c32]; rfl) (by decide) ?_
    obtain ⟨x15, h33, hf⟩ := s_bind hf
    obtain ⟨q16, h34, hf⟩ := s_bind hf
    have le35 : s_le q16.2 (e_I r).2 := by
      refine s_lek hem_I ?_ k
      rcases s_ite hf with ⟨-, hf⟩ | ⟨-, hf⟩
      · obtain ⟨x17, -, hf⟩ := s_bind hf
        obtain ⟨q18, hh, hf⟩ := s_bind hf
        refine s_lz.tr (l_X2_secondOf hh) ?_
        rcases s_ite hf with ⟨-, hf⟩ | ⟨-, hf⟩
        · cases hf
          exact s_le.rf
        · cases hf
          exact s_le.rf
      · cases hf
        exact s_le.rf
    refine lv_aload_n hx hb dX0_fitsPlain_175 rfl (lv_at hl 0 rfl) ?_
    refine r_gr X I fl_X0_9 h33 dX0_fitsPlain_176 ?_
    refine lv_iload hx hb dX0_fitsPlain_179 (lv_at hl 4 rfl) ?_
    refine r_callV (Y := M_X2_kindOf) (v := some (.int q16.1)) X I w_572 my_X2_kindOf (by omega) (t_X2_kindOf (G := G) (d := d + 0) h34) (b_X2_kindOf h34) rfl rfl hl.1 rfl (Nat.le_of_ble_eq_true rfl) hn le35 dX0_fitsPlain_181 (fun H locs cells slots I hn1 hn2 => ?_)
    have I : s_I G q16.2 s H locs := I
    have hn : cells + σ0.2.1 ≤ q16.2.2.1 ∧ slots + σ0.2.2.1 ≤ q16.2.2.2.1 := ⟨hn1, hn2⟩
    refine lv_iconst (v := 3) hx hb dX0_fitsPlain_184 (by decide) ?_
    rcases s_ite hf with ⟨c36, hf⟩ | ⟨c36, hf⟩
    · refine lv_icmp_ne (tgt := 205) hx hb dX0_fitsPlain_185 (by decide) (fun n => absurd c36 n) (fun _ => ?_)
      obtain ⟨x17, h37, hf⟩ := s_bind hf
      obtain ⟨q18, h38, hf⟩ := s_bind hf
      have le39 : s_le q18.2 (e_I r).2 := by
        refine s_lek hem_I ?_ k
        rcases s_ite hf with ⟨-, hf⟩ | ⟨-, hf⟩
        · cases hf
          exact s_le.rf
        · cases hf
          exact s_le.rf
      refine lv_aload_n hx hb dX0_fitsPlain_188 rfl (lv_at hl 0 rfl) ?_
      refine r_gr X I fl_X0_9 h37 dX0_fitsPlain_189 ?_
      refine lv_iload hx hb dX0_fitsPlain_192 (lv_at hl 4 rfl) ?_
      refine r_callV (Y := M_X2_secondOf) (v := some (.int q18.1)) X I w_584 my_X2_secondOf (by omega) (t_X2_secondOf (G := G) (d := d + 0) h38) (b_X2_secondOf h38) rfl rfl hl.1 rfl (Nat.le_of_ble_eq_true rfl) hn le39 dX0_fitsPlain_194 (fun H locs cells slots I hn1 hn2 => ?_)
      have I : s_I G q18.2 s H locs := I
      have hn : cells + σ0.2.1 ≤ q18.2.2.1 ∧ slots + σ0.2.2.1 ≤ q18.2.2.2.1 := ⟨hn1, hn2⟩
      refine lv_iload_n hx hb dX0_fitsPlain_197 rfl (lv_at hl 2 rfl) ?_
      rcases s_ite hf with ⟨c40, hf⟩ | ⟨c40, hf⟩
      · refine lv_icmp_ne (tgt := 205) hx hb dX0_fitsPlain_198 (by decide) (fun n => absurd c40 n) (fun _ => ?_)
        cases hf
        have k : _ = r := k
        subst k
        refine lv_iconst (v := 1) hx hb dX0_fitsPlain_201 (by decide) ?_
        refine lv_goto (tgt := 206) hx hb dX0_fitsPlain_202 (by decide) ?_
        exact r_iret X I rfl rfl rfl hn dX0_fitsPlain_206
      · refine lv_icmp_ne (tgt := 205) hx hb dX0_fitsPlain_198 (by decide) (fun _ => ?_) (fun n => absurd n c40)
        cases hf
        have k : _ = r := k
        subst k
        refine lv_iconst (v := 0) hx hb dX0_fitsPlain_205 (by decide) ?_
        exact r_iret X I rfl rfl rfl hn dX0_fitsPlain_206
    · refine lv_icmp_ne (tgt := 205) hx hb dX0_fitsPlain_185 (by decide) (fun _ => ?_) (fun n => absurd n c36)
      cases hf
      have k : _ = r := k
      subst k
      refine lv_iconst (v := 0) hx hb dX0_fitsPlain_205 (by decide) ?_
      exact r_iret X I rfl rfl rfl hn dX0_fitsPlain_206
  rcases s_ite hf with ⟨c41, hf⟩ | ⟨c41, hf⟩
  · refine lv_tableIn (tgt := 207) (off := 206) hx hb dX0_fitsPlain_1 (by rw [c41]; decide) (by rw [c41]; decide) (by rw [c41]; rfl) (by decide) ?_
    obtain ⟨x19, h42, hf⟩ := s_bind hf
    obtain ⟨q20, h43, hf⟩ := s_bind hf
    have le44 : s_le q20.2 (e_I r).2 := by
      refine s_lek hem_I ?_ k
      rcases s_ite hf with ⟨-, hf⟩ | ⟨-, hf⟩
      · cases hf
        exact s_le.rf
      · cases hf
    refine lv_aload_n hx hb dX0_fitsPlain_207 rfl (lv_at hl 0 rfl) ?_
    refine r_gr X I fl_X0_9 h42 dX0_fitsPlain_208 ?_
    refine lv_iload_n hx hb dX0_fitsPlain_211 rfl (lv_at hl 3 rfl) ?_
    refine lv_iconst (v := 4) hx hb dX0_fitsPlain_212 (by decide) ?_
    refine lv_iload_n hx hb dX0_fitsPlain_213 rfl (lv_at hl 2 rfl) ?_
    refine lv_iload hx hb dX0_fitsPlain_214 (lv_at hl 4 rfl) ?_
    refine r_callV (Y := M_X2_isMade) (v := some (.int q20.1)) X I w_580 my_X2_isMade (by omega) (t_X2_isMade (G := G) (d := d + 0) h43) (b_X2_isMade h43) rfl rfl hl.1 rfl (Nat.le_of_ble_eq_true rfl) hn le44 dX0_fitsPlain_216 (fun H locs cells slots I hn1 hn2 => ?_)
    have I : s_I G q20.2 s H locs := I
    have hn : cells + σ0.2.1 ≤ q20.2.2.1 ∧ slots + σ0.2.2.1 ≤ q20.2.2.2.1 := ⟨hn1, hn2⟩
    rcases s_ite hf with ⟨hchk, hf⟩ | ⟨-, hf⟩
    · cases hf
      have k : _ = r := k
      subst k
      exact r_iret X I rfl (s_nb hchk) rfl hn dX0_fitsPlain_219
    · cases hf
  rcases s_ite hf with ⟨c45, hf⟩ | ⟨c45, hf⟩
  · refine lv_tableIn (tgt := 220) (off := 219) hx hb dX0_fitsPlain_1 (by rw [c45]; decide) (by rw [c45]; decide) (by rw [c45]; rfl) (by decide) ?_
    obtain ⟨x21, h46, hf⟩ := s_bind hf
    obtain ⟨q22, h47, hf⟩ := s_bind hf
    have le48 : s_le q22.2 (e_I r).2 := by
      refine s_lek hem_I ?_ k
      rcases s_ite hf with ⟨-, hf⟩ | ⟨-, hf⟩
      · obtain ⟨x23, -, hf⟩ := s_bind hf
        obtain ⟨x24, -, hf⟩ := s_bind hf
        obtain ⟨q25, hh, hf⟩ := s_bind hf
        refine s_lz.tr (l_X2_firstOf hh) ?_
        obtain ⟨q26, hh, hf⟩ := s_bind hf
        refine s_lz.tr (l_X2_isMade hh) ?_
        rcases s_ite hf with ⟨-, hf⟩ | ⟨-, hf⟩
        · cases hf
          exact s_le.rf
        · cases hf
          exact s_le.rf
      · cases hf
        exact s_le.rf
    refine lv_aload_n hx hb dX0_fitsPlain_220 rfl (lv_at hl 0 rfl) ?_
    refine r_gr X I fl_X0_9 h46 dX0_fitsPlain_221 ?_
    refine lv_iload_n hx hb dX0_fitsPlain_224 rfl (lv_at hl 2 rfl) ?_
    refine r_callV (Y := M_X2_kindOf) (v := some (.int q22.1)) X I w_572 my_X2_kindOf (by omega) (t_X2_kindOf (G := G) (d := d + 0) h47) (b_X2_kindOf h47) rfl rfl hl.1 rfl (Nat.le_of_ble_eq_true rfl) hn le48 dX0_fitsPlain_225 (fun H locs cells slots I hn1 hn2 => ?_)
    have I : s_I G q22.2 s H locs := I
    have hn : cells + σ0.2.1 ≤ q22.2.2.1 ∧ slots + σ0.2.2.1 ≤ q22.2.2.2.1 := ⟨hn1, hn2⟩
    refine lv_iconst (v := 1) hx hb dX0_fitsPlain_228 (by decide) ?_
    rcases s_ite hf with ⟨c49, hf⟩ | ⟨c49, hf⟩
    · refine lv_icmp_ne (tgt := 258) hx hb dX0_fitsPlain_229 (by decide) (fun n => absurd c49 n) (fun _ => ?_)
      obtain ⟨x23, h50, hf⟩ := s_bind hf
      obtain ⟨x24, h51, hf⟩ := s_bind hf
      obtain ⟨q25, h52, hf⟩ := s_bind hf
      obtain ⟨q26, h53, hf⟩ := s_bind hf
      have le54 : s_le q26.2 (e_I r).2 := by
        refine s_lek hem_I ?_ k
        rcases s_ite hf with ⟨-, hf⟩ | ⟨-, hf⟩
        · cases hf
          exact s_le.rf
        · cases hf
          exact s_le.rf
      have le55 := s_le.tr (l_X2_isMade h53) le54
      refine lv_aload_n hx hb dX0_fitsPlain_232 rfl (lv_at hl 0 rfl) ?_
      refine r_gr X I fl_X0_9 h50 dX0_fitsPlain_233 ?_
      refine lv_aload_n hx hb dX0_fitsPlain_236 rfl (lv_at hl 0 rfl) ?_
      refine r_gr X I fl_X0_9 h51 dX0_fitsPlain_237 ?_
      refine lv_iload_n hx hb dX0_fitsPlain_240 rfl (lv_at hl 2 rfl) ?_
      refine r_callV (Y := M_X2_firstOf) (v := some (.int q25.1)) X I w_576 my_X2_firstOf (by omega) (t_X2_firstOf (G := G) (d := d + 0) h52) (b_X2_firstOf h52) rfl rfl hl.1 rfl (Nat.le_of_ble_eq_true rfl) hn le55 dX0_fitsPlain_241 (fun H locs cells slots I hn1 hn2 => ?_)
      have I : s_I G q25.2 s H locs := I
      have hn : cells + σ0.2.1 ≤ q25.2.2.1 ∧ slots + σ0.2.2.1 ≤ q25.2.2.2.1 := ⟨hn1, hn2⟩
      refine lv_iconst (v := 1) hx hb dX0_fitsPlain_244 (by decide) ?_
      refine lv_iload hx hb dX0_fitsPlain_245 (lv_at hl 4 rfl) ?_
      refine lv_iconst (v := (-1)) hx hb dX0_fitsPlain_247 (by decide) ?_
      refine r_callV (Y := M_X2_isMade) (v := some (.int q26.1)) X I w_580 my_X2_isMade (by omega) (t_X2_isMade (G := G) (d := d + 0) h53) (b_X2_isMade h53) rfl rfl hl.1 rfl (Nat.le_of_ble_eq_true rfl) hn le54 dX0_fitsPlain_248 (fun H locs cells slots I hn1 hn2 => ?_)
      have I : s_I G q26.2 s H locs := I
      have hn : cells + σ0.2.1 ≤ q26.2.2.1 ∧ slots + σ0.2.2.1 ≤ q26.2.2.2.1 := ⟨hn1, hn2⟩
      rcases s_ite hf with ⟨c56, hf⟩ | ⟨c56, hf⟩
      · refine lv_if_eq (tgt := 258) hx hb dX0_fitsPlain_251 (by decide) (fun _ => ?_) (fun n => absurd c56 n)
        cases hf
        have k : _ = r := k
        subst k
        refine lv_iconst (v := 0) hx hb dX0_fitsPlain_258 (by decide) ?_
        exact r_iret X I rfl rfl rfl hn dX0_fitsPlain_259
      · refine lv_if_eq (tgt := 258) hx hb dX0_fitsPlain_251 (by decide) (fun n => absurd n c56) (fun _ => ?_)
        cases hf
        have k : _ = r := k
        subst k
        refine lv_iconst (v := 1) hx hb dX0_fitsPlain_254 (by decide) ?_
        refine lv_goto (tgt := 259) hx hb dX0_fitsPlain_255 (by decide) ?_
        exact r_iret X I rfl rfl rfl hn dX0_fitsPlain_259
    · refine lv_icmp_ne (tgt := 258) hx hb dX0_fitsPlain_229 (by decide) (fun _ => ?_) (fun n => absurd n c49)
      cases hf
      have k : _ = r := k
      subst k
      refine lv_iconst (v := 0) hx hb dX0_fitsPlain_258 (by decide) ?_
      exact r_iret X I rfl rfl rfl hn dX0_fitsPlain_259
  rcases s_ite hf with ⟨c57, hf⟩ | ⟨c57, hf⟩
  · refine lv_tableIn (tgt := 272) (off := 271) hx hb dX0_fitsPlain_1 (by rw [c57]; decide) (by rw [c57]; decide) (by rw [c57]; rfl) (by decide) ?_
    cases hf
    have k : _ = r := k
    subst k
    refine lv_iconst (v := 0) hx hb dX0_fitsPlain_272 (by decide) ?_
    exact r_iret X I rfl rfl rfl hn dX0_fitsPlain_273
  rcases s_ite hf with ⟨c58, hf⟩ | ⟨c58, hf⟩
  · refine lv_tableIn (tgt := 272) (off := 271) hx hb dX0_fitsPlain_1 (by rw [c58]; decide) (by rw [c58]; decide) (by rw [c58]; rfl) (by decide) ?_
    cases hf
    have k : _ = r := k
    subst k
    refine lv_iconst (v := 0) hx hb dX0_fitsPlain_272 (by decide) ?_
    exact r_iret X I rfl rfl rfl hn dX0_fitsPlain_273
  rcases s_ite hf with ⟨c59, hf⟩ | ⟨c59, hf⟩
  · refine lv_tableIn (tgt := 272) (off := 271) hx hb dX0_fitsPlain_1 (by rw [c59]; decide) (by rw [c59]; decide) (by rw [c59]; rfl) (by decide) ?_
    cases hf
    have k : _ = r := k
    subst k
    refine lv_iconst (v := 0) hx hb dX0_fitsPlain_272 (by decide) ?_
    exact r_iret X I rfl rfl rfl hn dX0_fitsPlain_273
  rcases s_ite hf with ⟨c60, hf⟩ | ⟨c60, hf⟩
  · refine lv_tableIn (tgt := 272) (off := 271) hx hb dX0_fitsPlain_1 (by rw [c60]; decide) (by rw [c60]; decide) (by rw [c60]; rfl) (by decide) ?_
    cases hf
    have k : _ = r := k
    subst k
    refine lv_iconst (v := 0) hx hb dX0_fitsPlain_272 (by decide) ?_
    exact r_iret X I rfl rfl rfl hn dX0_fitsPlain_273
  rcases s_ite hf with ⟨c61, hf⟩ | ⟨c61, hf⟩
  · refine lv_tableIn (tgt := 272) (off := 271) hx hb dX0_fitsPlain_1 (by rw [c61]; decide) (by rw [c61]; decide) (by rw [c61]; rfl) (by decide) ?_
    cases hf
    have k : _ = r := k
    subst k
    refine lv_iconst (v := 0) hx hb dX0_fitsPlain_272 (by decide) ?_
    exact r_iret X I rfl rfl rfl hn dX0_fitsPlain_273
  rcases s_ite hf with ⟨c62, hf⟩ | ⟨c62, hf⟩
  · refine lv_tableIn (tgt := 260) (off := 259) hx hb dX0_fitsPlain_1 (by rw [c62]; decide) (by rw [c62]; decide) (by rw [c62]; rfl) (by decide) ?_
    obtain ⟨x27, h63, hf⟩ := s_bind hf
    obtain ⟨q28, h64, hf⟩ := s_bind hf
    have le65 : s_le q28.2 (e_I r).2 := by
      refine s_lek hem_I ?_ k
      rcases s_ite hf with ⟨-, hf⟩ | ⟨-, hf⟩
      · cases hf
        exact s_le.rf
      · cases hf
    refine lv_aload_n hx hb dX0_fitsPlain_260 rfl (lv_at hl 0 rfl) ?_
    refine r_gr X I fl_X0_9 h63 dX0_fitsPlain_261 ?_
    refine lv_iload_n hx hb dX0_fitsPlain_264 rfl (lv_at hl 3 rfl) ?_
    refine lv_iconst (v := 1) hx hb dX0_fitsPlain_265 (by decide) ?_
    refine lv_iload_n hx hb dX0_fitsPlain_266 rfl (lv_at hl 2 rfl) ?_
    refine lv_iconst (v := (-1)) hx hb dX0_fitsPlain_267 (by decide) ?_
    refine r_callV (Y := M_X2_isMade) (v := some (.int q28.1)) X I w_580 my_X2_isMade (by omega) (t_X2_isMade (G := G) (d := d + 0) h64) (b_X2_isMade h64) rfl rfl hl.1 rfl (Nat.le_of_ble_eq_true rfl) hn le65 dX0_fitsPlain_268 (fun H locs cells slots I hn1 hn2 => ?_)
    have I : s_I G q28.2 s H locs := I
    have hn : cells + σ0.2.1 ≤ q28.2.2.1 ∧ slots + σ0.2.2.1 ≤ q28.2.2.2.1 := ⟨hn1, hn2⟩
    rcases s_ite hf with ⟨hchk, hf⟩ | ⟨-, hf⟩
    · cases hf
      have k : _ = r := k
      subst k
      exact r_iret X I rfl (s_nb hchk) rfl hn dX0_fitsPlain_271
    · cases hf
  refine lv_tableOut (tgt := 272) hx hb dX0_fitsPlain_1 (by
      have tc1 := lv_neT (a := 2) c1 (by decide)
      have tc5 := lv_neT (a := 3) c5 (by decide)
      have tc14 := lv_neT (a := 4) c14 (by decide)
      have tc23 := lv_neT (a := 5) c23 (by decide)
      have tc32 := lv_neT (a := 6) c32 (by decide)
      have tc41 := lv_neT (a := 7) c41 (by decide)
      have tc45 := lv_neT (a := 8) c45 (by decide)
      have tc57 := lv_neT (a := 9) c57 (by decide)
      have tc58 := lv_neT (a := 10) c58 (by decide)
      have tc59 := lv_neT (a := 11) c59 (by decide)
      have tc60 := lv_neT (a := 12) c60 (by decide)
      have tc61 := lv_neT (a := 13) c61 (by decide)
      have tc62 := lv_neT (a := 14) c62 (by decide)
      omega) (by decide) ?_
  cases hf
  have k : _ = r := k
  subst k
  refine lv_iconst (v := 0) hx hb dX0_fitsPlain_272 (by decide) ?_
  exact r_iret X I rfl rfl rfl hn dX0_fitsPlain_273
theorem v_X0_fitsPlain {G : sG} {d : Nat} {vs0 : List Value} {σ0 : sS} {x : sL} {z : sZ Int32} {r : Int32 × sS} (hs : S_X0_fitsPlain x = some z) (k : s_K G (d + 2) M_X0_fitsPlain vs0 σ0 Y_X0_fitsPlain e_I z r) : s_V G (d + 2) M_X0_fitsPlain vs0 σ0 Y_X0_fitsPlain x (e_I r) := by
  obtain ⟨pc, vs, σ⟩ := x
  unfold S_X0_fitsPlain at hs
  dsimp only at hs
  rcases s_ite hs with ⟨c, hs⟩ | ⟨-, hs⟩
  · subst c
    unfold U_X0_fitsPlain_0 at hs
    obtain ⟨a0, g0, hs⟩ := s_bind hs
    obtain ⟨a1, g1, hs⟩ := s_bind hs
    obtain ⟨a2, g2, hs⟩ := s_bind hs
    obtain ⟨a3, g3, hs⟩ := s_bind hs
    obtain ⟨a4, g4, hs⟩ := s_bind hs
    obtain ⟨u9, ge, hs⟩ := s_bind hs
    rw [g_r_to g0, g_i_to g1, g_i_to g2, g_i_to g3, g_i_to g4, g_e_to ge]
    exact v_X0_fitsPlain_0 hs k
  cases hs
theorem t_X0_fitsPlain {G : sG} {d : Nat} {v0 : Nat} {v1 : Int32} {v2 : Int32} {v3 : Int32} {v4 : Int32} {σ : sS} {q : Int32 × sS} (h : F_X0_fitsPlain v0 v1 v2 v3 v4 σ = some q) : s_T G (d + 2) M_X0_fitsPlain [.ref v0, .int v1, .int v2, .int v3, .int v4] σ (e_I q) := by
  unfold F_X0_fitsPlain at h
  obtain ⟨-, -, h⟩ := s_bind h
  exact s_ofV rfl (by decide) (Nat.le_of_ble_eq_true rfl) rfl rfl (s_run_ind (V := fun x r => s_V G (d + 2) M_X0_fitsPlain [.ref v0, .int v1, .int v2, .int v3, .int v4] σ Y_X0_fitsPlain x (e_I r)) (fun x z r hs hk => v_X0_fitsPlain hs (by cases z <;> exact hk)) h)
/-! X0_fits -/
noncomputable def T_X0_fits_0 (v0 : Nat) (v1 : Int32) (v2 : Int32) (σ : sS) : Option (sZ Int32) :=
  (s_fr σ v0 0 5).bind fun x1 =>
  (F_X1_nodeOfLine x1 v1 σ).bind fun q2 =>
  (s_fr q2.2 v0 0 5).bind fun x3 =>
  (F_X1_premiseOf x3 v1 0 q2.2).bind fun q4 =>
  (s_fr q4.2 v0 0 5).bind fun x5 =>
  (F_X1_nodeOfLine x5 q4.1 q4.2).bind fun q6 =>
  (s_fr q6.2 v0 0 5).bind fun x7 =>
  (s_fr q6.2 v0 0 5).bind fun x8 =>
  (F_X1_premiseOf x8 v1 1 q6.2).bind fun q9 =>
  (F_X1_nodeOfLine x7 q9.1 q9.2).bind fun q10 =>
  if v2 = 0 then ((s_fr q10.2 v0 0 5).bind fun x11 =>
  (s_fr q10.2 v0 0 5).bind fun x12 =>
  (s_fr q10.2 v0 0 5).bind fun x13 =>
  (F_X1_ofLine x13 v1 3 q10.2).bind fun q14 =>
  (F_X1_toldTo x12 q14.1 q14.2).bind fun q15 =>
  (F_X1_isAmong x11 q15.1 q2.1 q15.2).bind fun q16 =>
  if (q16.1 = 0 ∨ q16.1 = 1) then (some (.inr (q16.1, q16.2))) else none)
  else if v2 = 1 then (some (.inr (1, q10.2)))
  else if v2 = 2 then (some (.inl (336, [.ref v0, .int v2, .int q2.1, .int q6.1, .int q10.1], q10.2)))
  else if v2 = 3 then (some (.inl (336, [.ref v0, .int v2, .int q2.1, .int q6.1, .int q10.1], q10.2)))
  else if v2 = 4 then (some (.inl (336, [.ref v0, .int v2, .int q2.1, .int q6.1, .int q10.1], q10.2)))
  else if v2 = 5 then (some (.inl (336, [.ref v0, .int v2, .int q2.1, .int q6.1, .int q10.1], q10.2)))
  else if v2 = 6 then (some (.inl (336, [.ref v0, .int v2, .int q2.1, .int q6.1, .int q10.1], q10.2)))
  else if v2 = 7 then (some (.inl (336, [.ref v0, .int v2, .int q2.1, .int q6.1, .int q10.1], q10.2)))
  else if v2 = 8 then (some (.inl (336, [.ref v0, .int v2, .int q2.1, .int q6.1, .int q10.1], q10.2)))
  else if v2 = 9 then ((s_fr q10.2 v0 0 5).bind fun x17 =>
  (s_fr q10.2 v0 0 5).bind fun x18 =>
  (F_X1_premiseOf x18 v1 2 q10.2).bind fun q19 =>
  (F_X1_nodeOfLine x17 q19.1 q19.2).bind fun q20 =>
  (F_X0_fitsCases v0 q6.1 q10.1 q20.1 q2.1 q20.2).bind fun q21 =>
  if (q21.1 = 0 ∨ q21.1 = 1) then (some (.inr (q21.1, q21.2))) else none)
  else if v2 = 10 then ((s_fr q10.2 v0 0 5).bind fun x22 =>
  (F_X1_ofLine x22 q4.1 2 q10.2).bind fun q23 =>
  if q23.1 = 1 then ((s_fr q23.2 v0 0 4).bind fun x24 =>
  (F_X2_isMade x24 q2.1 4 q6.1 q10.1 q23.2).bind fun q25 =>
  if q25.1 = 0 then (some (.inr (0, q25.2)))
  else (some (.inr (1, q25.2))))
  else (some (.inr (0, q23.2))))
  else if v2 = 11 then ((s_fr q10.2 v0 0 4).bind fun x26 =>
  (F_X2_kindOf x26 q6.1 q10.2).bind fun q27 =>
  if q27.1 = 5 then ((F_X0_isPlaced v0 q6.1 q2.1 q27.2).bind fun q28 =>
  if q28.1 = 0 then (some (.inr (0, q28.2)))
  else (some (.inr (1, q28.2))))
  else (some (.inr (0, q27.2))))
  else if v2 = 12 then ((s_fr q10.2 v0 0 4).bind fun x29 =>
  (F_X2_kindOf x29 q2.1 q10.2).bind fun q30 =>
  if q30.1 = 5 then ((F_X0_areEach v0 v1 q2.1 q30.2).bind fun q31 =>
  if q31.1 = 0 then (some (.inr (0, q31.2)))
  else (some (.inr (1, q31.2))))
  else (some (.inr (0, q30.2))))
  else if v2 = 13 then ((s_fr q10.2 v0 0 4).bind fun x32 =>
  (F_X2_kindOf x32 q2.1 q10.2).bind fun q33 =>
  if q33.1 = 6 then ((F_X0_isPlaced v0 q2.1 q6.1 q33.2).bind fun q34 =>
  if q34.1 = 0 then (some (.inr (0, q34.2)))
  else (some (.inr (1, q34.2))))
  else (some (.inr (0, q33.2))))
  else if v2 = 14 then (some (.inl (336, [.ref v0, .int v2, .int q2.1, .int q6.1, .int q10.1], q10.2)))
  else if v2 = 15 then (if q6.1 = q2.1 then ((s_fr q10.2 v0 0 5).bind fun x35 =>
  (F_X1_ofLine x35 q4.1 0 q10.2).bind fun q36 =>
  (s_fr q36.2 v0 0 5).bind fun x37 =>
  (F_X1_ofLine x37 v1 0 q36.2).bind fun q38 =>
  if q36.1 = q38.1 then (some (.inr (0, q38.2)))
  else (some (.inr (1, q38.2))))
  else (some (.inr (0, q10.2))))
  else (some (.inl (336, [.ref v0, .int v2, .int q2.1, .int q6.1, .int q10.1], q10.2)))
noncomputable def U_X0_fits_0 (vs : List Value) (σ : sS) : Option (sZ Int32) := (g_r vs).bind fun a0 => (g_i a0.2).bind fun a1 => (g_i a1.2).bind fun a2 => (g_e a2.2).bind fun _ => T_X0_fits_0 a0.1 a1.1 a2.1 σ
noncomputable def T_X0_fits_336 (v0 : Nat) (v2 : Int32) (v3 : Int32) (v5 : Int32) (v6 : Int32) (σ : sS) : Option (sZ Int32) :=
  (F_X0_fitsPlain v0 v2 v5 v6 v3 σ).bind fun q1 =>
  if (q1.1 = 0 ∨ q1.1 = 1) then (some (.inr (q1.1, q1.2))) else none
noncomputable def U_X0_fits_336 (vs : List Value) (σ : sS) : Option (sZ Int32) := (g_r vs).bind fun a0 => (g_i a0.2).bind fun a1 => (g_i a1.2).bind fun a2 => (g_i a2.2).bind fun a3 => (g_i a3.2).bind fun a4 => (g_e a4.2).bind fun _ => T_X0_fits_336 a0.1 a1.1 a2.1 a3.1 a4.1 σ
noncomputable def S_X0_fits (x : sL) : Option (sZ Int32) := if x.1 = 0 then U_X0_fits_0 x.2.1 x.2.2 else if x.1 = 336 then U_X0_fits_336 x.2.1 x.2.2 else none
def Y_X0_fits (pc : Nat) : List Nat := if pc = 0 then [0, 1, 2] else if pc = 336 then [0, 2, 3, 5, 6] else []
noncomputable def F_X0_fits (v0 : Nat) (v1 : Int32) (v2 : Int32) (σ : sS) : Option (Int32 × sS) := (s_is σ v0 0).bind fun _ => s_run S_X0_fits (0, [.ref v0, .int v1, .int v2], σ)
theorem l_X0_fits_0 {v0 : Nat} {v1 : Int32} {v2 : Int32} {σ : sS} {z : sZ Int32} (hf : T_X0_fits_0 v0 v1 v2 σ = some z) : s_lz σ z := by
  unfold T_X0_fits_0 at hf
  obtain ⟨x1, -, hf⟩ := s_bind hf
  obtain ⟨q2, hh, hf⟩ := s_bind hf
  refine s_lz.tr (l_X1_nodeOfLine hh) ?_
  obtain ⟨x3, -, hf⟩ := s_bind hf
  obtain ⟨q4, hh, hf⟩ := s_bind hf
  refine s_lz.tr (l_X1_premiseOf hh) ?_
  obtain ⟨x5, -, hf⟩ := s_bind hf
  obtain ⟨q6, hh, hf⟩ := s_bind hf
  refine s_lz.tr (l_X1_nodeOfLine hh) ?_
  obtain ⟨x7, -, hf⟩ := s_bind hf
  obtain ⟨x8, -, hf⟩ := s_bind hf
  obtain ⟨q9, hh, hf⟩ := s_bind hf
  refine s_lz.tr (l_X1_premiseOf hh) ?_
  obtain ⟨q10, hh, hf⟩ := s_bind hf
  refine s_lz.tr (l_X1_nodeOfLine hh) ?_
  rcases s_ite hf with ⟨-, hf⟩ | ⟨-, hf⟩
  · obtain ⟨x11, -, hf⟩ := s_bind hf
    obtain ⟨x12, -, hf⟩ := s_bind hf
    obtain ⟨x13, -, hf⟩ := s_bind hf
    obtain ⟨q14, hh, hf⟩ := s_bind hf
    refine s_lz.tr (l_X1_ofLine hh) ?_
    obtain ⟨q15, hh, hf⟩ := s_bind hf
    refine s_lz.tr (l_X1_toldTo hh) ?_
    obtain ⟨q16, hh, hf⟩ := s_bind hf
    refine s_lz.tr (l_X1_isAmong hh) ?_
    rcases s_ite hf with ⟨-, hf⟩ | ⟨-, hf⟩
    · cases hf
      exact s_le.rf
    · cases hf
  rcases s_ite hf with ⟨-, hf⟩ | ⟨-, hf⟩
  · cases hf
    exact s_le.rf
  rcases s_ite hf with ⟨-, hf⟩ | ⟨-, hf⟩
  · cases hf
    exact s_le.rf
  rcases s_ite hf with ⟨-, hf⟩ | ⟨-, hf⟩
  · cases hf
    exact s_le.rf
  rcases s_ite hf with ⟨-, hf⟩ | ⟨-, hf⟩
  · cases hf
    exact s_le.rf
  rcases s_ite hf with ⟨-, hf⟩ | ⟨-, hf⟩
  · cases hf
    exact s_le.rf
  rcases s_ite hf with ⟨-, hf⟩ | ⟨-, hf⟩
  · cases hf
    exact s_le.rf
  rcases s_ite hf with ⟨-, hf⟩ | ⟨-, hf⟩
  · cases hf
    exact s_le.rf
  rcases s_ite hf with ⟨-, hf⟩ | ⟨-, hf⟩
  · cases hf
    exact s_le.rf
  rcases s_ite hf with ⟨-, hf⟩ | ⟨-, hf⟩
  · obtain ⟨x17, -, hf⟩ := s_bind hf
    obtain ⟨x18, -, hf⟩ := s_bind hf
    obtain ⟨q19, hh, hf⟩ := s_bind hf
    refine s_lz.tr (l_X1_premiseOf hh) ?_
    obtain ⟨q20, hh, hf⟩ := s_bind hf
    refine s_lz.tr (l_X1_nodeOfLine hh) ?_
    obtain ⟨q21, hh, hf⟩ := s_bind hf
    refine s_lz.tr (l_X0_fitsCases hh) ?_
    rcases s_ite hf with ⟨-, hf⟩ | ⟨-, hf⟩
    · cases hf
      exact s_le.rf
    · cases hf
  rcases s_ite hf with ⟨-, hf⟩ | ⟨-, hf⟩
  · obtain ⟨x22, -, hf⟩ := s_bind hf
    obtain ⟨q23, hh, hf⟩ := s_bind hf
    refine s_lz.tr (l_X1_ofLine hh) ?_
    rcases s_ite hf with ⟨-, hf⟩ | ⟨-, hf⟩
    · obtain ⟨x24, -, hf⟩ := s_bind hf
      obtain ⟨q25, hh, hf⟩ := s_bind hf
      refine s_lz.tr (l_X2_isMade hh) ?_
      rcases s_ite hf with ⟨-, hf⟩ | ⟨-, hf⟩
      · cases hf
        exact s_le.rf
      · cases hf
        exact s_le.rf
    · cases hf
      exact s_le.rf
  rcases s_ite hf with ⟨-, hf⟩ | ⟨-, hf⟩
  · obtain ⟨x26, -, hf⟩ := s_bind hf
    obtain ⟨q27, hh, hf⟩ := s_bind hf
    refine s_lz.tr (l_X2_kindOf hh) ?_
    rcases s_ite hf with ⟨-, hf⟩ | ⟨-, hf⟩
    · obtain ⟨q28, hh, hf⟩ := s_bind hf
      refine s_lz.tr (l_X0_isPlaced hh) ?_
      rcases s_ite hf with ⟨-, hf⟩ | ⟨-, hf⟩
      · cases hf
        exact s_le.rf
      · cases hf
        exact s_le.rf
    · cases hf
      exact s_le.rf
  rcases s_ite hf with ⟨-, hf⟩ | ⟨-, hf⟩
  · obtain ⟨x29, -, hf⟩ := s_bind hf
    obtain ⟨q30, hh, hf⟩ := s_bind hf
    refine s_lz.tr (l_X2_kindOf hh) ?_
    rcases s_ite hf with ⟨-, hf⟩ | ⟨-, hf⟩
    · obtain ⟨q31, hh, hf⟩ := s_bind hf
      refine s_lz.tr (l_X0_areEach hh) ?_
      rcases s_ite hf with ⟨-, hf⟩ | ⟨-, hf⟩
      · cases hf
        exact s_le.rf
      · cases hf
        exact s_le.rf
    · cases hf
      exact s_le.rf
  rcases s_ite hf with ⟨-, hf⟩ | ⟨-, hf⟩
  · obtain ⟨x32, -, hf⟩ := s_bind hf
    obtain ⟨q33, hh, hf⟩ := s_bind hf
    refine s_lz.tr (l_X2_kindOf hh) ?_
    rcases s_ite hf with ⟨-, hf⟩ | ⟨-, hf⟩
    · obtain ⟨q34, hh, hf⟩ := s_bind hf
      refine s_lz.tr (l_X0_isPlaced hh) ?_
      rcases s_ite hf with ⟨-, hf⟩ | ⟨-, hf⟩
      · cases hf
        exact s_le.rf
      · cases hf
        exact s_le.rf
    · cases hf
      exact s_le.rf
  rcases s_ite hf with ⟨-, hf⟩ | ⟨-, hf⟩
  · cases hf
    exact s_le.rf
  rcases s_ite hf with ⟨-, hf⟩ | ⟨-, hf⟩
  · rcases s_ite hf with ⟨-, hf⟩ | ⟨-, hf⟩
    · obtain ⟨x35, -, hf⟩ := s_bind hf
      obtain ⟨q36, hh, hf⟩ := s_bind hf
      refine s_lz.tr (l_X1_ofLine hh) ?_
      obtain ⟨x37, -, hf⟩ := s_bind hf
      obtain ⟨q38, hh, hf⟩ := s_bind hf
      refine s_lz.tr (l_X1_ofLine hh) ?_
      rcases s_ite hf with ⟨-, hf⟩ | ⟨-, hf⟩
      · cases hf
        exact s_le.rf
      · cases hf
        exact s_le.rf
    · cases hf
      exact s_le.rf
  cases hf
  exact s_le.rf
theorem l_X0_fits_336 {v0 : Nat} {v2 : Int32} {v3 : Int32} {v5 : Int32} {v6 : Int32} {σ : sS} {z : sZ Int32} (hf : T_X0_fits_336 v0 v2 v3 v5 v6 σ = some z) : s_lz σ z := by
  unfold T_X0_fits_336 at hf
  obtain ⟨q1, hh, hf⟩ := s_bind hf
  refine s_lz.tr (l_X0_fitsPlain hh) ?_
  rcases s_ite hf with ⟨-, hf⟩ | ⟨-, hf⟩
  · cases hf
    exact s_le.rf
  · cases hf
theorem l_X0_fits_s {x : sL} {z : sZ Int32} (hs : S_X0_fits x = some z) : s_lz x.2.2 z := by
  obtain ⟨pc, vs, σ⟩ := x
  unfold S_X0_fits at hs
  dsimp only at hs ⊢
  rcases s_ite hs with ⟨c, hs⟩ | ⟨-, hs⟩
  · subst c
    unfold U_X0_fits_0 at hs
    obtain ⟨a0, g0, hs⟩ := s_bind hs
    obtain ⟨a1, g1, hs⟩ := s_bind hs
    obtain ⟨a2, g2, hs⟩ := s_bind hs
    obtain ⟨u9, ge, hs⟩ := s_bind hs
    exact l_X0_fits_0 hs
  rcases s_ite hs with ⟨c, hs⟩ | ⟨-, hs⟩
  · subst c
    unfold U_X0_fits_336 at hs
    obtain ⟨a0, g0, hs⟩ := s_bind hs
    obtain ⟨a1, g1, hs⟩ := s_bind hs
    obtain ⟨a2, g2, hs⟩ := s_bind hs
    obtain ⟨a3, g3, hs⟩ := s_bind hs
    obtain ⟨a4, g4, hs⟩ := s_bind hs
    obtain ⟨u9, ge, hs⟩ := s_bind hs
    exact l_X0_fits_336 hs
  cases hs
theorem l_X0_fits {v0 : Nat} {v1 : Int32} {v2 : Int32} {σ : sS} {q : Int32 × sS} (h : F_X0_fits v0 v1 v2 σ = some q) : s_le σ q.2 := by
  unfold F_X0_fits at h
  obtain ⟨-, -, h⟩ := s_bind h
  exact s_run_ind (V := fun x r => s_le x.2.2 r.2) (fun x z r hs hk => by
    have h9 := l_X0_fits_s hs
    cases z with
    | inl y => exact s_le.tr h9 hk
    | inr q => cases hk; exact h9) h
theorem b_X0_fits {v0 : Nat} {v1 : Int32} {v2 : Int32} {σ : sS} {q : Int32 × sS} (h : F_X0_fits v0 v1 v2 σ = some q) : ∃ fs, σ.1 v0 = some (.inr (0, fs)) := by
  unfold F_X0_fits at h
  obtain ⟨u, hu, -⟩ := s_bind h
  exact s_is_to hu
set_option maxRecDepth 100000 in
set_option maxHeartbeats 4000000 in
theorem v_X0_fits_0 {G : sG} {d : Nat} {vs0 : List Value} {σ0 : sS} {v0 : Nat} {v1 : Int32} {v2 : Int32} {σ : sS} {z : sZ Int32} {r : Int32 × sS} (hf : T_X0_fits_0 v0 v1 v2 σ = some z) (k : s_K G (d + 4) M_X0_fits vs0 σ0 Y_X0_fits e_I z r) : s_V G (d + 4) M_X0_fits vs0 σ0 Y_X0_fits (0, [.ref v0, .int v1, .int v2], σ) (e_I r) := by
  have le0 : s_le σ (e_I r).2 := s_lek hem_I (l_X0_fits_0 hf) k
  refine ⟨le0, ?_⟩
  intro p e s m below meth c H locs cells slots ls X I hn1 hn2 hl
  have hn : cells + σ0.2.1 ≤ σ.2.1 ∧ slots + σ0.2.2.1 ≤ σ.2.2.1 := ⟨hn1, hn2⟩
  have hl : lv_has ls 7 [(0, .ref v0), (1, .int v1), (2, .int v2)] := hl
  have hx := X.1
  have hb : c.code = cX0_fits := X.2.1
  have hown : s.vm.findClass RX0 = some m.cls := X.2.2.2.2.2.1
  have hts := X.2.2.2.2.2.2.1
  refine W.eq (g2 := F0 m 0 ls []) rfl ?_
  unfold T_X0_fits_0 at hf
  obtain ⟨x1, h1, hf⟩ := s_bind hf
  obtain ⟨q2, h2, hf⟩ := s_bind hf
  obtain ⟨x3, h3, hf⟩ := s_bind hf
  obtain ⟨q4, h4, hf⟩ := s_bind hf
  obtain ⟨x5, h5, hf⟩ := s_bind hf
  obtain ⟨q6, h6, hf⟩ := s_bind hf
  obtain ⟨x7, h7, hf⟩ := s_bind hf
  obtain ⟨x8, h8, hf⟩ := s_bind hf
  obtain ⟨q9, h9, hf⟩ := s_bind hf
  obtain ⟨q10, h10, hf⟩ := s_bind hf
  have le11 : s_le q10.2 (e_I r).2 := by
    refine s_lek hem_I ?_ k
    rcases s_ite hf with ⟨-, hf⟩ | ⟨-, hf⟩
    · obtain ⟨x11, -, hf⟩ := s_bind hf
      obtain ⟨x12, -, hf⟩ := s_bind hf
      obtain ⟨x13, -, hf⟩ := s_bind hf
      obtain ⟨q14, hh, hf⟩ := s_bind hf
      refine s_lz.tr (l_X1_ofLine hh) ?_
      obtain ⟨q15, hh, hf⟩ := s_bind hf
      refine s_lz.tr (l_X1_toldTo hh) ?_
      obtain ⟨q16, hh, hf⟩ := s_bind hf
      refine s_lz.tr (l_X1_isAmong hh) ?_
      rcases s_ite hf with ⟨-, hf⟩ | ⟨-, hf⟩
      · cases hf
        exact s_le.rf
      · cases hf
    rcases s_ite hf with ⟨-, hf⟩ | ⟨-, hf⟩
    · cases hf
      exact s_le.rf
    rcases s_ite hf with ⟨-, hf⟩ | ⟨-, hf⟩
    · cases hf
      exact s_le.rf
    rcases s_ite hf with ⟨-, hf⟩ | ⟨-, hf⟩
    · cases hf
      exact s_le.rf
    rcases s_ite hf with ⟨-, hf⟩ | ⟨-, hf⟩
    · cases hf
      exact s_le.rf
    rcases s_ite hf with ⟨-, hf⟩ | ⟨-, hf⟩
    · cases hf
      exact s_le.rf
    rcases s_ite hf with ⟨-, hf⟩ | ⟨-, hf⟩
    · cases hf
      exact s_le.rf
    rcases s_ite hf with ⟨-, hf⟩ | ⟨-, hf⟩
    · cases hf
      exact s_le.rf
    rcases s_ite hf with ⟨-, hf⟩ | ⟨-, hf⟩
    · cases hf
      exact s_le.rf
    rcases s_ite hf with ⟨-, hf⟩ | ⟨-, hf⟩
    · obtain ⟨x17, -, hf⟩ := s_bind hf
      obtain ⟨x18, -, hf⟩ := s_bind hf
      obtain ⟨q19, hh, hf⟩ := s_bind hf
      refine s_lz.tr (l_X1_premiseOf hh) ?_
      obtain ⟨q20, hh, hf⟩ := s_bind hf
      refine s_lz.tr (l_X1_nodeOfLine hh) ?_
      obtain ⟨q21, hh, hf⟩ := s_bind hf
      refine s_lz.tr (l_X0_fitsCases hh) ?_
      rcases s_ite hf with ⟨-, hf⟩ | ⟨-, hf⟩
      · cases hf
        exact s_le.rf
      · cases hf
    rcases s_ite hf with ⟨-, hf⟩ | ⟨-, hf⟩
    · obtain ⟨x22, -, hf⟩ := s_bind hf
      obtain ⟨q23, hh, hf⟩ := s_bind hf
      refine s_lz.tr (l_X1_ofLine hh) ?_
      rcases s_ite hf with ⟨-, hf⟩ | ⟨-, hf⟩
      · obtain ⟨x24, -, hf⟩ := s_bind hf
        obtain ⟨q25, hh, hf⟩ := s_bind hf
        refine s_lz.tr (l_X2_isMade hh) ?_
        rcases s_ite hf with ⟨-, hf⟩ | ⟨-, hf⟩
        · cases hf
          exact s_le.rf
        · cases hf
          exact s_le.rf
      · cases hf
        exact s_le.rf
    rcases s_ite hf with ⟨-, hf⟩ | ⟨-, hf⟩
    · obtain ⟨x26, -, hf⟩ := s_bind hf
      obtain ⟨q27, hh, hf⟩ := s_bind hf
      refine s_lz.tr (l_X2_kindOf hh) ?_
      rcases s_ite hf with ⟨-, hf⟩ | ⟨-, hf⟩
      · obtain ⟨q28, hh, hf⟩ := s_bind hf
        refine s_lz.tr (l_X0_isPlaced hh) ?_
        rcases s_ite hf with ⟨-, hf⟩ | ⟨-, hf⟩
        · cases hf
          exact s_le.rf
        · cases hf
          exact s_le.rf
      · cases hf
        exact s_le.rf
    rcases s_ite hf with ⟨-, hf⟩ | ⟨-, hf⟩
    · obtain ⟨x29, -, hf⟩ := s_bind hf
      obtain ⟨q30, hh, hf⟩ := s_bind hf
      refine s_lz.tr (l_X2_kindOf hh) ?_
      rcases s_ite hf with ⟨-, hf⟩ | ⟨-, hf⟩
      · obtain ⟨q31, hh, hf⟩ := s_bind hf
        refine s_lz.tr (l_X0_areEach hh) ?_
        rcases s_ite hf with ⟨-, hf⟩ | ⟨-, hf⟩
        · cases hf
          exact s_le.rf
        · cases hf
          exact s_le.rf
      · cases hf
        exact s_le.rf
    rcases s_ite hf with ⟨-, hf⟩ | ⟨-, hf⟩
    · obtain ⟨x32, -, hf⟩ := s_bind hf
      obtain ⟨q33, hh, hf⟩ := s_bind hf
      refine s_lz.tr (l_X2_kindOf hh) ?_
      rcases s_ite hf with ⟨-, hf⟩ | ⟨-, hf⟩
      · obtain ⟨q34, hh, hf⟩ := s_bind hf
        refine s_lz.tr (l_X0_isPlaced hh) ?_
        rcases s_ite hf with ⟨-, hf⟩ | ⟨-, hf⟩
        · cases hf
          exact s_le.rf
        · cases hf
          exact s_le.rf
      · cases hf
        exact s_le.rf
    rcases s_ite hf with ⟨-, hf⟩ | ⟨-, hf⟩
    · cases hf
      exact s_le.rf
    rcases s_ite hf with ⟨-, hf⟩ | ⟨-, hf⟩
    · rcases s_ite hf with ⟨-, hf⟩ | ⟨-, hf⟩
      · obtain ⟨x35, -, hf⟩ := s_bind hf
        obtain ⟨q36, hh, hf⟩ := s_bind hf
        refine s_lz.tr (l_X1_ofLine hh) ?_
        obtain ⟨x37, -, hf⟩ := s_bind hf
        obtain ⟨q38, hh, hf⟩ := s_bind hf
        refine s_lz.tr (l_X1_ofLine hh) ?_
        rcases s_ite hf with ⟨-, hf⟩ | ⟨-, hf⟩
        · cases hf
          exact s_le.rf
        · cases hf
          exact s_le.rf
      · cases hf
        exact s_le.rf
    cases hf
    exact s_le.rf
  have le12 := s_le.tr (l_X1_nodeOfLine h10) le11
  have le13 := s_le.tr (l_X1_premiseOf h9) le12
  have le14 := s_le.tr (l_X1_nodeOfLine h6) le13
  have le15 := s_le.tr (l_X1_premiseOf h4) le14
  refine lv_aload_n hx hb dX0_fits_0 rfl (lv_at hl 0 rfl) ?_
  refine r_gr X I fl_X0_15 h1 dX0_fits_1 ?_
  refine lv_iload_n hx hb dX0_fits_4 rfl (lv_at hl 1 rfl) ?_
  refine r_callV (Y := M_X1_nodeOfLine) (v := some (.int q2.1)) X I w_525 my_X1_nodeOfLine (by omega) (t_X1_nodeOfLine (G := G) (d := d + 1) h2) (b_X1_nodeOfLine h2) rfl rfl hl.1 rfl (Nat.le_of_ble_eq_true rfl) hn le15 dX0_fits_5 (fun H locs cells slots I hn1 hn2 => ?_)
  have I : s_I G q2.2 s H locs := I
  have hn : cells + σ0.2.1 ≤ q2.2.2.1 ∧ slots + σ0.2.2.1 ≤ q2.2.2.2.1 := ⟨hn1, hn2⟩
  refine lv_istore_n (lv' := [(3, .int q2.1), (0, .ref v0), (1, .int v1), (2, .int v2)]) hx hb dX0_fits_8 rfl hl (by decide) rfl (fun ls hl => ?_)
  refine lv_aload_n hx hb dX0_fits_9 rfl (lv_at hl 1 rfl) ?_
  refine r_gr X I fl_X0_15 h3 dX0_fits_10 ?_
  refine lv_iload_n hx hb dX0_fits_13 rfl (lv_at hl 2 rfl) ?_
  refine lv_iconst (v := 0) hx hb dX0_fits_14 (by decide) ?_
  refine r_callV (Y := M_X1_premiseOf) (v := some (.int q4.1)) X I w_554 my_X1_premiseOf (by omega) (t_X1_premiseOf (G := G) (d := d + 1) h4) (b_X1_premiseOf h4) rfl rfl hl.1 rfl (Nat.le_of_ble_eq_true rfl) hn le14 dX0_fits_15 (fun H locs cells slots I hn1 hn2 => ?_)
  have I : s_I G q4.2 s H locs := I
  have hn : cells + σ0.2.1 ≤ q4.2.2.1 ∧ slots + σ0.2.2.1 ≤ q4.2.2.2.1 := ⟨hn1, hn2⟩
  refine lv_istore (lv' := [(4, .int q4.1), (3, .int q2.1), (0, .ref v0), (1, .int v1), (2, .int v2)]) hx hb dX0_fits_18 hl (by decide) rfl (fun ls hl => ?_)
  refine lv_aload_n hx hb dX0_fits_20 rfl (lv_at hl 2 rfl) ?_
  refine r_gr X I fl_X0_15 h5 dX0_fits_21 ?_
  refine lv_iload hx hb dX0_fits_24 (lv_at hl 0 rfl) ?_
  refine r_callV (Y := M_X1_nodeOfLine) (v := some (.int q6.1)) X I w_525 my_X1_nodeOfLine (by omega) (t_X1_nodeOfLine (G := G) (d := d + 1) h6) (b_X1_nodeOfLine h6) rfl rfl hl.1 rfl (Nat.le_of_ble_eq_true rfl) hn le13 dX0_fits_26 (fun H locs cells slots I hn1 hn2 => ?_)
  have I : s_I G q6.2 s H locs := I
  have hn : cells + σ0.2.1 ≤ q6.2.2.1 ∧ slots + σ0.2.2.1 ≤ q6.2.2.2.1 := ⟨hn1, hn2⟩
  refine lv_istore (lv' := [(5, .int q6.1), (4, .int q4.1), (3, .int q2.1), (0, .ref v0), (1, .int v1), (2, .int v2)]) hx hb dX0_fits_29 hl (by decide) rfl (fun ls hl => ?_)
  refine lv_aload_n hx hb dX0_fits_31 rfl (lv_at hl 3 rfl) ?_
  refine r_gr X I fl_X0_15 h7 dX0_fits_32 ?_
  refine lv_aload_n hx hb dX0_fits_35 rfl (lv_at hl 3 rfl) ?_
  refine r_gr X I fl_X0_15 h8 dX0_fits_36 ?_
  refine lv_iload_n hx hb dX0_fits_39 rfl (lv_at hl 4 rfl) ?_
  refine lv_iconst (v := 1) hx hb dX0_fits_40 (by decide) ?_
  refine r_callV (Y := M_X1_premiseOf) (v := some (.int q9.1)) X I w_554 my_X1_premiseOf (by omega) (t_X1_premiseOf (G := G) (d := d + 1) h9) (b_X1_premiseOf h9) rfl rfl hl.1 rfl (Nat.le_of_ble_eq_true rfl) hn le12 dX0_fits_41 (fun H locs cells slots I hn1 hn2 => ?_)
  have I : s_I G q9.2 s H locs := I
  have hn : cells + σ0.2.1 ≤ q9.2.2.1 ∧ slots + σ0.2.2.1 ≤ q9.2.2.2.1 := ⟨hn1, hn2⟩
  refine r_callV (Y := M_X1_nodeOfLine) (v := some (.int q10.1)) X I w_525 my_X1_nodeOfLine (by omega) (t_X1_nodeOfLine (G := G) (d := d + 1) h10) (b_X1_nodeOfLine h10) rfl rfl hl.1 rfl (Nat.le_of_ble_eq_true rfl) hn le11 dX0_fits_44 (fun H locs cells slots I hn1 hn2 => ?_)
  have I : s_I G q10.2 s H locs := I
  have hn : cells + σ0.2.1 ≤ q10.2.2.1 ∧ slots + σ0.2.2.1 ≤ q10.2.2.2.1 := ⟨hn1, hn2⟩
  refine lv_istore (lv' := [(6, .int q10.1), (5, .int q6.1), (4, .int q4.1), (3, .int q2.1), (0, .ref v0), (1, .int v1), (2, .int v2)]) hx hb dX0_fits_47 hl (by decide) rfl (fun ls hl => ?_)
  refine lv_iload_n hx hb dX0_fits_49 rfl (lv_at hl 6 rfl) ?_
  rcases s_ite hf with ⟨c16, hf⟩ | ⟨c16, hf⟩
  · refine lv_tableIn (tgt := 128) (off := 78) hx hb dX0_fits_50 (by rw [c16]; decide) (by rw [c16]; decide) (by rw [c16]; rfl) (by decide) ?_
    obtain ⟨x11, h17, hf⟩ := s_bind hf
    obtain ⟨x12, h18, hf⟩ := s_bind hf
    obtain ⟨x13, h19, hf⟩ := s_bind hf
    obtain ⟨q14, h20, hf⟩ := s_bind hf
    obtain ⟨q15, h21, hf⟩ := s_bind hf
    obtain ⟨q16, h22, hf⟩ := s_bind hf
    have le23 : s_le q16.2 (e_I r).2 := by
      refine s_lek hem_I ?_ k
      rcases s_ite hf with ⟨-, hf⟩ | ⟨-, hf⟩
      · cases hf
        exact s_le.rf
      · cases hf
    have le24 := s_le.tr (l_X1_isAmong h22) le23
    have le25 := s_le.tr (l_X1_toldTo h21) le24
    refine lv_aload_n hx hb dX0_fits_128 rfl (lv_at hl 4 rfl) ?_
    refine r_gr X I fl_X0_15 h17 dX0_fits_129 ?_
    refine lv_aload_n hx hb dX0_fits_132 rfl (lv_at hl 4 rfl) ?_
    refine r_gr X I fl_X0_15 h18 dX0_fits_133 ?_
    refine lv_aload_n hx hb dX0_fits_136 rfl (lv_at hl 4 rfl) ?_
    refine r_gr X I fl_X0_15 h19 dX0_fits_137 ?_
    refine lv_iload_n hx hb dX0_fits_140 rfl (lv_at hl 5 rfl) ?_
    refine lv_iconst (v := 3) hx hb dX0_fits_141 (by decide) ?_
    refine r_callV (Y := M_X1_ofLine) (v := some (.int q14.1)) X I w_517 my_X1_ofLine (by omega) (t_X1_ofLine (G := G) (d := d + 2) h20) (b_X1_ofLine h20) rfl rfl hl.1 rfl (Nat.le_of_ble_eq_true rfl) hn le25 dX0_fits_142 (fun H locs cells slots I hn1 hn2 => ?_)
    have I : s_I G q14.2 s H locs := I
    have hn : cells + σ0.2.1 ≤ q14.2.2.1 ∧ slots + σ0.2.2.1 ≤ q14.2.2.2.1 := ⟨hn1, hn2⟩
    refine r_callV (Y := M_X1_toldTo) (v := some (.int q15.1)) X I w_521 my_X1_toldTo (by omega) (t_X1_toldTo (G := G) (d := d + 2) h21) (b_X1_toldTo h21) rfl rfl hl.1 rfl (Nat.le_of_ble_eq_true rfl) hn le24 dX0_fits_145 (fun H locs cells slots I hn1 hn2 => ?_)
    have I : s_I G q15.2 s H locs := I
    have hn : cells + σ0.2.1 ≤ q15.2.2.1 ∧ slots + σ0.2.2.1 ≤ q15.2.2.2.1 := ⟨hn1, hn2⟩
    refine lv_iload_n hx hb dX0_fits_148 rfl (lv_at hl 3 rfl) ?_
    refine r_callV (Y := M_X1_isAmong) (v := some (.int q16.1)) X I w_534 my_X1_isAmong (by omega) (t_X1_isAmong (G := G) (d := d + 2) h22) (b_X1_isAmong h22) rfl rfl hl.1 rfl (Nat.le_of_ble_eq_true rfl) hn le23 dX0_fits_149 (fun H locs cells slots I hn1 hn2 => ?_)
    have I : s_I G q16.2 s H locs := I
    have hn : cells + σ0.2.1 ≤ q16.2.2.1 ∧ slots + σ0.2.2.1 ≤ q16.2.2.2.1 := ⟨hn1, hn2⟩
    rcases s_ite hf with ⟨hchk, hf⟩ | ⟨-, hf⟩
    · cases hf
      have k : _ = r := k
      subst k
      exact r_iret X I rfl (s_nb hchk) rfl hn dX0_fits_152
    · cases hf
  rcases s_ite hf with ⟨c26, hf⟩ | ⟨c26, hf⟩
  · refine lv_tableIn (tgt := 153) (off := 103) hx hb dX0_fits_50 (by rw [c26]; decide) (by rw [c26]; decide) (by rw [c26]; rfl) (by decide) ?_
    cases hf
    have k : _ = r := k
    subst k
    refine lv_iconst (v := 1) hx hb dX0_fits_153 (by decide) ?_
    exact r_iret X I rfl rfl rfl hn dX0_fits_154
  rcases s_ite hf with ⟨c27, hf⟩ | ⟨c27, hf⟩
  · refine lv_tableIn (tgt := 336) (off := 286) hx hb dX0_fits_50 (by rw [c27]; decide) (by rw [c27]; decide) (by rw [c27]; rfl) (by decide) ?_
    cases hf
    have k : s_V G (d + 4) M_X0_fits vs0 σ0 Y_X0_fits (336, [.ref v0, .int v2, .int q2.1, .int q6.1, .int q10.1], q10.2) (e_I r) := k
    exact k.2 p e s m below meth c _ _ _ _ _ X I hn.1 hn.2 (lv_sub hl [4, 6, 3, 1, 0] rfl)
  rcases s_ite hf with ⟨c28, hf⟩ | ⟨c28, hf⟩
  · refine lv_tableIn (tgt := 336) (off := 286) hx hb dX0_fits_50 (by rw [c28]; decide) (by rw [c28]; decide) (by rw [c28]; rfl) (by decide) ?_
    cases hf
    have k : s_V G (d + 4) M_X0_fits vs0 σ0 Y_X0_fits (336, [.ref v0, .int v2, .int q2.1, .int q6.1, .int q10.1], q10.2) (e_I r) := k
    exact k.2 p e s m below meth c _ _ _ _ _ X I hn.1 hn.2 (lv_sub hl [4, 6, 3, 1, 0] rfl)
  rcases s_ite hf with ⟨c29, hf⟩ | ⟨c29, hf⟩
  · refine lv_tableIn (tgt := 336) (off := 286) hx hb dX0_fits_50 (by rw [c29]; decide) (by rw [c29]; decide) (by rw [c29]; rfl) (by decide) ?_
    cases hf
    have k : s_V G (d + 4) M_X0_fits vs0 σ0 Y_X0_fits (336, [.ref v0, .int v2, .int q2.1, .int q6.1, .int q10.1], q10.2) (e_I r) := k
    exact k.2 p e s m below meth c _ _ _ _ _ X I hn.1 hn.2 (lv_sub hl [4, 6, 3, 1, 0] rfl)
  rcases s_ite hf with ⟨c30, hf⟩ | ⟨c30, hf⟩
  · refine lv_tableIn (tgt := 336) (off := 286) hx hb dX0_fits_50 (by rw [c30]; decide) (by rw [c30]; decide) (by rw [c30]; rfl) (by decide) ?_
    cases hf
    have k : s_V G (d + 4) M_X0_fits vs0 σ0 Y_X0_fits (336, [.ref v0, .int v2, .int q2.1, .int q6.1, .int q10.1], q10.2) (e_I r) := k
    exact k.2 p e s m below meth c _ _ _ _ _ X I hn.1 hn.2 (lv_sub hl [4, 6, 3, 1, 0] rfl)
  rcases s_ite hf with ⟨c31, hf⟩ | ⟨c31, hf⟩
  · refine lv_tableIn (tgt := 336) (off := 286) hx hb dX0_fits_50 (by rw [c31]; decide) (by rw [c31]; decide) (by rw [c31]; rfl) (by decide) ?_
    cases hf
    have k : s_V G (d + 4) M_X0_fits vs0 σ0 Y_X0_fits (336, [.ref v0, .int v2, .int q2.1, .int q6.1, .int q10.1], q10.2) (e_I r) := k
    exact k.2 p e s m below meth c _ _ _ _ _ X I hn.1 hn.2 (lv_sub hl [4, 6, 3, 1, 0] rfl)
  rcases s_ite hf with ⟨c32, hf⟩ | ⟨c32, hf⟩
  · refine lv_tableIn (tgt := 336) (off := 286) hx hb dX0_fits_50 (by rw [c32]; decide) (by rw [c32]; decide) (by rw [c32]; rfl) (by decide) ?_
    cases hf
    have k : s_V G (d + 4) M_X0_fits vs0 σ0 Y_X0_fits (336, [.ref v0, .int v2, .int q2.1, .int q6.1, .int q10.1], q10.2) (e_I r) := k
    exact k.2 p e s m below meth c _ _ _ _ _ X I hn.1 hn.2 (lv_sub hl [4, 6, 3, 1, 0] rfl)
  rcases s_ite hf with ⟨c33, hf⟩ | ⟨c33, hf⟩
  · refine lv_tableIn (tgt := 336) (off := 286) hx hb dX0_fits_50 (by rw [c33]; decide) (by rw [c33]; decide) (by rw [c33]; rfl) (by decide) ?_
    cases hf
    have k : s_V G (d + 4) M_X0_fits vs0 σ0 Y_X0_fits (336, [.ref v0, .int v2, .int q2.1, .int q6.1, .int q10.1], q10.2) (e_I r) := k
    exact k.2 p e s m below meth c _ _ _ _ _ X I hn.1 hn.2 (lv_sub hl [4, 6, 3, 1, 0] rfl)
  rcases s_ite hf with ⟨c34, hf⟩ | ⟨c34, hf⟩
  · refine lv_tableIn (tgt := 155) (off := 105) hx hb dX0_fits_50 (by rw [c34]; decide) (by rw [c34]; decide) (by rw [c34]; rfl) (by decide) ?_
    obtain ⟨x17, h35, hf⟩ := s_bind hf
    obtain ⟨x18, h36, hf⟩ := s_bind hf
    obtain ⟨q19, h37, hf⟩ := s_bind hf
    obtain ⟨q20, h38, hf⟩ := s_bind hf
    obtain ⟨q21, h39, hf⟩ := s_bind hf
    have le40 : s_le q21.2 (e_I r).2 := by
      refine s_lek hem_I ?_ k
      rcases s_ite hf with ⟨-, hf⟩ | ⟨-, hf⟩
      · cases hf
        exact s_le.rf
      · cases hf
    have le41 := s_le.tr (l_X0_fitsCases h39) le40
    have le42 := s_le.tr (l_X1_nodeOfLine h38) le41
    refine lv_aload_n hx hb dX0_fits_155 rfl (lv_at hl 4 rfl) ?_
    refine lv_iload hx hb dX0_fits_156 (lv_at hl 1 rfl) ?_
    refine lv_iload hx hb dX0_fits_158 (lv_at hl 0 rfl) ?_
    refine lv_aload_n hx hb dX0_fits_160 rfl (lv_at hl 4 rfl) ?_
    refine r_gr X I fl_X0_15 h35 dX0_fits_161 ?_
    refine lv_aload_n hx hb dX0_fits_164 rfl (lv_at hl 4 rfl) ?_
    refine r_gr X I fl_X0_15 h36 dX0_fits_165 ?_
    refine lv_iload_n hx hb dX0_fits_168 rfl (lv_at hl 5 rfl) ?_
    refine lv_iconst (v := 2) hx hb dX0_fits_169 (by decide) ?_
    refine r_callV (Y := M_X1_premiseOf) (v := some (.int q19.1)) X I w_554 my_X1_premiseOf (by omega) (t_X1_premiseOf (G := G) (d := d + 1) h37) (b_X1_premiseOf h37) rfl rfl hl.1 rfl (Nat.le_of_ble_eq_true rfl) hn le42 dX0_fits_170 (fun H locs cells slots I hn1 hn2 => ?_)
    have I : s_I G q19.2 s H locs := I
    have hn : cells + σ0.2.1 ≤ q19.2.2.1 ∧ slots + σ0.2.2.1 ≤ q19.2.2.2.1 := ⟨hn1, hn2⟩
    refine r_callV (Y := M_X1_nodeOfLine) (v := some (.int q20.1)) X I w_525 my_X1_nodeOfLine (by omega) (t_X1_nodeOfLine (G := G) (d := d + 1) h38) (b_X1_nodeOfLine h38) rfl rfl hl.1 rfl (Nat.le_of_ble_eq_true rfl) hn le41 dX0_fits_173 (fun H locs cells slots I hn1 hn2 => ?_)
    have I : s_I G q20.2 s H locs := I
    have hn : cells + σ0.2.1 ≤ q20.2.2.1 ∧ slots + σ0.2.2.1 ≤ q20.2.2.2.1 := ⟨hn1, hn2⟩
    refine lv_iload_n hx hb dX0_fits_176 rfl (lv_at hl 3 rfl) ?_
    refine r_callV (Y := M_X0_fitsCases) (v := some (.int q21.1)) X I w_568 my_X0_fitsCases (by omega) (t_X0_fitsCases (G := G) (d := d + 1) h39) (b_X0_fitsCases h39) rfl rfl hl.1 rfl (Nat.le_of_ble_eq_true rfl) hn le40 dX0_fits_177 (fun H locs cells slots I hn1 hn2 => ?_)
    have I : s_I G q21.2 s H locs := I
    have hn : cells + σ0.2.1 ≤ q21.2.2.1 ∧ slots + σ0.2.2.1 ≤ q21.2.2.2.1 := ⟨hn1, hn2⟩
    rcases s_ite hf with ⟨hchk, hf⟩ | ⟨-, hf⟩
    · cases hf
      have k : _ = r := k
      subst k
      exact r_iret X I rfl (s_nb hchk) rfl hn dX0_fits_180
    · cases hf
  rcases s_ite hf with ⟨c43, hf⟩ | ⟨c43, hf⟩
  · refine lv_tableIn (tgt := 181) (off := 131) hx hb dX0_fits_50 (by rw [c43]; decide) (by rw [c43]; decide) (by rw [c43]; rfl) (by decide) ?_
    obtain ⟨x22, h44, hf⟩ := s_bind hf
    obtain ⟨q23, h45, hf⟩ := s_bind hf
    have le46 : s_le q23.2 (e_I r).2 := by
      refine s_lek hem_I ?_ k
      rcases s_ite hf with ⟨-, hf⟩ | ⟨-, hf⟩
      · obtain ⟨x24, -, hf⟩ := s_bind hf
        obtain ⟨q25, hh, hf⟩ := s_bind hf
        refine s_lz.tr (l_X2_isMade hh) ?_
        rcases s_ite hf with ⟨-, hf⟩ | ⟨-, hf⟩
        · cases hf
          exact s_le.rf
        · cases hf
          exact s_le.rf
      · cases hf
        exact s_le.rf
    refine lv_aload_n hx hb dX0_fits_181 rfl (lv_at hl 4 rfl) ?_
    refine r_gr X I fl_X0_15 h44 dX0_fits_182 ?_
    refine lv_iload hx hb dX0_fits_185 (lv_at hl 2 rfl) ?_
    refine lv_iconst (v := 2) hx hb dX0_fits_187 (by decide) ?_
    refine r_callV (Y := M_X1_ofLine) (v := some (.int q23.1)) X I w_517 my_X1_ofLine (by omega) (t_X1_ofLine (G := G) (d := d + 2) h45) (b_X1_ofLine h45) rfl rfl hl.1 rfl (Nat.le_of_ble_eq_true rfl) hn le46 dX0_fits_188 (fun H locs cells slots I hn1 hn2 => ?_)
    have I : s_I G q23.2 s H locs := I
    have hn : cells + σ0.2.1 ≤ q23.2.2.1 ∧ slots + σ0.2.2.1 ≤ q23.2.2.2.1 := ⟨hn1, hn2⟩
    refine lv_iconst (v := 1) hx hb dX0_fits_191 (by decide) ?_
    rcases s_ite hf with ⟨c47, hf⟩ | ⟨c47, hf⟩
    · refine lv_icmp_ne (tgt := 215) hx hb dX0_fits_192 (by decide) (fun n => absurd c47 n) (fun _ => ?_)
      obtain ⟨x24, h48, hf⟩ := s_bind hf
      obtain ⟨q25, h49, hf⟩ := s_bind hf
      have le50 : s_le q25.2 (e_I r).2 := by
        refine s_lek hem_I ?_ k
        rcases s_ite hf with ⟨-, hf⟩ | ⟨-, hf⟩
        · cases hf
          exact s_le.rf
        · cases hf
          exact s_le.rf
      refine lv_aload_n hx hb dX0_fits_195 rfl (lv_at hl 4 rfl) ?_
      refine r_gr X I fl_X0_9 h48 dX0_fits_196 ?_
      refine lv_iload_n hx hb dX0_fits_199 rfl (lv_at hl 3 rfl) ?_
      refine lv_iconst (v := 4) hx hb dX0_fits_200 (by decide) ?_
      refine lv_iload hx hb dX0_fits_201 (lv_at hl 1 rfl) ?_
      refine lv_iload hx hb dX0_fits_203 (lv_at hl 0 rfl) ?_
      refine r_callV (Y := M_X2_isMade) (v := some (.int q25.1)) X I w_580 my_X2_isMade (by omega) (t_X2_isMade (G := G) (d := d + 2) h49) (b_X2_isMade h49) rfl rfl hl.1 rfl (Nat.le_of_ble_eq_true rfl) hn le50 dX0_fits_205 (fun H locs cells slots I hn1 hn2 => ?_)
      have I : s_I G q25.2 s H locs := I
      have hn : cells + σ0.2.1 ≤ q25.2.2.1 ∧ slots + σ0.2.2.1 ≤ q25.2.2.2.1 := ⟨hn1, hn2⟩
      rcases s_ite hf with ⟨c51, hf⟩ | ⟨c51, hf⟩
      · refine lv_if_eq (tgt := 215) hx hb dX0_fits_208 (by decide) (fun _ => ?_) (fun n => absurd c51 n)
        cases hf
        have k : _ = r := k
        subst k
        refine lv_iconst (v := 0) hx hb dX0_fits_215 (by decide) ?_
        exact r_iret X I rfl rfl rfl hn dX0_fits_216
      · refine lv_if_eq (tgt := 215) hx hb dX0_fits_208 (by decide) (fun n => absurd n c51) (fun _ => ?_)
        cases hf
        have k : _ = r := k
        subst k
        refine lv_iconst (v := 1) hx hb dX0_fits_211 (by decide) ?_
        refine lv_goto (tgt := 216) hx hb dX0_fits_212 (by decide) ?_
        exact r_iret X I rfl rfl rfl hn dX0_fits_216
    · refine lv_icmp_ne (tgt := 215) hx hb dX0_fits_192 (by decide) (fun _ => ?_) (fun n => absurd n c47)
      cases hf
      have k : _ = r := k
      subst k
      refine lv_iconst (v := 0) hx hb dX0_fits_215 (by decide) ?_
      exact r_iret X I rfl rfl rfl hn dX0_fits_216
  rcases s_ite hf with ⟨c52, hf⟩ | ⟨c52, hf⟩
  · refine lv_tableIn (tgt := 217) (off := 167) hx hb dX0_fits_50 (by rw [c52]; decide) (by rw [c52]; decide) (by rw [c52]; rfl) (by decide) ?_
    obtain ⟨x26, h53, hf⟩ := s_bind hf
    obtain ⟨q27, h54, hf⟩ := s_bind hf
    have le55 : s_le q27.2 (e_I r).2 := by
      refine s_lek hem_I ?_ k
      rcases s_ite hf with ⟨-, hf⟩ | ⟨-, hf⟩
      · obtain ⟨q28, hh, hf⟩ := s_bind hf
        refine s_lz.tr (l_X0_isPlaced hh) ?_
        rcases s_ite hf with ⟨-, hf⟩ | ⟨-, hf⟩
        · cases hf
          exact s_le.rf
        · cases hf
          exact s_le.rf
      · cases hf
        exact s_le.rf
    refine lv_aload_n hx hb dX0_fits_217 rfl (lv_at hl 4 rfl) ?_
    refine r_gr X I fl_X0_9 h53 dX0_fits_218 ?_
    refine lv_iload hx hb dX0_fits_221 (lv_at hl 1 rfl) ?_
    refine r_callV (Y := M_X2_kindOf) (v := some (.int q27.1)) X I w_572 my_X2_kindOf (by omega) (t_X2_kindOf (G := G) (d := d + 2) h54) (b_X2_kindOf h54) rfl rfl hl.1 rfl (Nat.le_of_ble_eq_true rfl) hn le55 dX0_fits_223 (fun H locs cells slots I hn1 hn2 => ?_)
    have I : s_I G q27.2 s H locs := I
    have hn : cells + σ0.2.1 ≤ q27.2.2.1 ∧ slots + σ0.2.2.1 ≤ q27.2.2.2.1 := ⟨hn1, hn2⟩
    refine lv_iconst (v := 5) hx hb dX0_fits_226 (by decide) ?_
    rcases s_ite hf with ⟨c56, hf⟩ | ⟨c56, hf⟩
    · refine lv_icmp_ne (tgt := 244) hx hb dX0_fits_227 (by decide) (fun n => absurd c56 n) (fun _ => ?_)
      obtain ⟨q28, h57, hf⟩ := s_bind hf
      have le58 : s_le q28.2 (e_I r).2 := by
        refine s_lek hem_I ?_ k
        rcases s_ite hf with ⟨-, hf⟩ | ⟨-, hf⟩
        · cases hf
          exact s_le.rf
        · cases hf
          exact s_le.rf
      refine lv_aload_n hx hb dX0_fits_230 rfl (lv_at hl 4 rfl) ?_
      refine lv_iload hx hb dX0_fits_231 (lv_at hl 1 rfl) ?_
      refine lv_iload_n hx hb dX0_fits_233 rfl (lv_at hl 3 rfl) ?_
      refine r_callV (Y := M_X0_isPlaced) (v := some (.int q28.1)) X I w_588 my_X0_isPlaced (by omega) (t_X0_isPlaced (G := G) (d := d + 1) h57) (b_X0_isPlaced h57) rfl rfl hl.1 rfl (Nat.le_of_ble_eq_true rfl) hn le58 dX0_fits_234 (fun H locs cells slots I hn1 hn2 => ?_)
      have I : s_I G q28.2 s H locs := I
      have hn : cells + σ0.2.1 ≤ q28.2.2.1 ∧ slots + σ0.2.2.1 ≤ q28.2.2.2.1 := ⟨hn1, hn2⟩
      rcases s_ite hf with ⟨c59, hf⟩ | ⟨c59, hf⟩
      · refine lv_if_eq (tgt := 244) hx hb dX0_fits_237 (by decide) (fun _ => ?_) (fun n => absurd c59 n)
        cases hf
        have k : _ = r := k
        subst k
        refine lv_iconst (v := 0) hx hb dX0_fits_244 (by decide) ?_
        exact r_iret X I rfl rfl rfl hn dX0_fits_245
      · refine lv_if_eq (tgt := 244) hx hb dX0_fits_237 (by decide) (fun n => absurd n c59) (fun _ => ?_)
        cases hf
        have k : _ = r := k
        subst k
        refine lv_iconst (v := 1) hx hb dX0_fits_240 (by decide) ?_
        refine lv_goto (tgt := 245) hx hb dX0_fits_241 (by decide) ?_
        exact r_iret X I rfl rfl rfl hn dX0_fits_245
    · refine lv_icmp_ne (tgt := 244) hx hb dX0_fits_227 (by decide) (fun _ => ?_) (fun n => absurd n c56)
      cases hf
      have k : _ = r := k
      subst k
      refine lv_iconst (v := 0) hx hb dX0_fits_244 (by decide) ?_
      exact r_iret X I rfl rfl rfl hn dX0_fits_245
  rcases s_ite hf with ⟨c60, hf⟩ | ⟨c60, hf⟩
  · refine lv_tableIn (tgt := 246) (off := 196) hx hb dX0_fits_50 (by rw [c60]; decide) (by rw [c60]; decide) (by rw [c60]; rfl) (by decide) ?_
    obtain ⟨x29, h61, hf⟩ := s_bind hf
    obtain ⟨q30, h62, hf⟩ := s_bind hf
    have le63 : s_le q30.2 (e_I r).2 := by
      refine s_lek hem_I ?_ k
      rcases s_ite hf with ⟨-, hf⟩ | ⟨-, hf⟩
      · obtain ⟨q31, hh, hf⟩ := s_bind hf
        refine s_lz.tr (l_X0_areEach hh) ?_
        rcases s_ite hf with ⟨-, hf⟩ | ⟨-, hf⟩
        · cases hf
          exact s_le.rf
        · cases hf
          exact s_le.rf
      · cases hf
        exact s_le.rf
    refine lv_aload_n hx hb dX0_fits_246 rfl (lv_at hl 4 rfl) ?_
    refine r_gr X I fl_X0_9 h61 dX0_fits_247 ?_
    refine lv_iload_n hx hb dX0_fits_250 rfl (lv_at hl 3 rfl) ?_
    refine r_callV (Y := M_X2_kindOf) (v := some (.int q30.1)) X I w_572 my_X2_kindOf (by omega) (t_X2_kindOf (G := G) (d := d + 2) h62) (b_X2_kindOf h62) rfl rfl hl.1 rfl (Nat.le_of_ble_eq_true rfl) hn le63 dX0_fits_251 (fun H locs cells slots I hn1 hn2 => ?_)
    have I : s_I G q30.2 s H locs := I
    have hn : cells + σ0.2.1 ≤ q30.2.2.1 ∧ slots + σ0.2.2.1 ≤ q30.2.2.2.1 := ⟨hn1, hn2⟩
    refine lv_iconst (v := 5) hx hb dX0_fits_254 (by decide) ?_
    rcases s_ite hf with ⟨c64, hf⟩ | ⟨c64, hf⟩
    · refine lv_icmp_ne (tgt := 271) hx hb dX0_fits_255 (by decide) (fun n => absurd c64 n) (fun _ => ?_)
      obtain ⟨q31, h65, hf⟩ := s_bind hf
      have le66 : s_le q31.2 (e_I r).2 := by
        refine s_lek hem_I ?_ k
        rcases s_ite hf with ⟨-, hf⟩ | ⟨-, hf⟩
        · cases hf
          exact s_le.rf
        · cases hf
          exact s_le.rf
      refine lv_aload_n hx hb dX0_fits_258 rfl (lv_at hl 4 rfl) ?_
      refine lv_iload_n hx hb dX0_fits_259 rfl (lv_at hl 5 rfl) ?_
      refine lv_iload_n hx hb dX0_fits_260 rfl (lv_at hl 3 rfl) ?_
      refine r_callV (Y := M_X0_areEach) (v := some (.int q31.1)) X I w_596 my_X0_areEach (by omega) (t_X0_areEach (G := G) (d := d + 0) h65) (b_X0_areEach h65) rfl rfl hl.1 rfl (Nat.le_of_ble_eq_true rfl) hn le66 dX0_fits_261 (fun H locs cells slots I hn1 hn2 => ?_)
      have I : s_I G q31.2 s H locs := I
      have hn : cells + σ0.2.1 ≤ q31.2.2.1 ∧ slots + σ0.2.2.1 ≤ q31.2.2.2.1 := ⟨hn1, hn2⟩
      rcases s_ite hf with ⟨c67, hf⟩ | ⟨c67, hf⟩
      · refine lv_if_eq (tgt := 271) hx hb dX0_fits_264 (by decide) (fun _ => ?_) (fun n => absurd c67 n)
        cases hf
        have k : _ = r := k
        subst k
        refine lv_iconst (v := 0) hx hb dX0_fits_271 (by decide) ?_
        exact r_iret X I rfl rfl rfl hn dX0_fits_272
      · refine lv_if_eq (tgt := 271) hx hb dX0_fits_264 (by decide) (fun n => absurd n c67) (fun _ => ?_)
        cases hf
        have k : _ = r := k
        subst k
        refine lv_iconst (v := 1) hx hb dX0_fits_267 (by decide) ?_
        refine lv_goto (tgt := 272) hx hb dX0_fits_268 (by decide) ?_
        exact r_iret X I rfl rfl rfl hn dX0_fits_272
    · refine lv_icmp_ne (tgt := 271) hx hb dX0_fits_255 (by decide) (fun _ => ?_) (fun n => absurd n c64)
      cases hf
      have k : _ = r := k
      subst k
      refine lv_iconst (v := 0) hx hb dX0_fits_271 (by decide) ?_
      exact r_iret X I rfl rfl rfl hn dX0_fits_272
  rcases s_ite hf with ⟨c68, hf⟩ | ⟨c68, hf⟩
  · refine lv_tableIn (tgt := 273) (off := 223) hx hb dX0_fits_50 (by rw [c68]; decide) (by rw [c68]; decide) (by rw [c68]; rfl) (by decide) ?_
    obtain ⟨x32, h69, hf⟩ := s_bind hf
    obtain ⟨q33, h70, hf⟩ := s_bind hf
    have le71 : s_le q33.2 (e_I r).2 := by
      refine s_lek hem_I ?_ k
      rcases s_ite hf with ⟨-, hf⟩ | ⟨-, hf⟩
      · obtain ⟨q34, hh, hf⟩ := s_bind hf
        refine s_lz.tr (l_X0_isPlaced hh) ?_
        rcases s_ite hf with ⟨-, hf⟩ | ⟨-, hf⟩
        · cases hf
          exact s_le.rf
        · cases hf
          exact s_le.rf
      · cases hf
        exact s_le.rf
    refine lv_aload_n hx hb dX0_fits_273 rfl (lv_at hl 4 rfl) ?_
    refine r_gr X I fl_X0_9 h69 dX0_fits_274 ?_
    refine lv_iload_n hx hb dX0_fits_277 rfl (lv_at hl 3 rfl) ?_
    refine r_callV (Y := M_X2_kindOf) (v := some (.int q33.1)) X I w_572 my_X2_kindOf (by omega) (t_X2_kindOf (G := G) (d := d + 2) h70) (b_X2_kindOf h70) rfl rfl hl.1 rfl (Nat.le_of_ble_eq_true rfl) hn le71 dX0_fits_278 (fun H locs cells slots I hn1 hn2 => ?_)
    have I : s_I G q33.2 s H locs := I
    have hn : cells + σ0.2.1 ≤ q33.2.2.1 ∧ slots + σ0.2.2.1 ≤ q33.2.2.2.1 := ⟨hn1, hn2⟩
    refine lv_bipush (v := 6) hx hb dX0_fits_281 (by decide) ?_
    rcases s_ite hf with ⟨c72, hf⟩ | ⟨c72, hf⟩
    · refine lv_icmp_ne (tgt := 300) hx hb dX0_fits_283 (by decide) (fun n => absurd c72 n) (fun _ => ?_)
      obtain ⟨q34, h73, hf⟩ := s_bind hf
      have le74 : s_le q34.2 (e_I r).2 := by
        refine s_lek hem_I ?_ k
        rcases s_ite hf with ⟨-, hf⟩ | ⟨-, hf⟩
        · cases hf
          exact s_le.rf
        · cases hf
          exact s_le.rf
      refine lv_aload_n hx hb dX0_fits_286 rfl (lv_at hl 4 rfl) ?_
      refine lv_iload_n hx hb dX0_fits_287 rfl (lv_at hl 3 rfl) ?_
      refine lv_iload hx hb dX0_fits_288 (lv_at hl 1 rfl) ?_
      refine r_callV (Y := M_X0_isPlaced) (v := some (.int q34.1)) X I w_588 my_X0_isPlaced (by omega) (t_X0_isPlaced (G := G) (d := d + 1) h73) (b_X0_isPlaced h73) rfl rfl hl.1 rfl (Nat.le_of_ble_eq_true rfl) hn le74 dX0_fits_290 (fun H locs cells slots I hn1 hn2 => ?_)
      have I : s_I G q34.2 s H locs := I
      have hn : cells + σ0.2.1 ≤ q34.2.2.1 ∧ slots + σ0.2.2.1 ≤ q34.2.2.2.1 := ⟨hn1, hn2⟩
      rcases s_ite hf with ⟨c75, hf⟩ | ⟨c75, hf⟩
      · refine lv_if_eq (tgt := 300) hx hb dX0_fits_293 (by decide) (fun _ => ?_) (fun n => absurd c75 n)
        cases hf
        have k : _ = r := k
        subst k
        refine lv_iconst (v := 0) hx hb dX0_fits_300 (by decide) ?_
        exact r_iret X I rfl rfl rfl hn dX0_fits_301
      · refine lv_if_eq (tgt := 300) hx hb dX0_fits_293 (by decide) (fun n => absurd n c75) (fun _ => ?_)
        cases hf
        have k : _ = r := k
        subst k
        refine lv_iconst (v := 1) hx hb dX0_fits_296 (by decide) ?_
        refine lv_goto (tgt := 301) hx hb dX0_fits_297 (by decide) ?_
        exact r_iret X I rfl rfl rfl hn dX0_fits_301
    · refine lv_icmp_ne (tgt := 300) hx hb dX0_fits_283 (by decide) (fun _ => ?_) (fun n => absurd n c72)
      cases hf
      have k : _ = r := k
      subst k
      refine lv_iconst (v := 0) hx hb dX0_fits_300 (by decide) ?_
      exact r_iret X I rfl rfl rfl hn dX0_fits_301
  rcases s_ite hf with ⟨c76, hf⟩ | ⟨c76, hf⟩
  · refine lv_tableIn (tgt := 336) (off := 286) hx hb dX0_fits_50 (by rw [c76]; decide) (by rw [c76]; decide) (by rw [c76]; rfl) (by decide) ?_
    cases hf
    have k : s_V G (d + 4) M_X0_fits vs0 σ0 Y_X0_fits (336, [.ref v0, .int v2, .int q2.1, .int q6.1, .int q10.1], q10.2) (e_I r) := k
    exact k.2 p e s m below meth c _ _ _ _ _ X I hn.1 hn.2 (lv_sub hl [4, 6, 3, 1, 0] rfl)
  rcases s_ite hf with ⟨c77, hf⟩ | ⟨c77, hf⟩
  · refine lv_tableIn (tgt := 302) (off := 252) hx hb dX0_fits_50 (by rw [c77]; decide) (by rw [c77]; decide) (by rw [c77]; rfl) (by decide) ?_
    refine lv_iload hx hb dX0_fits_302 (lv_at hl 1 rfl) ?_
    refine lv_iload_n hx hb dX0_fits_304 rfl (lv_at hl 3 rfl) ?_
    rcases s_ite hf with ⟨c78, hf⟩ | ⟨c78, hf⟩
    · refine lv_icmp_ne (tgt := 334) hx hb dX0_fits_305 (by decide) (fun n => absurd c78 n) (fun _ => ?_)
      obtain ⟨x35, h79, hf⟩ := s_bind hf
      obtain ⟨q36, h80, hf⟩ := s_bind hf
      obtain ⟨x37, h81, hf⟩ := s_bind hf
      obtain ⟨q38, h82, hf⟩ := s_bind hf
      have le83 : s_le q38.2 (e_I r).2 := by
        refine s_lek hem_I ?_ k
        rcases s_ite hf with ⟨-, hf⟩ | ⟨-, hf⟩
        · cases hf
          exact s_le.rf
        · cases hf
          exact s_le.rf
      have le84 := s_le.tr (l_X1_ofLine h82) le83
      refine lv_aload_n hx hb dX0_fits_308 rfl (lv_at hl 4 rfl) ?_
      refine r_gr X I fl_X0_15 h79 dX0_fits_309 ?_
      refine lv_iload hx hb dX0_fits_312 (lv_at hl 2 rfl) ?_
      refine lv_iconst (v := 0) hx hb dX0_fits_314 (by decide) ?_
      refine r_callV (Y := M_X1_ofLine) (v := some (.int q36.1)) X I w_517 my_X1_ofLine (by omega) (t_X1_ofLine (G := G) (d := d + 2) h80) (b_X1_ofLine h80) rfl rfl hl.1 rfl (Nat.le_of_ble_eq_true rfl) hn le84 dX0_fits_315 (fun H locs cells slots I hn1 hn2 => ?_)
      have I : s_I G q36.2 s H locs := I
      have hn : cells + σ0.2.1 ≤ q36.2.2.1 ∧ slots + σ0.2.2.1 ≤ q36.2.2.2.1 := ⟨hn1, hn2⟩
      refine lv_aload_n hx hb dX0_fits_318 rfl (lv_at hl 4 rfl) ?_
      refine r_gr X I fl_X0_15 h81 dX0_fits_319 ?_
      refine lv_iload_n hx hb dX0_fits_322 rfl (lv_at hl 5 rfl) ?_
      refine lv_iconst (v := 0) hx hb dX0_fits_323 (by decide) ?_
      refine r_callV (Y := M_X1_ofLine) (v := some (.int q38.1)) X I w_517 my_X1_ofLine (by omega) (t_X1_ofLine (G := G) (d := d + 2) h82) (b_X1_ofLine h82) rfl rfl hl.1 rfl (Nat.le_of_ble_eq_true rfl) hn le83 dX0_fits_324 (fun H locs cells slots I hn1 hn2 => ?_)
      have I : s_I G q38.2 s H locs := I
      have hn : cells + σ0.2.1 ≤ q38.2.2.1 ∧ slots + σ0.2.2.1 ≤ q38.2.2.2.1 := ⟨hn1, hn2⟩
      rcases s_ite hf with ⟨c85, hf⟩ | ⟨c85, hf⟩
      · refine lv_icmp_eq (tgt := 334) hx hb dX0_fits_327 (by decide) (fun _ => ?_) (fun n => absurd c85 n)
        cases hf
        have k : _ = r := k
        subst k
        refine lv_iconst (v := 0) hx hb dX0_fits_334 (by decide) ?_
        exact r_iret X I rfl rfl rfl hn dX0_fits_335
      · refine lv_icmp_eq (tgt := 334) hx hb dX0_fits_327 (by decide) (fun n => absurd n c85) (fun _ => ?_)
        cases hf
        have k : _ = r := k
        subst k
        refine lv_iconst (v := 1) hx hb dX0_fits_330 (by decide) ?_
        refine lv_goto (tgt := 335) hx hb dX0_fits_331 (by decide) ?_
        exact r_iret X I rfl rfl rfl hn dX0_fits_335
    · refine lv_icmp_ne (tgt := 334) hx hb dX0_fits_305 (by decide) (fun _ => ?_) (fun n => absurd n c78)
      cases hf
      have k : _ = r := k
      subst k
      refine lv_iconst (v := 0) hx hb dX0_fits_334 (by decide) ?_
      exact r_iret X I rfl rfl rfl hn dX0_fits_335
  refine lv_tableOut (tgt := 336) hx hb dX0_fits_50 (by
      have tc16 := lv_neT (a := 0) c16 (by decide)
      have tc26 := lv_neT (a := 1) c26 (by decide)
      have tc27 := lv_neT (a := 2) c27 (by decide)
      have tc28 := lv_neT (a := 3) c28 (by decide)
      have tc29 := lv_neT (a := 4) c29 (by decide)
      have tc30 := lv_neT (a := 5) c30 (by decide)
      have tc31 := lv_neT (a := 6) c31 (by decide)
      have tc32 := lv_neT (a := 7) c32 (by decide)
      have tc33 := lv_neT (a := 8) c33 (by decide)
      have tc34 := lv_neT (a := 9) c34 (by decide)
      have tc43 := lv_neT (a := 10) c43 (by decide)
      have tc52 := lv_neT (a := 11) c52 (by decide)
      have tc60 := lv_neT (a := 12) c60 (by decide)
      have tc68 := lv_neT (a := 13) c68 (by decide)
      have tc76 := lv_neT (a := 14) c76 (by decide)
      have tc77 := lv_neT (a := 15) c77 (by decide)
      omega) (by decide) ?_
  cases hf
  have k : s_V G (d + 4) M_X0_fits vs0 σ0 Y_X0_fits (336, [.ref v0, .int v2, .int q2.1, .int q6.1, .int q10.1], q10.2) (e_I r) := k
  exact k.2 p e s m below meth c _ _ _ _ _ X I hn.1 hn.2 (lv_sub hl [4, 6, 3, 1, 0] rfl)
set_option maxRecDepth 100000 in
set_option maxHeartbeats 4000000 in
theorem v_X0_fits_336 {G : sG} {d : Nat} {vs0 : List Value} {σ0 : sS} {v0 : Nat} {v2 : Int32} {v3 : Int32} {v5 : Int32} {v6 : Int32} {σ : sS} {z : sZ Int32} {r : Int32 × sS} (hf : T_X0_fits_336 v0 v2 v3 v5 v6 σ = some z) (k : s_K G (d + 4) M_X0_fits vs0 σ0 Y_X0_fits e_I z r) : s_V G (d + 4) M_X0_fits vs0 σ0 Y_X0_fits (336, [.ref v0, .int v2, .int v3, .int v5, .int v6], σ) (e_I r) := by
  have le0 : s_le σ (e_I r).2 := s_lek hem_I (l_X0_fits_336 hf) k
  refine ⟨le0, ?_⟩
  intro p e s m below meth c H locs cells slots ls X I hn1 hn2 hl
  have hn : cells + σ0.2.1 ≤ σ.2.1 ∧ slots + σ0.2.2.1 ≤ σ.2.2.1 := ⟨hn1, hn2⟩
  have hl : lv_has ls 7 [(0, .ref v0), (2, .int v2), (3, .int v3), (5, .int v5), (6, .int v6)] := hl
  have hx := X.1
  have hb : c.code = cX0_fits := X.2.1
  have hown : s.vm.findClass RX0 = some m.cls := X.2.2.2.2.2.1
  have hts := X.2.2.2.2.2.2.1
  refine W.eq (g2 := F0 m 336 ls []) rfl ?_
  unfold T_X0_fits_336 at hf
  obtain ⟨q1, h1, hf⟩ := s_bind hf
  have le2 : s_le q1.2 (e_I r).2 := by
    refine s_lek hem_I ?_ k
    rcases s_ite hf with ⟨-, hf⟩ | ⟨-, hf⟩
    · cases hf
      exact s_le.rf
    · cases hf
  refine lv_aload_n hx hb dX0_fits_336 rfl (lv_at hl 0 rfl) ?_
  refine lv_iload_n hx hb dX0_fits_337 rfl (lv_at hl 1 rfl) ?_
  refine lv_iload hx hb dX0_fits_338 (lv_at hl 3 rfl) ?_
  refine lv_iload hx hb dX0_fits_340 (lv_at hl 4 rfl) ?_
  refine lv_iload_n hx hb dX0_fits_342 rfl (lv_at hl 2 rfl) ?_
  refine r_callV (Y := M_X0_fitsPlain) (v := some (.int q1.1)) X I w_600 my_X0_fitsPlain (by omega) (t_X0_fitsPlain (G := G) (d := d + 1) h1) (b_X0_fitsPlain h1) rfl rfl hl.1 rfl (Nat.le_of_ble_eq_true rfl) hn le2 dX0_fits_343 (fun H locs cells slots I hn1 hn2 => ?_)
  have I : s_I G q1.2 s H locs := I
  have hn : cells + σ0.2.1 ≤ q1.2.2.1 ∧ slots + σ0.2.2.1 ≤ q1.2.2.2.1 := ⟨hn1, hn2⟩
  rcases s_ite hf with ⟨hchk, hf⟩ | ⟨-, hf⟩
  · cases hf
    have k : _ = r := k
    subst k
    exact r_iret X I rfl (s_nb hchk) rfl hn dX0_fits_346
  · cases hf
theorem v_X0_fits {G : sG} {d : Nat} {vs0 : List Value} {σ0 : sS} {x : sL} {z : sZ Int32} {r : Int32 × sS} (hs : S_X0_fits x = some z) (k : s_K G (d + 4) M_X0_fits vs0 σ0 Y_X0_fits e_I z r) : s_V G (d + 4) M_X0_fits vs0 σ0 Y_X0_fits x (e_I r) := by
  obtain ⟨pc, vs, σ⟩ := x
  unfold S_X0_fits at hs
  dsimp only at hs
  rcases s_ite hs with ⟨c, hs⟩ | ⟨-, hs⟩
  · subst c
    unfold U_X0_fits_0 at hs
    obtain ⟨a0, g0, hs⟩ := s_bind hs
    obtain ⟨a1, g1, hs⟩ := s_bind hs
    obtain ⟨a2, g2, hs⟩ := s_bind hs
    obtain ⟨u9, ge, hs⟩ := s_bind hs
    rw [g_r_to g0, g_i_to g1, g_i_to g2, g_e_to ge]
    exact v_X0_fits_0 hs k
  rcases s_ite hs with ⟨c, hs⟩ | ⟨-, hs⟩
  · subst c
    unfold U_X0_fits_336 at hs
    obtain ⟨a0, g0, hs⟩ := s_bind hs
    obtain ⟨a1, g1, hs⟩ := s_bind hs
    obtain ⟨a2, g2, hs⟩ := s_bind hs
    obtain ⟨a3, g3, hs⟩ := s_bind hs
    obtain ⟨a4, g4, hs⟩ := s_bind hs
    obtain ⟨u9, ge, hs⟩ := s_bind hs
    rw [g_r_to g0, g_i_to g1, g_i_to g2, g_i_to g3, g_i_to g4, g_e_to ge]
    exact v_X0_fits_336 hs k
  cases hs
theorem t_X0_fits {G : sG} {d : Nat} {v0 : Nat} {v1 : Int32} {v2 : Int32} {σ : sS} {q : Int32 × sS} (h : F_X0_fits v0 v1 v2 σ = some q) : s_T G (d + 4) M_X0_fits [.ref v0, .int v1, .int v2] σ (e_I q) := by
  unfold F_X0_fits at h
  obtain ⟨-, -, h⟩ := s_bind h
  exact s_ofV rfl (by decide) (Nat.le_of_ble_eq_true rfl) rfl rfl (s_run_ind (V := fun x r => s_V G (d + 4) M_X0_fits [.ref v0, .int v1, .int v2] σ Y_X0_fits x (e_I r)) (fun x z r hs hk => v_X0_fits hs (by cases z <;> exact hk)) h)
