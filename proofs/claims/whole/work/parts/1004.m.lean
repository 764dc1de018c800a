/-! X2_isMade -/
noncomputable def T_X2_isMade_0 (v0 : Nat) (v1 : Int32) (v2 : Int32) (v3 : Int32) (v4 : Int32) (σ : sS) : Option (sZ Int32) :=
  if v1 < 0 then (some (.inr (0, σ)))
  else ((s_fi σ v0 2 0).bind fun x1 =>
  if x1 ≤ v1 then (some (.inr (0, σ)))
  else ((s_fr σ v0 2 1).bind fun x2 =>
  (s_ai σ x2 v1).bind fun x3 =>
  if x3 = v2 then ((s_fr σ v0 2 2).bind fun x4 =>
  (s_ai σ x4 v1).bind fun x5 =>
  if x5 = v3 then ((s_fr σ v0 2 3).bind fun x6 =>
  (s_ai σ x6 v1).bind fun x7 =>
  if x7 = v4 then (some (.inr (1, σ)))
  else (some (.inr (0, σ))))
  else (some (.inr (0, σ))))
  else (some (.inr (0, σ)))))
noncomputable def U_X2_isMade_0 (vs : List Value) (σ : sS) : Option (sZ Int32) := (g_r vs).bind fun a0 => (g_i a0.2).bind fun a1 => (g_i a1.2).bind fun a2 => (g_i a2.2).bind fun a3 => (g_i a3.2).bind fun a4 => (g_e a4.2).bind fun _ => T_X2_isMade_0 a0.1 a1.1 a2.1 a3.1 a4.1 σ
noncomputable def S_X2_isMade (x : sL) : Option (sZ Int32) := if x.1 = 0 then U_X2_isMade_0 x.2.1 x.2.2 else none
def Y_X2_isMade (pc : Nat) : List Nat := if pc = 0 then [0, 1, 2, 3, 4] else []
noncomputable def F_X2_isMade (v0 : Nat) (v1 : Int32) (v2 : Int32) (v3 : Int32) (v4 : Int32) (σ : sS) : Option (Int32 × sS) := (s_is σ v0 2).bind fun _ => s_run S_X2_isMade (0, [.ref v0, .int v1, .int v2, .int v3, .int v4], σ)
theorem l_X2_isMade_0 {v0 : Nat} {v1 : Int32} {v2 : Int32} {v3 : Int32} {v4 : Int32} {σ : sS} {z : sZ Int32} (hf : T_X2_isMade_0 v0 v1 v2 v3 v4 σ = some z) : s_lz σ z := by
  unfold T_X2_isMade_0 at hf
  rcases s_ite hf with ⟨-, hf⟩ | ⟨-, hf⟩
  · cases hf
    exact s_le.rf
  · obtain ⟨x1, -, hf⟩ := s_bind hf
    rcases s_ite hf with ⟨-, hf⟩ | ⟨-, hf⟩
    · cases hf
      exact s_le.rf
    · obtain ⟨x2, -, hf⟩ := s_bind hf
      obtain ⟨x3, -, hf⟩ := s_bind hf
      rcases s_ite hf with ⟨-, hf⟩ | ⟨-, hf⟩
      · obtain ⟨x4, -, hf⟩ := s_bind hf
        obtain ⟨x5, -, hf⟩ := s_bind hf
        rcases s_ite hf with ⟨-, hf⟩ | ⟨-, hf⟩
        · obtain ⟨x6, -, hf⟩ := s_bind hf
          obtain ⟨x7, -, hf⟩ := s_bind hf
          rcases s_ite hf with ⟨-, hf⟩ | ⟨-, hf⟩
          · cases hf
            exact s_le.rf
          · cases hf
            exact s_le.rf
        · cases hf
          exact s_le.rf
      · cases hf
        exact s_le.rf
theorem l_X2_isMade_s {x : sL} {z : sZ Int32} (hs : S_X2_isMade x = some z) : s_lz x.2.2 z := by
  obtain ⟨pc, vs, σ⟩ := x
  unfold S_X2_isMade at hs
  dsimp only at hs ⊢
  rcases s_ite hs with ⟨c, hs⟩ | ⟨-, hs⟩
  · subst c
    unfold U_X2_isMade_0 at hs
    obtain ⟨a0, g0, hs⟩ := s_bind hs
    obtain ⟨a1, g1, hs⟩ := s_bind hs
    obtain ⟨a2, g2, hs⟩ := s_bind hs
    obtain ⟨a3, g3, hs⟩ := s_bind hs
    obtain ⟨a4, g4, hs⟩ := s_bind hs
    obtain ⟨u9, ge, hs⟩ := s_bind hs
    exact l_X2_isMade_0 hs
  cases hs
theorem l_X2_isMade {v0 : Nat} {v1 : Int32} {v2 : Int32} {v3 : Int32} {v4 : Int32} {σ : sS} {q : Int32 × sS} (h : F_X2_isMade v0 v1 v2 v3 v4 σ = some q) : s_le σ q.2 := by
  unfold F_X2_isMade at h
  obtain ⟨-, -, h⟩ := s_bind h
  exact s_run_ind (V := fun x r => s_le x.2.2 r.2) (fun x z r hs hk => by
    have h9 := l_X2_isMade_s hs
    cases z with
    | inl y => exact s_le.tr h9 hk
    | inr q => cases hk; exact h9) h
theorem b_X2_isMade {v0 : Nat} {v1 : Int32} {v2 : Int32} {v3 : Int32} {v4 : Int32} {σ : sS} {q : Int32 × sS} (h : F_X2_isMade v0 v1 v2 v3 v4 σ = some q) : ∃ fs, σ.1 v0 = some (.inr (2, fs)) := by
  unfold F_X2_isMade at h
  obtain ⟨u, hu, -⟩ := s_bind h
  exact s_is_to hu
set_option maxRecDepth 100000 in
set_option maxHeartbeats 4000000 in
theorem v_X2_isMade_0 {G : sG} {d : Nat} {vs0 : List Value} {σ0 : sS} {v0 : Nat} {v1 : Int32} {v2 : Int32} {v3 : Int32} {v4 : Int32} {σ : sS} {z : sZ Int32} {r : Int32 × sS} (hf : T_X2_isMade_0 v0 v1 v2 v3 v4 σ = some z) (k : s_K G (d + 1) M_X2_isMade vs0 σ0 Y_X2_isMade e_I z r) : s_V G (d + 1) M_X2_isMade vs0 σ0 Y_X2_isMade (0, [.ref v0, .int v1, .int v2, .int v3, .int v4], σ) (e_I r) := by
  have le0 : s_le σ (e_I r).2 := s_lek hem_I (l_X2_isMade_0 hf) k
  refine ⟨le0, ?_⟩
  intro p e s m below meth c H locs cells slots ls X I hn1 hn2 hl
  have hn : cells + σ0.2.1 ≤ σ.2.1 ∧ slots + σ0.2.2.1 ≤ σ.2.2.1 := ⟨hn1, hn2⟩
  have hl : lv_has ls 5 [(0, .ref v0), (1, .int v1), (2, .int v2), (3, .int v3), (4, .int v4)] := hl
  have hx := X.1
  have hb : c.code = cX2_isMade := X.2.1
  have hown : s.vm.findClass RX2 = some m.cls := X.2.2.2.2.2.1
  have hts := X.2.2.2.2.2.2.1
  refine W.eq (g2 := F0 m 0 ls []) rfl ?_
  unfold T_X2_isMade_0 at hf
  refine lv_iload_n hx hb dX2_isMade_0 rfl (lv_at hl 1 rfl) ?_
  rcases s_ite hf with ⟨c1, hf⟩ | ⟨c1, hf⟩
  · refine lv_if_lt (tgt := 47) hx hb dX2_isMade_1 (by decide) (fun _ => ?_) (fun n => absurd c1 n)
    cases hf
    have k : _ = r := k
    subst k
    refine lv_iconst (v := 0) hx hb dX2_isMade_47 (by decide) ?_
    exact r_iret X I rfl rfl rfl hn dX2_isMade_48
  · refine lv_if_lt (tgt := 47) hx hb dX2_isMade_1 (by decide) (fun n => absurd n c1) (fun _ => ?_)
    obtain ⟨x1, h2, hf⟩ := s_bind hf
    refine lv_iload_n hx hb dX2_isMade_4 rfl (lv_at hl 1 rfl) ?_
    refine lv_aload_n hx hb dX2_isMade_5 rfl (lv_at hl 0 rfl) ?_
    refine r_gi X I fl_X2_39 h2 dX2_isMade_6 ?_
    rcases s_ite hf with ⟨c3, hf⟩ | ⟨c3, hf⟩
    · refine lv_icmp_ge (tgt := 47) hx hb dX2_isMade_9 (by decide) (fun _ => ?_) (fun n => absurd c3 n)
      cases hf
      have k : _ = r := k
      subst k
      refine lv_iconst (v := 0) hx hb dX2_isMade_47 (by decide) ?_
      exact r_iret X I rfl rfl rfl hn dX2_isMade_48
    · refine lv_icmp_ge (tgt := 47) hx hb dX2_isMade_9 (by decide) (fun n => absurd n c3) (fun _ => ?_)
      obtain ⟨x2, h4, hf⟩ := s_bind hf
      obtain ⟨x3, h5, hf⟩ := s_bind hf
      refine lv_aload_n hx hb dX2_isMade_12 rfl (lv_at hl 0 rfl) ?_
      refine r_gr X I fl_X2_11 h4 dX2_isMade_13 ?_
      refine lv_iload_n hx hb dX2_isMade_16 rfl (lv_at hl 1 rfl) ?_
      refine r_iald X I h5 dX2_isMade_17 ?_
      refine lv_iload_n hx hb dX2_isMade_18 rfl (lv_at hl 2 rfl) ?_
      rcases s_ite hf with ⟨c6, hf⟩ | ⟨c6, hf⟩
      · refine lv_icmp_ne (tgt := 47) hx hb dX2_isMade_19 (by decide) (fun n => absurd c6 n) (fun _ => ?_)
        obtain ⟨x4, h7, hf⟩ := s_bind hf
        obtain ⟨x5, h8, hf⟩ := s_bind hf
        refine lv_aload_n hx hb dX2_isMade_22 rfl (lv_at hl 0 rfl) ?_
        refine r_gr X I fl_X2_15 h7 dX2_isMade_23 ?_
        refine lv_iload_n hx hb dX2_isMade_26 rfl (lv_at hl 1 rfl) ?_
        refine r_iald X I h8 dX2_isMade_27 ?_
        refine lv_iload_n hx hb dX2_isMade_28 rfl (lv_at hl 3 rfl) ?_
        rcases s_ite hf with ⟨c9, hf⟩ | ⟨c9, hf⟩
        · refine lv_icmp_ne (tgt := 47) hx hb dX2_isMade_29 (by decide) (fun n => absurd c9 n) (fun _ => ?_)
          obtain ⟨x6, h10, hf⟩ := s_bind hf
          obtain ⟨x7, h11, hf⟩ := s_bind hf
          refine lv_aload_n hx hb dX2_isMade_32 rfl (lv_at hl 0 rfl) ?_
          refine r_gr X I fl_X2_18 h10 dX2_isMade_33 ?_
          refine lv_iload_n hx hb dX2_isMade_36 rfl (lv_at hl 1 rfl) ?_
          refine r_iald X I h11 dX2_isMade_37 ?_
          refine lv_iload hx hb dX2_isMade_38 (lv_at hl 4 rfl) ?_
          rcases s_ite hf with ⟨c12, hf⟩ | ⟨c12, hf⟩
          · refine lv_icmp_ne (tgt := 47) hx hb dX2_isMade_40 (by decide) (fun n => absurd c12 n) (fun _ => ?_)
            cases hf
            have k : _ = r := k
            subst k
            refine lv_iconst (v := 1) hx hb dX2_isMade_43 (by decide) ?_
            refine lv_goto (tgt := 48) hx hb dX2_isMade_44 (by decide) ?_
            exact r_iret X I rfl rfl rfl hn dX2_isMade_48
          · refine lv_icmp_ne (tgt := 47) hx hb dX2_isMade_40 (by decide) (fun _ => ?_) (fun n => absurd n c12)
            cases hf
            have k : _ = r := k
            subst k
            refine lv_iconst (v := 0) hx hb dX2_isMade_47 (by decide) ?_
            exact r_iret X I rfl rfl rfl hn dX2_isMade_48
        · refine lv_icmp_ne (tgt := 47) hx hb dX2_isMade_29 (by decide) (fun _ => ?_) (fun n => absurd n c9)
          cases hf
          have k : _ = r := k
          subst k
          refine lv_iconst (v := 0) hx hb dX2_isMade_47 (by decide) ?_
          exact r_iret X I rfl rfl rfl hn dX2_isMade_48
      · refine lv_icmp_ne (tgt := 47) hx hb dX2_isMade_19 (by decide) (fun _ => ?_) (fun n => absurd n c6)
        cases hf
        have k : _ = r := k
        subst k
        refine lv_iconst (v := 0) hx hb dX2_isMade_47 (by decide) ?_
        exact r_iret X I rfl rfl rfl hn dX2_isMade_48
theorem v_X2_isMade {G : sG} {d : Nat} {vs0 : List Value} {σ0 : sS} {x : sL} {z : sZ Int32} {r : Int32 × sS} (hs : S_X2_isMade x = some z) (k : s_K G (d + 1) M_X2_isMade vs0 σ0 Y_X2_isMade e_I z r) : s_V G (d + 1) M_X2_isMade vs0 σ0 Y_X2_isMade x (e_I r) := by
  obtain ⟨pc, vs, σ⟩ := x
  unfold S_X2_isMade at hs
  dsimp only at hs
  rcases s_ite hs with ⟨c, hs⟩ | ⟨-, hs⟩
  · subst c
    unfold U_X2_isMade_0 at hs
    obtain ⟨a0, g0, hs⟩ := s_bind hs
    obtain ⟨a1, g1, hs⟩ := s_bind hs
    obtain ⟨a2, g2, hs⟩ := s_bind hs
    obtain ⟨a3, g3, hs⟩ := s_bind hs
    obtain ⟨a4, g4, hs⟩ := s_bind hs
    obtain ⟨u9, ge, hs⟩ := s_bind hs
    rw [g_r_to g0, g_i_to g1, g_i_to g2, g_i_to g3, g_i_to g4, g_e_to ge]
    exact v_X2_isMade_0 hs k
  cases hs
theorem t_X2_isMade {G : sG} {d : Nat} {v0 : Nat} {v1 : Int32} {v2 : Int32} {v3 : Int32} {v4 : Int32} {σ : sS} {q : Int32 × sS} (h : F_X2_isMade v0 v1 v2 v3 v4 σ = some q) : s_T G (d + 1) M_X2_isMade [.ref v0, .int v1, .int v2, .int v3, .int v4] σ (e_I q) := by
  unfold F_X2_isMade at h
  obtain ⟨-, -, h⟩ := s_bind h
  exact s_ofV rfl (by decide) (Nat.le_of_ble_eq_true rfl) rfl rfl (s_run_ind (V := fun x r => s_V G (d + 1) M_X2_isMade [.ref v0, .int v1, .int v2, .int v3, .int v4] σ Y_X2_isMade x (e_I r)) (fun x z r hs hk => v_X2_isMade hs (by cases z <;> exact hk)) h)
/-! X4_placeOfIf -/
noncomputable def T_X4_placeOfIf_0 (v0 : Nat) (v1 : Int32) (v2 : Int32) (σ : sS) : Option (sZ Int32) :=
  some (.inl (2, [.ref v0, .int v1, .int v2, .int 0], σ))
noncomputable def U_X4_placeOfIf_0 (vs : List Value) (σ : sS) : Option (sZ Int32) := (g_r vs).bind fun a0 => (g_i a0.2).bind fun a1 => (g_i a1.2).bind fun a2 => (g_e a2.2).bind fun _ => T_X4_placeOfIf_0 a0.1 a1.1 a2.1 σ
noncomputable def T_X4_placeOfIf_2 (v0 : Nat) (v1 : Int32) (v2 : Int32) (v3 : Int32) (σ : sS) : Option (sZ Int32) :=
  (s_fi σ v0 4 8).bind fun x1 =>
  if x1 ≤ v3 then (some (.inr ((-1), σ)))
  else ((s_fr σ v0 4 0).bind fun x2 =>
  (s_fr σ v0 4 2).bind fun x3 =>
  (s_ai σ x3 v3).bind fun x4 =>
  (F_X2_isMade x2 x4 4 v1 v2 σ).bind fun q5 =>
  if q5.1 = 0 then (some (.inl (2, [.ref v0, .int v1, .int v2, .int (v3 + 1)], q5.2)))
  else (some (.inr (v3, q5.2))))
noncomputable def U_X4_placeOfIf_2 (vs : List Value) (σ : sS) : Option (sZ Int32) := (g_r vs).bind fun a0 => (g_i a0.2).bind fun a1 => (g_i a1.2).bind fun a2 => (g_i a2.2).bind fun a3 => (g_e a3.2).bind fun _ => T_X4_placeOfIf_2 a0.1 a1.1 a2.1 a3.1 σ
noncomputable def S_X4_placeOfIf (x : sL) : Option (sZ Int32) := if x.1 = 0 then U_X4_placeOfIf_0 x.2.1 x.2.2 else if x.1 = 2 then U_X4_placeOfIf_2 x.2.1 x.2.2 else none
def Y_X4_placeOfIf (pc : Nat) : List Nat := if pc = 0 then [0, 1, 2] else if pc = 2 then [0, 1, 2, 3] else []
noncomputable def F_X4_placeOfIf (v0 : Nat) (v1 : Int32) (v2 : Int32) (σ : sS) : Option (Int32 × sS) := (s_is σ v0 4).bind fun _ => s_run S_X4_placeOfIf (0, [.ref v0, .int v1, .int v2], σ)
theorem l_X4_placeOfIf_0 {v0 : Nat} {v1 : Int32} {v2 : Int32} {σ : sS} {z : sZ Int32} (hf : T_X4_placeOfIf_0 v0 v1 v2 σ = some z) : s_lz σ z := by
  unfold T_X4_placeOfIf_0 at hf
  cases hf
  exact s_le.rf
theorem l_X4_placeOfIf_2 {v0 : Nat} {v1 : Int32} {v2 : Int32} {v3 : Int32} {σ : sS} {z : sZ Int32} (hf : T_X4_placeOfIf_2 v0 v1 v2 v3 σ = some z) : s_lz σ z := by
  unfold T_X4_placeOfIf_2 at hf
  obtain ⟨x1, -, hf⟩ := s_bind hf
  rcases s_ite hf with ⟨-, hf⟩ | ⟨-, hf⟩
  · cases hf
    exact s_le.rf
  · obtain ⟨x2, -, hf⟩ := s_bind hf
    obtain ⟨x3, -, hf⟩ := s_bind hf
    obtain ⟨x4, -, hf⟩ := s_bind hf
    obtain ⟨q5, hh, hf⟩ := s_bind hf
    refine s_lz.tr (l_X2_isMade hh) ?_
    rcases s_ite hf with ⟨-, hf⟩ | ⟨-, hf⟩
    · cases hf
      exact s_le.rf
    · cases hf
      exact s_le.rf
theorem l_X4_placeOfIf_s {x : sL} {z : sZ Int32} (hs : S_X4_placeOfIf x = some z) : s_lz x.2.2 z := by
  obtain ⟨pc, vs, σ⟩ := x
  unfold S_X4_placeOfIf at hs
  dsimp only at hs ⊢
  rcases s_ite hs with ⟨c, hs⟩ | ⟨-, hs⟩
  · subst c
    unfold U_X4_placeOfIf_0 at hs
    obtain ⟨a0, g0, hs⟩ := s_bind hs
    obtain ⟨a1, g1, hs⟩ := s_bind hs
    obtain ⟨a2, g2, hs⟩ := s_bind hs
    obtain ⟨u9, ge, hs⟩ := s_bind hs
    exact l_X4_placeOfIf_0 hs
  rcases s_ite hs with ⟨c, hs⟩ | ⟨-, hs⟩
  · subst c
    unfold U_X4_placeOfIf_2 at hs
    obtain ⟨a0, g0, hs⟩ := s_bind hs
    obtain ⟨a1, g1, hs⟩ := s_bind hs
    obtain ⟨a2, g2, hs⟩ := s_bind hs
    obtain ⟨a3, g3, hs⟩ := s_bind hs
    obtain ⟨u9, ge, hs⟩ := s_bind hs
    exact l_X4_placeOfIf_2 hs
  cases hs
theorem l_X4_placeOfIf {v0 : Nat} {v1 : Int32} {v2 : Int32} {σ : sS} {q : Int32 × sS} (h : F_X4_placeOfIf v0 v1 v2 σ = some q) : s_le σ q.2 := by
  unfold F_X4_placeOfIf at h
  obtain ⟨-, -, h⟩ := s_bind h
  exact s_run_ind (V := fun x r => s_le x.2.2 r.2) (fun x z r hs hk => by
    have h9 := l_X4_placeOfIf_s hs
    cases z with
    | inl y => exact s_le.tr h9 hk
    | inr q => cases hk; exact h9) h
theorem b_X4_placeOfIf {v0 : Nat} {v1 : Int32} {v2 : Int32} {σ : sS} {q : Int32 × sS} (h : F_X4_placeOfIf v0 v1 v2 σ = some q) : ∃ fs, σ.1 v0 = some (.inr (4, fs)) := by
  unfold F_X4_placeOfIf at h
  obtain ⟨u, hu, -⟩ := s_bind h
  exact s_is_to hu
set_option maxRecDepth 100000 in
set_option maxHeartbeats 4000000 in
theorem v_X4_placeOfIf_0 {G : sG} {d : Nat} {vs0 : List Value} {σ0 : sS} {v0 : Nat} {v1 : Int32} {v2 : Int32} {σ : sS} {z : sZ Int32} {r : Int32 × sS} (hf : T_X4_placeOfIf_0 v0 v1 v2 σ = some z) (k : s_K G (d + 2) M_X4_placeOfIf vs0 σ0 Y_X4_placeOfIf e_I z r) : s_V G (d + 2) M_X4_placeOfIf vs0 σ0 Y_X4_placeOfIf (0, [.ref v0, .int v1, .int v2], σ) (e_I r) := by
  have le0 : s_le σ (e_I r).2 := s_lek hem_I (l_X4_placeOfIf_0 hf) k
  refine ⟨le0, ?_⟩
  intro p e s m below meth c H locs cells slots ls X I hn1 hn2 hl
  have hn : cells + σ0.2.1 ≤ σ.2.1 ∧ slots + σ0.2.2.1 ≤ σ.2.2.1 := ⟨hn1, hn2⟩
  have hl : lv_has ls 4 [(0, .ref v0), (1, .int v1), (2, .int v2)] := hl
  have hx := X.1
  have hb : c.code = cX4_placeOfIf := X.2.1
  have hown : s.vm.findClass RX4 = some m.cls := X.2.2.2.2.2.1
  have hts := X.2.2.2.2.2.2.1
  refine W.eq (g2 := F0 m 0 ls []) rfl ?_
  unfold T_X4_placeOfIf_0 at hf
  cases hf
  have k : s_V G (d + 2) M_X4_placeOfIf vs0 σ0 Y_X4_placeOfIf (2, [.ref v0, .int v1, .int v2, .int 0], σ) (e_I r) := k
  refine lv_iconst (v := 0) hx hb dX4_placeOfIf_0 (by decide) ?_
  refine lv_istore_n (lv' := [(3, .int 0), (0, .ref v0), (1, .int v1), (2, .int v2)]) hx hb dX4_placeOfIf_1 rfl hl (by decide) rfl (fun ls hl => ?_)
  exact k.2 p e s m below meth c _ _ _ _ _ X I hn.1 hn.2 (lv_sub hl [1, 2, 3, 0] rfl)
set_option maxRecDepth 100000 in
set_option maxHeartbeats 4000000 in
theorem v_X4_placeOfIf_2 {G : sG} {d : Nat} {vs0 : List Value} {σ0 : sS} {v0 : Nat} {v1 : Int32} {v2 : Int32} {v3 : Int32} {σ : sS} {z : sZ Int32} {r : Int32 × sS} (hf : T_X4_placeOfIf_2 v0 v1 v2 v3 σ = some z) (k : s_K G (d + 2) M_X4_placeOfIf vs0 σ0 Y_X4_placeOfIf e_I z r) : s_V G (d + 2) M_X4_placeOfIf vs0 σ0 Y_X4_placeOfIf (2, [.ref v0, .int v1, .int v2, .int v3], σ) (e_I r) := by
  have le0 : s_le σ (e_I r).2 := s_lek hem_I (l_X4_placeOfIf_2 hf) k
  refine ⟨le0, ?_⟩
  intro p e s m below meth c H locs cells slots ls X I hn1 hn2 hl
  have hn : cells + σ0.2.1 ≤ σ.2.1 ∧ slots + σ0.2.2.1 ≤ σ.2.2.1 := ⟨hn1, hn2⟩
  have hl : lv_has ls 4 [(0, .ref v0), (1, .int v1), (2, .int v2), (3, .int v3)] := hl
  have hx := X.1
  have hb : c.code = cX4_placeOfIf := X.2.1
  have hown : s.vm.findClass RX4 = some m.cls := X.2.2.2.2.2.1
  have hts := X.2.2.2.2.2.2.1
  refine W.eq (g2 := F0 m 2 ls []) rfl ?_
  unfold T_X4_placeOfIf_2 at hf
  obtain ⟨x1, h1, hf⟩ := s_bind hf
  refine lv_iload_n hx hb dX4_placeOfIf_2 rfl (lv_at hl 3 rfl) ?_
  refine lv_aload_n hx hb dX4_placeOfIf_3 rfl (lv_at hl 0 rfl) ?_
  refine r_gi X I fl_X4_48 h1 dX4_placeOfIf_4 ?_
  rcases s_ite hf with ⟨c2, hf⟩ | ⟨c2, hf⟩
  · refine lv_icmp_ge (tgt := 37) hx hb dX4_placeOfIf_7 (by decide) (fun _ => ?_) (fun n => absurd c2 n)
    cases hf
    have k : _ = r := k
    subst k
    refine lv_iconst (v := (-1)) hx hb dX4_placeOfIf_37 (by decide) ?_
    exact r_iret X I rfl rfl rfl hn dX4_placeOfIf_38
  · refine lv_icmp_ge (tgt := 37) hx hb dX4_placeOfIf_7 (by decide) (fun n => absurd n c2) (fun _ => ?_)
    obtain ⟨x2, h3, hf⟩ := s_bind hf
    obtain ⟨x3, h4, hf⟩ := s_bind hf
    obtain ⟨x4, h5, hf⟩ := s_bind hf
    obtain ⟨q5, h6, hf⟩ := s_bind hf
    have le7 : s_le q5.2 (e_I r).2 := by
      refine s_lek hem_I ?_ k
      rcases s_ite hf with ⟨-, hf⟩ | ⟨-, hf⟩
      · cases hf
        exact s_le.rf
      · cases hf
        exact s_le.rf
    refine lv_aload_n hx hb dX4_placeOfIf_10 rfl (lv_at hl 0 rfl) ?_
    refine r_gr X I fl_X4_30 h3 dX4_placeOfIf_11 ?_
    refine lv_aload_n hx hb dX4_placeOfIf_14 rfl (lv_at hl 0 rfl) ?_
    refine r_gr X I fl_X4_11 h4 dX4_placeOfIf_15 ?_
    refine lv_iload_n hx hb dX4_placeOfIf_18 rfl (lv_at hl 3 rfl) ?_
    refine r_iald X I h5 dX4_placeOfIf_19 ?_
    refine lv_iconst (v := 4) hx hb dX4_placeOfIf_20 (by decide) ?_
    refine lv_iload_n hx hb dX4_placeOfIf_21 rfl (lv_at hl 1 rfl) ?_
    refine lv_iload_n hx hb dX4_placeOfIf_22 rfl (lv_at hl 2 rfl) ?_
    refine r_callV (Y := M_X2_isMade) (v := some (.int q5.1)) X I w_1330 my_X2_isMade (by omega) (t_X2_isMade (G := G) (d := d + 0) h6) (b_X2_isMade h6) rfl rfl hl.1 rfl (Nat.le_of_ble_eq_true rfl) hn le7 dX4_placeOfIf_23 (fun H locs cells slots I hn1 hn2 => ?_)
    have I : s_I G q5.2 s H locs := I
    have hn : cells + σ0.2.1 ≤ q5.2.2.1 ∧ slots + σ0.2.2.1 ≤ q5.2.2.2.1 := ⟨hn1, hn2⟩
    rcases s_ite hf with ⟨c8, hf⟩ | ⟨c8, hf⟩
    · refine lv_if_eq (tgt := 31) hx hb dX4_placeOfIf_26 (by decide) (fun _ => ?_) (fun n => absurd c8 n)
      cases hf
      have k : s_V G (d + 2) M_X4_placeOfIf vs0 σ0 Y_X4_placeOfIf (2, [.ref v0, .int v1, .int v2, .int (v3 + 1)], q5.2) (e_I r) := k
      refine lv_iinc (v := (v3 + 1)) (lv' := [(3, .int (v3 + 1)), (0, .ref v0), (1, .int v1), (2, .int v2)]) hx hb dX4_placeOfIf_31 hl (k := 3) rfl rfl (by decide) rfl (fun ls hl => ?_)
      refine lv_goto (tgt := 2) hx hb dX4_placeOfIf_34 (by decide) ?_
      exact k.2 p e s m below meth c _ _ _ _ _ X I hn.1 hn.2 (lv_sub hl [1, 2, 3, 0] rfl)
    · refine lv_if_eq (tgt := 31) hx hb dX4_placeOfIf_26 (by decide) (fun n => absurd n c8) (fun _ => ?_)
      cases hf
      have k : _ = r := k
      subst k
      refine lv_iload_n hx hb dX4_placeOfIf_29 rfl (lv_at hl 3 rfl) ?_
      exact r_iret X I rfl rfl rfl hn dX4_placeOfIf_30
theorem v_X4_placeOfIf {G : sG} {d : Nat} {vs0 : List Value} {σ0 : sS} {x : sL} {z : sZ Int32} {r : Int32 × sS} (hs : S_X4_placeOfIf x = some z) (k : s_K G (d + 2) M_X4_placeOfIf vs0 σ0 Y_X4_placeOfIf e_I z r) : s_V G (d + 2) M_X4_placeOfIf vs0 σ0 Y_X4_placeOfIf x (e_I r) := by
  obtain ⟨pc, vs, σ⟩ := x
  unfold S_X4_placeOfIf at hs
  dsimp only at hs
  rcases s_ite hs with ⟨c, hs⟩ | ⟨-, hs⟩
  · subst c
    unfold U_X4_placeOfIf_0 at hs
    obtain ⟨a0, g0, hs⟩ := s_bind hs
    obtain ⟨a1, g1, hs⟩ := s_bind hs
    obtain ⟨a2, g2, hs⟩ := s_bind hs
    obtain ⟨u9, ge, hs⟩ := s_bind hs
    rw [g_r_to g0, g_i_to g1, g_i_to g2, g_e_to ge]
    exact v_X4_placeOfIf_0 hs k
  rcases s_ite hs with ⟨c, hs⟩ | ⟨-, hs⟩
  · subst c
    unfold U_X4_placeOfIf_2 at hs
    obtain ⟨a0, g0, hs⟩ := s_bind hs
    obtain ⟨a1, g1, hs⟩ := s_bind hs
    obtain ⟨a2, g2, hs⟩ := s_bind hs
    obtain ⟨a3, g3, hs⟩ := s_bind hs
    obtain ⟨u9, ge, hs⟩ := s_bind hs
    rw [g_r_to g0, g_i_to g1, g_i_to g2, g_i_to g3, g_e_to ge]
    exact v_X4_placeOfIf_2 hs k
  cases hs
theorem t_X4_placeOfIf {G : sG} {d : Nat} {v0 : Nat} {v1 : Int32} {v2 : Int32} {σ : sS} {q : Int32 × sS} (h : F_X4_placeOfIf v0 v1 v2 σ = some q) : s_T G (d + 2) M_X4_placeOfIf [.ref v0, .int v1, .int v2] σ (e_I q) := by
  unfold F_X4_placeOfIf at h
  obtain ⟨-, -, h⟩ := s_bind h
  exact s_ofV rfl (by decide) (Nat.le_of_ble_eq_true rfl) rfl rfl (s_run_ind (V := fun x r => s_V G (d + 2) M_X4_placeOfIf [.ref v0, .int v1, .int v2] σ Y_X4_placeOfIf x (e_I r)) (fun x z r hs hk => v_X4_placeOfIf hs (by cases z <;> exact hk)) h)
/-! X4_listOrSteps -/
noncomputable def T_X4_listOrSteps_0 (v0 : Nat) (v1 : Int32) (v2 : Int32) (v3 : Int32) (σ : sS) : Option (sZ Unit) :=
  if v2 = (-1) then (some (.inl (14, [.ref v0, .int v1, .int v3], σ)))
  else ((F_X4_addStep v0 5 v1 v2 (-1) (-1) σ).bind fun q1 =>
  some (.inl (14, [.ref v0, .int v1, .int v3], q1.2)))
noncomputable def U_X4_listOrSteps_0 (vs : List Value) (σ : sS) : Option (sZ Unit) := (g_r vs).bind fun a0 => (g_i a0.2).bind fun a1 => (g_i a1.2).bind fun a2 => (g_i a2.2).bind fun a3 => (g_e a3.2).bind fun _ => T_X4_listOrSteps_0 a0.1 a1.1 a2.1 a3.1 σ
noncomputable def T_X4_listOrSteps_14 (v0 : Nat) (v1 : Int32) (v3 : Int32) (σ : sS) : Option (sZ Unit) :=
  if v3 = (-1) then (some (.inl (29, [.ref v0, .int v1], σ)))
  else ((F_X4_addStep v0 6 v1 v3 (-1) (-1) σ).bind fun q1 =>
  some (.inl (29, [.ref v0, .int v1], q1.2)))
noncomputable def U_X4_listOrSteps_14 (vs : List Value) (σ : sS) : Option (sZ Unit) := (g_r vs).bind fun a0 => (g_i a0.2).bind fun a1 => (g_i a1.2).bind fun a2 => (g_e a2.2).bind fun _ => T_X4_listOrSteps_14 a0.1 a1.1 a2.1 σ
noncomputable def T_X4_listOrSteps_29 (v0 : Nat) (v1 : Int32) (σ : sS) : Option (sZ Unit) :=
  (s_fr σ v0 4 0).bind fun x1 =>
  (s_fr σ v0 4 2).bind fun x2 =>
  (s_ai σ x2 v1).bind fun x3 =>
  (F_X2_firstOf x1 x3 σ).bind fun q4 =>
  (s_fr q4.2 v0 4 0).bind fun x5 =>
  (s_fr q4.2 v0 4 2).bind fun x6 =>
  (s_ai q4.2 x6 v1).bind fun x7 =>
  (F_X2_secondOf x5 x7 q4.2).bind fun q8 =>
  some (.inl (62, [.ref v0, .int v1, .int q4.1, .int q8.1, .int 0], q8.2))
noncomputable def U_X4_listOrSteps_29 (vs : List Value) (σ : sS) : Option (sZ Unit) := (g_r vs).bind fun a0 => (g_i a0.2).bind fun a1 => (g_e a1.2).bind fun _ => T_X4_listOrSteps_29 a0.1 a1.1 σ
noncomputable def T_X4_listOrSteps_62 (v0 : Nat) (v1 : Int32) (v4 : Int32) (v5 : Int32) (v6 : Int32) (σ : sS) : Option (sZ Unit) :=
  (s_fi σ v0 4 8).bind fun x1 =>
  if x1 ≤ v6 then (some (.inr ((), σ)))
  else ((s_fr σ v0 4 2).bind fun x2 =>
  (s_ai σ x2 v6).bind fun x3 =>
  (s_fr σ v0 4 0).bind fun x4 =>
  (F_X2_kindOf x4 x3 σ).bind fun q5 =>
  if q5.1 = 4 then ((s_fr q5.2 v0 4 0).bind fun x6 =>
  (F_X2_firstOf x6 x3 q5.2).bind fun q7 =>
  if q7.1 = v4 then ((s_fr q7.2 v0 4 0).bind fun x8 =>
  (F_X2_secondOf x8 x3 q7.2).bind fun q9 =>
  (F_X4_placeOfIf v0 v5 q9.1 q9.2).bind fun q10 =>
  if q10.1 = (-1) then (some (.inl (151, [.ref v0, .int v1, .int v4, .int v5, .int v6], q10.2)))
  else ((F_X4_placeOf v0 q9.1 q10.2).bind fun q11 =>
  (F_X4_addStep v0 9 q11.1 v1 v6 q10.1 q11.2).bind fun q12 =>
  some (.inl (151, [.ref v0, .int v1, .int v4, .int v5, .int v6], q12.2))))
  else (some (.inl (151, [.ref v0, .int v1, .int v4, .int v5, .int v6], q7.2))))
  else (some (.inl (151, [.ref v0, .int v1, .int v4, .int v5, .int v6], q5.2))))
noncomputable def U_X4_listOrSteps_62 (vs : List Value) (σ : sS) : Option (sZ Unit) := (g_r vs).bind fun a0 => (g_i a0.2).bind fun a1 => (g_i a1.2).bind fun a2 => (g_i a2.2).bind fun a3 => (g_i a3.2).bind fun a4 => (g_e a4.2).bind fun _ => T_X4_listOrSteps_62 a0.1 a1.1 a2.1 a3.1 a4.1 σ
noncomputable def T_X4_listOrSteps_151 (v0 : Nat) (v1 : Int32) (v4 : Int32) (v5 : Int32) (v6 : Int32) (σ : sS) : Option (sZ Unit) :=
  some (.inl (62, [.ref v0, .int v1, .int v4, .int v5, .int (v6 + 1)], σ))
noncomputable def U_X4_listOrSteps_151 (vs : List Value) (σ : sS) : Option (sZ Unit) := (g_r vs).bind fun a0 => (g_i a0.2).bind fun a1 => (g_i a1.2).bind fun a2 => (g_i a2.2).bind fun a3 => (g_i a3.2).bind fun a4 => (g_e a4.2).bind fun _ => T_X4_listOrSteps_151 a0.1 a1.1 a2.1 a3.1 a4.1 σ
noncomputable def S_X4_listOrSteps (x : sL) : Option (sZ Unit) := if x.1 = 0 then U_X4_listOrSteps_0 x.2.1 x.2.2 else if x.1 = 14 then U_X4_listOrSteps_14 x.2.1 x.2.2 else if x.1 = 29 then U_X4_listOrSteps_29 x.2.1 x.2.2 else if x.1 = 62 then U_X4_listOrSteps_62 x.2.1 x.2.2 else if x.1 = 151 then U_X4_listOrSteps_151 x.2.1 x.2.2 else none
def Y_X4_listOrSteps (pc : Nat) : List Nat := if pc = 0 then [0, 1, 2, 3] else if pc = 14 then [0, 1, 3] else if pc = 29 then [0, 1] else if pc = 62 then [0, 1, 4, 5, 6] else if pc = 151 then [0, 1, 4, 5, 6] else []
noncomputable def F_X4_listOrSteps (v0 : Nat) (v1 : Int32) (v2 : Int32) (v3 : Int32) (σ : sS) : Option (Unit × sS) := (s_is σ v0 4).bind fun _ => s_run S_X4_listOrSteps (0, [.ref v0, .int v1, .int v2, .int v3], σ)
theorem l_X4_listOrSteps_0 {v0 : Nat} {v1 : Int32} {v2 : Int32} {v3 : Int32} {σ : sS} {z : sZ Unit} (hf : T_X4_listOrSteps_0 v0 v1 v2 v3 σ = some z) : s_lz σ z := by
  unfold T_X4_listOrSteps_0 at hf
  rcases s_ite hf with ⟨-, hf⟩ | ⟨-, hf⟩
  · cases hf
    exact s_le.rf
  · obtain ⟨q1, hh, hf⟩ := s_bind hf
    refine s_lz.tr (l_X4_addStep hh) ?_
    cases hf
    exact s_le.rf
theorem l_X4_listOrSteps_14 {v0 : Nat} {v1 : Int32} {v3 : Int32} {σ : sS} {z : sZ Unit} (hf : T_X4_listOrSteps_14 v0 v1 v3 σ = some z) : s_lz σ z := by
  unfold T_X4_listOrSteps_14 at hf
  rcases s_ite hf with ⟨-, hf⟩ | ⟨-, hf⟩
  · cases hf
    exact s_le.rf
  · obtain ⟨q1, hh, hf⟩ := s_bind hf
    refine s_lz.tr (l_X4_addStep hh) ?_
    cases hf
    exact s_le.rf
theorem l_X4_listOrSteps_29 {v0 : Nat} {v1 : Int32} {σ : sS} {z : sZ Unit} (hf : T_X4_listOrSteps_29 v0 v1 σ = some z) : s_lz σ z := by
  unfold T_X4_listOrSteps_29 at hf
  obtain ⟨x1, -, hf⟩ := s_bind hf
  obtain ⟨x2, -, hf⟩ := s_bind hf
  obtain ⟨x3, -, hf⟩ := s_bind hf
  obtain ⟨q4, hh, hf⟩ := s_bind hf
  refine s_lz.tr (l_X2_firstOf hh) ?_
  obtain ⟨x5, -, hf⟩ := s_bind hf
  obtain ⟨x6, -, hf⟩ := s_bind hf
  obtain ⟨x7, -, hf⟩ := s_bind hf
  obtain ⟨q8, hh, hf⟩ := s_bind hf
  refine s_lz.tr (l_X2_secondOf hh) ?_
  cases hf
  exact s_le.rf
theorem l_X4_listOrSteps_62 {v0 : Nat} {v1 : Int32} {v4 : Int32} {v5 : Int32} {v6 : Int32} {σ : sS} {z : sZ Unit} (hf : T_X4_listOrSteps_62 v0 v1 v4 v5 v6 σ = some z) : s_lz σ z := by
  unfold T_X4_listOrSteps_62 at hf
  obtain ⟨x1, -, hf⟩ := s_bind hf
  rcases s_ite hf with ⟨-, hf⟩ | ⟨-, hf⟩
  · cases hf
    exact s_le.rf
  · obtain ⟨x2, -, hf⟩ := s_bind hf
    obtain ⟨x3, -, hf⟩ := s_bind hf
    obtain ⟨x4, -, hf⟩ := s_bind hf
    obtain ⟨q5, hh, hf⟩ := s_bind hf
    refine s_lz.tr (l_X2_kindOf hh) ?_
    rcases s_ite hf with ⟨-, hf⟩ | ⟨-, hf⟩
    · obtain ⟨x6, -, hf⟩ := s_bind hf
      obtain ⟨q7, hh, hf⟩ := s_bind hf
      refine s_lz.tr (l_X2_firstOf hh) ?_
      rcases s_ite hf with ⟨-, hf⟩ | ⟨-, hf⟩
      · obtain ⟨x8, -, hf⟩ := s_bind hf
        obtain ⟨q9, hh, hf⟩ := s_bind hf
        refine s_lz.tr (l_X2_secondOf hh) ?_
        obtain ⟨q10, hh, hf⟩ := s_bind hf
        refine s_lz.tr (l_X4_placeOfIf hh) ?_
        rcases s_ite hf with ⟨-, hf⟩ | ⟨-, hf⟩
        · cases hf
          exact s_le.rf
        · obtain ⟨q11, hh, hf⟩ := s_bind hf
          refine s_lz.tr (l_X4_placeOf hh) ?_
          obtain ⟨q12, hh, hf⟩ := s_bind hf
          refine s_lz.tr (l_X4_addStep hh) ?_
          cases hf
          exact s_le.rf
      · cases hf
        exact s_le.rf
    · cases hf
      exact s_le.rf
theorem l_X4_listOrSteps_151 {v0 : Nat} {v1 : Int32} {v4 : Int32} {v5 : Int32} {v6 : Int32} {σ : sS} {z : sZ Unit} (hf : T_X4_listOrSteps_151 v0 v1 v4 v5 v6 σ = some z) : s_lz σ z := by
  unfold T_X4_listOrSteps_151 at hf
  cases hf
  exact s_le.rf
theorem l_X4_listOrSteps_s {x : sL} {z : sZ Unit} (hs : S_X4_listOrSteps x = some z) : s_lz x.2.2 z := by
  obtain ⟨pc, vs, σ⟩ := x
  unfold S_X4_listOrSteps at hs
  dsimp only at hs ⊢
  rcases s_ite hs with ⟨c, hs⟩ | ⟨-, hs⟩
  · subst c
    unfold U_X4_listOrSteps_0 at hs
    obtain ⟨a0, g0, hs⟩ := s_bind hs
    obtain ⟨a1, g1, hs⟩ := s_bind hs
    obtain ⟨a2, g2, hs⟩ := s_bind hs
    obtain ⟨a3, g3, hs⟩ := s_bind hs
    obtain ⟨u9, ge, hs⟩ := s_bind hs
    exact l_X4_listOrSteps_0 hs
  rcases s_ite hs with ⟨c, hs⟩ | ⟨-, hs⟩
  · subst c
    unfold U_X4_listOrSteps_14 at hs
    obtain ⟨a0, g0, hs⟩ := s_bind hs
    obtain ⟨a1, g1, hs⟩ := s_bind hs
    obtain ⟨a2, g2, hs⟩ := s_bind hs
    obtain ⟨u9, ge, hs⟩ := s_bind hs
    exact l_X4_listOrSteps_14 hs
  rcases s_ite hs with ⟨c, hs⟩ | ⟨-, hs⟩
  · subst c
    unfold U_X4_listOrSteps_29 at hs
    obtain ⟨a0, g0, hs⟩ := s_bind hs
    obtain ⟨a1, g1, hs⟩ := s_bind hs
    obtain ⟨u9, ge, hs⟩ := s_bind hs
    exact l_X4_listOrSteps_29 hs
  rcases s_ite hs with ⟨c, hs⟩ | ⟨-, hs⟩
  · subst c
    unfold U_X4_listOrSteps_62 at hs
    obtain ⟨a0, g0, hs⟩ := s_bind hs
    obtain ⟨a1, g1, hs⟩ := s_bind hs
    obtain ⟨a2, g2, hs⟩ := s_bind hs
    obtain ⟨a3, g3, hs⟩ := s_bind hs
    obtain ⟨a4, g4, hs⟩ := s_bind hs
    obtain ⟨u9, ge, hs⟩ := s_bind hs
    exact l_X4_listOrSteps_62 hs
  rcases s_ite hs with ⟨c, hs⟩ | ⟨-, hs⟩
  · subst c
    unfold U_X4_listOrSteps_151 at hs
    obtain ⟨a0, g0, hs⟩ := s_bind hs
    obtain ⟨a1, g1, hs⟩ := s_bind hs
    obtain ⟨a2, g2, hs⟩ := s_bind hs
    obtain ⟨a3, g3, hs⟩ := s_bind hs
    obtain ⟨a4, g4, hs⟩ := s_bind hs
    obtain ⟨u9, ge, hs⟩ := s_bind hs
    exact l_X4_listOrSteps_151 hs
  cases hs
theorem l_X4_listOrSteps {v0 : Nat} {v1 : Int32} {v2 : Int32} {v3 : Int32} {σ : sS} {q : Unit × sS} (h : F_X4_listOrSteps v0 v1 v2 v3 σ = some q) : s_le σ q.2 := by
  unfold F_X4_listOrSteps at h
  obtain ⟨-, -, h⟩ := s_bind h
  exact s_run_ind (V := fun x r => s_le x.2.2 r.2) (fun x z r hs hk => by
    have h9 := l_X4_listOrSteps_s hs
    cases z with
    | inl y => exact s_le.tr h9 hk
    | inr q => cases hk; exact h9) h
theorem b_X4_listOrSteps {v0 : Nat} {v1 : Int32} {v2 : Int32} {v3 : Int32} {σ : sS} {q : Unit × sS} (h : F_X4_listOrSteps v0 v1 v2 v3 σ = some q) : ∃ fs, σ.1 v0 = some (.inr (4, fs)) := by
  unfold F_X4_listOrSteps at h
  obtain ⟨u, hu, -⟩ := s_bind h
  exact s_is_to hu
set_option maxRecDepth 100000 in
set_option maxHeartbeats 4000000 in
theorem v_X4_listOrSteps_0 {G : sG} {d : Nat} {vs0 : List Value} {σ0 : sS} {v0 : Nat} {v1 : Int32} {v2 : Int32} {v3 : Int32} {σ : sS} {z : sZ Unit} {r : Unit × sS} (hf : T_X4_listOrSteps_0 v0 v1 v2 v3 σ = some z) (k : s_K G (d + 3) M_X4_listOrSteps vs0 σ0 Y_X4_listOrSteps e_V z r) : s_V G (d + 3) M_X4_listOrSteps vs0 σ0 Y_X4_listOrSteps (0, [.ref v0, .int v1, .int v2, .int v3], σ) (e_V r) := by
  have le0 : s_le σ (e_V r).2 := s_lek hem_V (l_X4_listOrSteps_0 hf) k
  refine ⟨le0, ?_⟩
  intro p e s m below meth c H locs cells slots ls X I hn1 hn2 hl
  have hn : cells + σ0.2.1 ≤ σ.2.1 ∧ slots + σ0.2.2.1 ≤ σ.2.2.1 := ⟨hn1, hn2⟩
  have hl : lv_has ls 10 [(0, .ref v0), (1, .int v1), (2, .int v2), (3, .int v3)] := hl
  have hx := X.1
  have hb : c.code = cX4_listOrSteps := X.2.1
  have hown : s.vm.findClass RX4 = some m.cls := X.2.2.2.2.2.1
  have hts := X.2.2.2.2.2.2.1
  refine W.eq (g2 := F0 m 0 ls []) rfl ?_
  unfold T_X4_listOrSteps_0 at hf
  refine lv_iload_n hx hb dX4_listOrSteps_0 rfl (lv_at hl 2 rfl) ?_
  refine lv_iconst (v := (-1)) hx hb dX4_listOrSteps_1 (by decide) ?_
  rcases s_ite hf with ⟨c1, hf⟩ | ⟨c1, hf⟩
  · refine lv_icmp_eq (tgt := 14) hx hb dX4_listOrSteps_2 (by decide) (fun _ => ?_) (fun n => absurd c1 n)
    cases hf
    have k : s_V G (d + 3) M_X4_listOrSteps vs0 σ0 Y_X4_listOrSteps (14, [.ref v0, .int v1, .int v3], σ) (e_V r) := k
    exact k.2 p e s m below meth c _ _ _ _ _ X I hn.1 hn.2 (lv_sub hl [0, 1, 3] rfl)
  · refine lv_icmp_eq (tgt := 14) hx hb dX4_listOrSteps_2 (by decide) (fun n => absurd n c1) (fun _ => ?_)
    obtain ⟨q1, h2, hf⟩ := s_bind hf
    cases hf
    have k : s_V G (d + 3) M_X4_listOrSteps vs0 σ0 Y_X4_listOrSteps (14, [.ref v0, .int v1, .int v3], q1.2) (e_V r) := k
    have le3 : s_le q1.2 (e_V r).2 := k.1
    refine lv_aload_n hx hb dX4_listOrSteps_5 rfl (lv_at hl 0 rfl) ?_
    refine lv_iconst (v := 5) hx hb dX4_listOrSteps_6 (by decide) ?_
    refine lv_iload_n hx hb dX4_listOrSteps_7 rfl (lv_at hl 1 rfl) ?_
    refine lv_iload_n hx hb dX4_listOrSteps_8 rfl (lv_at hl 2 rfl) ?_
    refine lv_iconst (v := (-1)) hx hb dX4_listOrSteps_9 (by decide) ?_
    refine lv_iconst (v := (-1)) hx hb dX4_listOrSteps_10 (by decide) ?_
    refine r_callV (Y := M_X4_addStep) (v := none) X I w_1314 my_X4_addStep (by omega) (t_X4_addStep (G := G) (d := d + 1) h2) (b_X4_addStep h2) rfl rfl hl.1 rfl (Nat.le_of_ble_eq_true rfl) hn le3 dX4_listOrSteps_11 (fun H locs cells slots I hn1 hn2 => ?_)
    have I : s_I G q1.2 s H locs := I
    have hn : cells + σ0.2.1 ≤ q1.2.2.1 ∧ slots + σ0.2.2.1 ≤ q1.2.2.2.1 := ⟨hn1, hn2⟩
    exact k.2 p e s m below meth c _ _ _ _ _ X I hn.1 hn.2 (lv_sub hl [0, 1, 3] rfl)
set_option maxRecDepth 100000 in
set_option maxHeartbeats 4000000 in
theorem v_X4_listOrSteps_14 {G : sG} {d : Nat} {vs0 : List Value} {σ0 : sS} {v0 : Nat} {v1 : Int32} {v3 : Int32} {σ : sS} {z : sZ Unit} {r : Unit × sS} (hf : T_X4_listOrSteps_14 v0 v1 v3 σ = some z) (k : s_K G (d + 3) M_X4_listOrSteps vs0 σ0 Y_X4_listOrSteps e_V z r) : s_V G (d + 3) M_X4_listOrSteps vs0 σ0 Y_X4_listOrSteps (14, [.ref v0, .int v1, .int v3], σ) (e_V r) := by
  have le0 : s_le σ (e_V r).2 := s_lek hem_V (l_X4_listOrSteps_14 hf) k
  refine ⟨le0, ?_⟩
  intro p e s m below meth c H locs cells slots ls X I hn1 hn2 hl
  have hn : cells + σ0.2.1 ≤ σ.2.1 ∧ slots + σ0.2.2.1 ≤ σ.2.2.1 := ⟨hn1, hn2⟩
  have hl : lv_has ls 10 [(0, .ref v0), (1, .int v1), (3, .int v3)] := hl
  have hx := X.1
  have hb : c.code = cX4_listOrSteps := X.2.1
  have hown : s.vm.findClass RX4 = some m.cls := X.2.2.2.2.2.1
  have hts := X.2.2.2.2.2.2.1
  refine W.eq (g2 := F0 m 14 ls []) rfl ?_
  unfold T_X4_listOrSteps_14 at hf
  refine lv_iload_n hx hb dX4_listOrSteps_14 rfl (lv_at hl 2 rfl) ?_
  refine lv_iconst (v := (-1)) hx hb dX4_listOrSteps_15 (by decide) ?_
  rcases s_ite hf with ⟨c1, hf⟩ | ⟨c1, hf⟩
  · refine lv_icmp_eq (tgt := 29) hx hb dX4_listOrSteps_16 (by decide) (fun _ => ?_) (fun n => absurd c1 n)
    cases hf
    have k : s_V G (d + 3) M_X4_listOrSteps vs0 σ0 Y_X4_listOrSteps (29, [.ref v0, .int v1], σ) (e_V r) := k
    exact k.2 p e s m below meth c _ _ _ _ _ X I hn.1 hn.2 (lv_sub hl [0, 1] rfl)
  · refine lv_icmp_eq (tgt := 29) hx hb dX4_listOrSteps_16 (by decide) (fun n => absurd n c1) (fun _ => ?_)
    obtain ⟨q1, h2, hf⟩ := s_bind hf
    cases hf
    have k : s_V G (d + 3) M_X4_listOrSteps vs0 σ0 Y_X4_listOrSteps (29, [.ref v0, .int v1], q1.2) (e_V r) := k
    have le3 : s_le q1.2 (e_V r).2 := k.1
    refine lv_aload_n hx hb dX4_listOrSteps_19 rfl (lv_at hl 0 rfl) ?_
    refine lv_bipush (v := 6) hx hb dX4_listOrSteps_20 (by decide) ?_
    refine lv_iload_n hx hb dX4_listOrSteps_22 rfl (lv_at hl 1 rfl) ?_
    refine lv_iload_n hx hb dX4_listOrSteps_23 rfl (lv_at hl 2 rfl) ?_
    refine lv_iconst (v := (-1)) hx hb dX4_listOrSteps_24 (by decide) ?_
    refine lv_iconst (v := (-1)) hx hb dX4_listOrSteps_25 (by decide) ?_
    refine r_callV (Y := M_X4_addStep) (v := none) X I w_1314 my_X4_addStep (by omega) (t_X4_addStep (G := G) (d := d + 1) h2) (b_X4_addStep h2) rfl rfl hl.1 rfl (Nat.le_of_ble_eq_true rfl) hn le3 dX4_listOrSteps_26 (fun H locs cells slots I hn1 hn2 => ?_)
    have I : s_I G q1.2 s H locs := I
    have hn : cells + σ0.2.1 ≤ q1.2.2.1 ∧ slots + σ0.2.2.1 ≤ q1.2.2.2.1 := ⟨hn1, hn2⟩
    exact k.2 p e s m below meth c _ _ _ _ _ X I hn.1 hn.2 (lv_sub hl [0, 1] rfl)
set_option maxRecDepth 100000 in
set_option maxHeartbeats 4000000 in
theorem v_X4_listOrSteps_29 {G : sG} {d : Nat} {vs0 : List Value} {σ0 : sS} {v0 : Nat} {v1 : Int32} {σ : sS} {z : sZ Unit} {r : Unit × sS} (hf : T_X4_listOrSteps_29 v0 v1 σ = some z) (k : s_K G (d + 3) M_X4_listOrSteps vs0 σ0 Y_X4_listOrSteps e_V z r) : s_V G (d + 3) M_X4_listOrSteps vs0 σ0 Y_X4_listOrSteps (29, [.ref v0, .int v1], σ) (e_V r) := by
  have le0 : s_le σ (e_V r).2 := s_lek hem_V (l_X4_listOrSteps_29 hf) k
  refine ⟨le0, ?_⟩
  intro p e s m below meth c H locs cells slots ls X I hn1 hn2 hl
  have hn : cells + σ0.2.1 ≤ σ.2.1 ∧ slots + σ0.2.2.1 ≤ σ.2.2.1 := ⟨hn1, hn2⟩
  have hl : lv_has ls 10 [(0, .ref v0), (1, .int v1)] := hl
  have hx := X.1
  have hb : c.code = cX4_listOrSteps := X.2.1
  have hown : s.vm.findClass RX4 = some m.cls := X.2.2.2.2.2.1
  have hts := X.2.2.2.2.2.2.1
  refine W.eq (g2 := F0 m 29 ls []) rfl ?_
  unfold T_X4_listOrSteps_29 at hf
  obtain ⟨x1, h1, hf⟩ := s_bind hf
  obtain ⟨x2, h2, hf⟩ := s_bind hf
  obtain ⟨x3, h3, hf⟩ := s_bind hf
  obtain ⟨q4, h4, hf⟩ := s_bind hf
  obtain ⟨x5, h5, hf⟩ := s_bind hf
  obtain ⟨x6, h6, hf⟩ := s_bind hf
  obtain ⟨x7, h7, hf⟩ := s_bind hf
  obtain ⟨q8, h8, hf⟩ := s_bind hf
  cases hf
  have k : s_V G (d + 3) M_X4_listOrSteps vs0 σ0 Y_X4_listOrSteps (62, [.ref v0, .int v1, .int q4.1, .int q8.1, .int 0], q8.2) (e_V r) := k
  have le9 : s_le q8.2 (e_V r).2 := k.1
  have le10 := s_le.tr (l_X2_secondOf h8) le9
  refine lv_aload_n hx hb dX4_listOrSteps_29 rfl (lv_at hl 0 rfl) ?_
  refine r_gr X I fl_X4_30 h1 dX4_listOrSteps_30 ?_
  refine lv_aload_n hx hb dX4_listOrSteps_33 rfl (lv_at hl 0 rfl) ?_
  refine r_gr X I fl_X4_11 h2 dX4_listOrSteps_34 ?_
  refine lv_iload_n hx hb dX4_listOrSteps_37 rfl (lv_at hl 1 rfl) ?_
  refine r_iald X I h3 dX4_listOrSteps_38 ?_
  refine r_callV (Y := M_X2_firstOf) (v := some (.int q4.1)) X I w_1299 my_X2_firstOf (by omega) (t_X2_firstOf (G := G) (d := d + 1) h4) (b_X2_firstOf h4) rfl rfl hl.1 rfl (Nat.le_of_ble_eq_true rfl) hn le10 dX4_listOrSteps_39 (fun H locs cells slots I hn1 hn2 => ?_)
  have I : s_I G q4.2 s H locs := I
  have hn : cells + σ0.2.1 ≤ q4.2.2.1 ∧ slots + σ0.2.2.1 ≤ q4.2.2.2.1 := ⟨hn1, hn2⟩
  refine lv_istore (lv' := [(4, .int q4.1), (0, .ref v0), (1, .int v1)]) hx hb dX4_listOrSteps_42 hl (by decide) rfl (fun ls hl => ?_)
  refine lv_aload_n hx hb dX4_listOrSteps_44 rfl (lv_at hl 1 rfl) ?_
  refine r_gr X I fl_X4_30 h5 dX4_listOrSteps_45 ?_
  refine lv_aload_n hx hb dX4_listOrSteps_48 rfl (lv_at hl 1 rfl) ?_
  refine r_gr X I fl_X4_11 h6 dX4_listOrSteps_49 ?_
  refine lv_iload_n hx hb dX4_listOrSteps_52 rfl (lv_at hl 2 rfl) ?_
  refine r_iald X I h7 dX4_listOrSteps_53 ?_
  refine r_callV (Y := M_X2_secondOf) (v := some (.int q8.1)) X I w_1300 my_X2_secondOf (by omega) (t_X2_secondOf (G := G) (d := d + 1) h8) (b_X2_secondOf h8) rfl rfl hl.1 rfl (Nat.le_of_ble_eq_true rfl) hn le9 dX4_listOrSteps_54 (fun H locs cells slots I hn1 hn2 => ?_)
  have I : s_I G q8.2 s H locs := I
  have hn : cells + σ0.2.1 ≤ q8.2.2.1 ∧ slots + σ0.2.2.1 ≤ q8.2.2.2.1 := ⟨hn1, hn2⟩
  refine lv_istore (lv' := [(5, .int q8.1), (4, .int q4.1), (0, .ref v0), (1, .int v1)]) hx hb dX4_listOrSteps_57 hl (by decide) rfl (fun ls hl => ?_)
  refine lv_iconst (v := 0) hx hb dX4_listOrSteps_59 (by decide) ?_
  refine lv_istore (lv' := [(6, .int 0), (5, .int q8.1), (4, .int q4.1), (0, .ref v0), (1, .int v1)]) hx hb dX4_listOrSteps_60 hl (by decide) rfl (fun ls hl => ?_)
  exact k.2 p e s m below meth c _ _ _ _ _ X I hn.1 hn.2 (lv_sub hl [3, 4, 2, 1, 0] rfl)
set_option maxRecDepth 100000 in
set_option maxHeartbeats 4000000 in
theorem v_X4_listOrSteps_62 {G : sG} {d : Nat} {vs0 : List Value} {σ0 : sS} {v0 : Nat} {v1 : Int32} {v4 : Int32} {v5 : Int32} {v6 : Int32} {σ : sS} {z : sZ Unit} {r : Unit × sS} (hf : T_X4_listOrSteps_62 v0 v1 v4 v5 v6 σ = some z) (k : s_K G (d + 3) M_X4_listOrSteps vs0 σ0 Y_X4_listOrSteps e_V z r) : s_V G (d + 3) M_X4_listOrSteps vs0 σ0 Y_X4_listOrSteps (62, [.ref v0, .int v1, .int v4, .int v5, .int v6], σ) (e_V r) := by
  have le0 : s_le σ (e_V r).2 := s_lek hem_V (l_X4_listOrSteps_62 hf) k
  refine ⟨le0, ?_⟩
  intro p e s m below meth c H locs cells slots ls X I hn1 hn2 hl
  have hn : cells + σ0.2.1 ≤ σ.2.1 ∧ slots + σ0.2.2.1 ≤ σ.2.2.1 := ⟨hn1, hn2⟩
  have hl : lv_has ls 10 [(0, .ref v0), (1, .int v1), (4, .int v4), (5, .int v5), (6, .int v6)] := hl
  have hx := X.1
  have hb : c.code = cX4_listOrSteps := X.2.1
  have hown : s.vm.findClass RX4 = some m.cls := X.2.2.2.2.2.1
  have hts := X.2.2.2.2.2.2.1
  refine W.eq (g2 := F0 m 62 ls []) rfl ?_
  unfold T_X4_listOrSteps_62 at hf
  obtain ⟨x1, h1, hf⟩ := s_bind hf
  refine lv_iload hx hb dX4_listOrSteps_62 (lv_at hl 4 rfl) ?_
  refine lv_aload_n hx hb dX4_listOrSteps_64 rfl (lv_at hl 0 rfl) ?_
  refine r_gi X I fl_X4_48 h1 dX4_listOrSteps_65 ?_
  rcases s_ite hf with ⟨c2, hf⟩ | ⟨c2, hf⟩
  · refine lv_icmp_ge (tgt := 157) hx hb dX4_listOrSteps_68 (by decide) (fun _ => ?_) (fun n => absurd c2 n)
    cases hf
    have k : _ = r := k
    subst k
    exact r_vret X I rfl rfl hn dX4_listOrSteps_157
  · refine lv_icmp_ge (tgt := 157) hx hb dX4_listOrSteps_68 (by decide) (fun n => absurd n c2) (fun _ => ?_)
    obtain ⟨x2, h3, hf⟩ := s_bind hf
    obtain ⟨x3, h4, hf⟩ := s_bind hf
    obtain ⟨x4, h5, hf⟩ := s_bind hf
    obtain ⟨q5, h6, hf⟩ := s_bind hf
    have le7 : s_le q5.2 (e_V r).2 := by
      refine s_lek hem_V ?_ k
      rcases s_ite hf with ⟨-, hf⟩ | ⟨-, hf⟩
      · obtain ⟨x6, -, hf⟩ := s_bind hf
        obtain ⟨q7, hh, hf⟩ := s_bind hf
        refine s_lz.tr (l_X2_firstOf hh) ?_
        rcases s_ite hf with ⟨-, hf⟩ | ⟨-, hf⟩
        · obtain ⟨x8, -, hf⟩ := s_bind hf
          obtain ⟨q9, hh, hf⟩ := s_bind hf
          refine s_lz.tr (l_X2_secondOf hh) ?_
          obtain ⟨q10, hh, hf⟩ := s_bind hf
          refine s_lz.tr (l_X4_placeOfIf hh) ?_
          rcases s_ite hf with ⟨-, hf⟩ | ⟨-, hf⟩
          · cases hf
            exact s_le.rf
          · obtain ⟨q11, hh, hf⟩ := s_bind hf
            refine s_lz.tr (l_X4_placeOf hh) ?_
            obtain ⟨q12, hh, hf⟩ := s_bind hf
            refine s_lz.tr (l_X4_addStep hh) ?_
            cases hf
            exact s_le.rf
        · cases hf
          exact s_le.rf
      · cases hf
        exact s_le.rf
    refine lv_aload_n hx hb dX4_listOrSteps_71 rfl (lv_at hl 0 rfl) ?_
    refine r_gr X I fl_X4_11 h3 dX4_listOrSteps_72 ?_
    refine lv_iload hx hb dX4_listOrSteps_75 (lv_at hl 4 rfl) ?_
    refine r_iald X I h4 dX4_listOrSteps_77 ?_
    refine lv_istore (lv' := [(7, .int x3), (0, .ref v0), (1, .int v1), (4, .int v4), (5, .int v5), (6, .int v6)]) hx hb dX4_listOrSteps_78 hl (by decide) rfl (fun ls hl => ?_)
    refine lv_aload_n hx hb dX4_listOrSteps_80 rfl (lv_at hl 1 rfl) ?_
    refine r_gr X I fl_X4_30 h5 dX4_listOrSteps_81 ?_
    refine lv_iload hx hb dX4_listOrSteps_84 (lv_at hl 0 rfl) ?_
    refine r_callV (Y := M_X2_kindOf) (v := some (.int q5.1)) X I w_1297 my_X2_kindOf (by omega) (t_X2_kindOf (G := G) (d := d + 1) h6) (b_X2_kindOf h6) rfl rfl hl.1 rfl (Nat.le_of_ble_eq_true rfl) hn le7 dX4_listOrSteps_86 (fun H locs cells slots I hn1 hn2 => ?_)
    have I : s_I G q5.2 s H locs := I
    have hn : cells + σ0.2.1 ≤ q5.2.2.1 ∧ slots + σ0.2.2.1 ≤ q5.2.2.2.1 := ⟨hn1, hn2⟩
    refine lv_iconst (v := 4) hx hb dX4_listOrSteps_89 (by decide) ?_
    rcases s_ite hf with ⟨c8, hf⟩ | ⟨c8, hf⟩
    · refine lv_icmp_ne (tgt := 151) hx hb dX4_listOrSteps_90 (by decide) (fun n => absurd c8 n) (fun _ => ?_)
      obtain ⟨x6, h9, hf⟩ := s_bind hf
      obtain ⟨q7, h10, hf⟩ := s_bind hf
      have le11 : s_le q7.2 (e_V r).2 := by
        refine s_lek hem_V ?_ k
        rcases s_ite hf with ⟨-, hf⟩ | ⟨-, hf⟩
        · obtain ⟨x8, -, hf⟩ := s_bind hf
          obtain ⟨q9, hh, hf⟩ := s_bind hf
          refine s_lz.tr (l_X2_secondOf hh) ?_
          obtain ⟨q10, hh, hf⟩ := s_bind hf
          refine s_lz.tr (l_X4_placeOfIf hh) ?_
          rcases s_ite hf with ⟨-, hf⟩ | ⟨-, hf⟩
          · cases hf
            exact s_le.rf
          · obtain ⟨q11, hh, hf⟩ := s_bind hf
            refine s_lz.tr (l_X4_placeOf hh) ?_
            obtain ⟨q12, hh, hf⟩ := s_bind hf
            refine s_lz.tr (l_X4_addStep hh) ?_
            cases hf
            exact s_le.rf
        · cases hf
          exact s_le.rf
      refine lv_aload_n hx hb dX4_listOrSteps_93 rfl (lv_at hl 1 rfl) ?_
      refine r_gr X I fl_X4_30 h9 dX4_listOrSteps_94 ?_
      refine lv_iload hx hb dX4_listOrSteps_97 (lv_at hl 0 rfl) ?_
      refine r_callV (Y := M_X2_firstOf) (v := some (.int q7.1)) X I w_1299 my_X2_firstOf (by omega) (t_X2_firstOf (G := G) (d := d + 1) h10) (b_X2_firstOf h10) rfl rfl hl.1 rfl (Nat.le_of_ble_eq_true rfl) hn le11 dX4_listOrSteps_99 (fun H locs cells slots I hn1 hn2 => ?_)
      have I : s_I G q7.2 s H locs := I
      have hn : cells + σ0.2.1 ≤ q7.2.2.1 ∧ slots + σ0.2.2.1 ≤ q7.2.2.2.1 := ⟨hn1, hn2⟩
      refine lv_iload hx hb dX4_listOrSteps_102 (lv_at hl 3 rfl) ?_
      rcases s_ite hf with ⟨c12, hf⟩ | ⟨c12, hf⟩
      · refine lv_icmp_ne (tgt := 151) hx hb dX4_listOrSteps_104 (by decide) (fun n => absurd c12 n) (fun _ => ?_)
        obtain ⟨x8, h13, hf⟩ := s_bind hf
        obtain ⟨q9, h14, hf⟩ := s_bind hf
        obtain ⟨q10, h15, hf⟩ := s_bind hf
        have le16 : s_le q10.2 (e_V r).2 := by
          refine s_lek hem_V ?_ k
          rcases s_ite hf with ⟨-, hf⟩ | ⟨-, hf⟩
          · cases hf
            exact s_le.rf
          · obtain ⟨q11, hh, hf⟩ := s_bind hf
            refine s_lz.tr (l_X4_placeOf hh) ?_
            obtain ⟨q12, hh, hf⟩ := s_bind hf
            refine s_lz.tr (l_X4_addStep hh) ?_
            cases hf
            exact s_le.rf
        have le17 := s_le.tr (l_X4_placeOfIf h15) le16
        refine lv_aload_n hx hb dX4_listOrSteps_107 rfl (lv_at hl 1 rfl) ?_
        refine r_gr X I fl_X4_30 h13 dX4_listOrSteps_108 ?_
        refine lv_iload hx hb dX4_listOrSteps_111 (lv_at hl 0 rfl) ?_
        refine r_callV (Y := M_X2_secondOf) (v := some (.int q9.1)) X I w_1300 my_X2_secondOf (by omega) (t_X2_secondOf (G := G) (d := d + 1) h14) (b_X2_secondOf h14) rfl rfl hl.1 rfl (Nat.le_of_ble_eq_true rfl) hn le17 dX4_listOrSteps_113 (fun H locs cells slots I hn1 hn2 => ?_)
        have I : s_I G q9.2 s H locs := I
        have hn : cells + σ0.2.1 ≤ q9.2.2.1 ∧ slots + σ0.2.2.1 ≤ q9.2.2.2.1 := ⟨hn1, hn2⟩
        refine lv_istore (lv' := [(8, .int q9.1), (7, .int x3), (0, .ref v0), (1, .int v1), (4, .int v4), (5, .int v5), (6, .int v6)]) hx hb dX4_listOrSteps_116 hl (by decide) rfl (fun ls hl => ?_)
        refine lv_aload_n hx hb dX4_listOrSteps_118 rfl (lv_at hl 2 rfl) ?_
        refine lv_iload hx hb dX4_listOrSteps_119 (lv_at hl 5 rfl) ?_
        refine lv_iload hx hb dX4_listOrSteps_121 (lv_at hl 0 rfl) ?_
        refine r_callV (Y := M_X4_placeOfIf) (v := some (.int q10.1)) X I w_1326 my_X4_placeOfIf (by omega) (t_X4_placeOfIf (G := G) (d := d + 0) h15) (b_X4_placeOfIf h15) rfl rfl hl.1 rfl (Nat.le_of_ble_eq_true rfl) hn le16 dX4_listOrSteps_123 (fun H locs cells slots I hn1 hn2 => ?_)
        have I : s_I G q10.2 s H locs := I
        have hn : cells + σ0.2.1 ≤ q10.2.2.1 ∧ slots + σ0.2.2.1 ≤ q10.2.2.2.1 := ⟨hn1, hn2⟩
        refine lv_istore (lv' := [(9, .int q10.1), (8, .int q9.1), (7, .int x3), (0, .ref v0), (1, .int v1), (4, .int v4), (5, .int v5), (6, .int v6)]) hx hb dX4_listOrSteps_126 hl (by decide) rfl (fun ls hl => ?_)
        refine lv_iload hx hb dX4_listOrSteps_128 (lv_at hl 0 rfl) ?_
        refine lv_iconst (v := (-1)) hx hb dX4_listOrSteps_130 (by decide) ?_
        rcases s_ite hf with ⟨c18, hf⟩ | ⟨c18, hf⟩
        · refine lv_icmp_eq (tgt := 151) hx hb dX4_listOrSteps_131 (by decide) (fun _ => ?_) (fun n => absurd c18 n)
          cases hf
          have k : s_V G (d + 3) M_X4_listOrSteps vs0 σ0 Y_X4_listOrSteps (151, [.ref v0, .int v1, .int v4, .int v5, .int v6], q10.2) (e_V r) := k
          exact k.2 p e s m below meth c _ _ _ _ _ X I hn.1 hn.2 (lv_sub hl [3, 4, 5, 6, 7] rfl)
        · refine lv_icmp_eq (tgt := 151) hx hb dX4_listOrSteps_131 (by decide) (fun n => absurd n c18) (fun _ => ?_)
          obtain ⟨q11, h19, hf⟩ := s_bind hf
          obtain ⟨q12, h20, hf⟩ := s_bind hf
          cases hf
          have k : s_V G (d + 3) M_X4_listOrSteps vs0 σ0 Y_X4_listOrSteps (151, [.ref v0, .int v1, .int v4, .int v5, .int v6], q12.2) (e_V r) := k
          have le21 : s_le q12.2 (e_V r).2 := k.1
          have le22 := s_le.tr (l_X4_addStep h20) le21
          refine lv_aload_n hx hb dX4_listOrSteps_134 rfl (lv_at hl 3 rfl) ?_
          refine lv_bipush (v := 9) hx hb dX4_listOrSteps_135 (by decide) ?_
          refine lv_aload_n hx hb dX4_listOrSteps_137 rfl (lv_at hl 3 rfl) ?_
          refine lv_iload hx hb dX4_listOrSteps_138 (lv_at hl 1 rfl) ?_
          refine r_callV (Y := M_X4_placeOf) (v := some (.int q11.1)) X I w_1292 my_X4_placeOf (by omega) (t_X4_placeOf (G := G) (d := d + 1) h19) (b_X4_placeOf h19) rfl rfl hl.1 rfl (Nat.le_of_ble_eq_true rfl) hn le22 dX4_listOrSteps_140 (fun H locs cells slots I hn1 hn2 => ?_)
          have I : s_I G q11.2 s H locs := I
          have hn : cells + σ0.2.1 ≤ q11.2.2.1 ∧ slots + σ0.2.2.1 ≤ q11.2.2.2.1 := ⟨hn1, hn2⟩
          refine lv_iload_n hx hb dX4_listOrSteps_143 rfl (lv_at hl 4 rfl) ?_
          refine lv_iload hx hb dX4_listOrSteps_144 (lv_at hl 7 rfl) ?_
          refine lv_iload hx hb dX4_listOrSteps_146 (lv_at hl 0 rfl) ?_
          refine r_callV (Y := M_X4_addStep) (v := none) X I w_1314 my_X4_addStep (by omega) (t_X4_addStep (G := G) (d := d + 1) h20) (b_X4_addStep h20) rfl rfl hl.1 rfl (Nat.le_of_ble_eq_true rfl) hn le21 dX4_listOrSteps_148 (fun H locs cells slots I hn1 hn2 => ?_)
          have I : s_I G q12.2 s H locs := I
          have hn : cells + σ0.2.1 ≤ q12.2.2.1 ∧ slots + σ0.2.2.1 ≤ q12.2.2.2.1 := ⟨hn1, hn2⟩
          exact k.2 p e s m below meth c _ _ _ _ _ X I hn.1 hn.2 (lv_sub hl [3, 4, 5, 6, 7] rfl)
      · refine lv_icmp_ne (tgt := 151) hx hb dX4_listOrSteps_104 (by decide) (fun _ => ?_) (fun n => absurd n c12)
        cases hf
        have k : s_V G (d + 3) M_X4_listOrSteps vs0 σ0 Y_X4_listOrSteps (151, [.ref v0, .int v1, .int v4, .int v5, .int v6], q7.2) (e_V r) := k
        exact k.2 p e s m below meth c _ _ _ _ _ X I hn.1 hn.2 (lv_sub hl [1, 2, 3, 4, 5] rfl)
    · refine lv_icmp_ne (tgt := 151) hx hb dX4_listOrSteps_90 (by decide) (fun _ => ?_) (fun n => absurd n c8)
      cases hf
      have k : s_V G (d + 3) M_X4_listOrSteps vs0 σ0 Y_X4_listOrSteps (151, [.ref v0, .int v1, .int v4, .int v5, .int v6], q5.2) (e_V r) := k
      exact k.2 p e s m below meth c _ _ _ _ _ X I hn.1 hn.2 (lv_sub hl [1, 2, 3, 4, 5] rfl)
set_option maxRecDepth 100000 in
set_option maxHeartbeats 4000000 in
theorem v_X4_listOrSteps_151 {G : sG} {d : Nat} {vs0 : List Value} {σ0 : sS} {v0 : Nat} {v1 : Int32} {v4 : Int32} {v5 : Int32} {v6 : Int32} {σ : sS} {z : sZ Unit} {r : Unit × sS} (hf : T_X4_listOrSteps_151 v0 v1 v4 v5 v6 σ = some z) (k : s_K G (d + 3) M_X4_listOrSteps vs0 σ0 Y_X4_listOrSteps e_V z r) : s_V G (d + 3) M_X4_listOrSteps vs0 σ0 Y_X4_listOrSteps (151, [.ref v0, .int v1, .int v4, .int v5, .int v6], σ) (e_V r) := by
  have le0 : s_le σ (e_V r).2 := s_lek hem_V (l_X4_listOrSteps_151 hf) k
  refine ⟨le0, ?_⟩
  intro p e s m below meth c H locs cells slots ls X I hn1 hn2 hl
  have hn : cells + σ0.2.1 ≤ σ.2.1 ∧ slots + σ0.2.2.1 ≤ σ.2.2.1 := ⟨hn1, hn2⟩
  have hl : lv_has ls 10 [(0, .ref v0), (1, .int v1), (4, .int v4), (5, .int v5), (6, .int v6)] := hl
  have hx := X.1
  have hb : c.code = cX4_listOrSteps := X.2.1
  have hown : s.vm.findClass RX4 = some m.cls := X.2.2.2.2.2.1
  have hts := X.2.2.2.2.2.2.1
  refine W.eq (g2 := F0 m 151 ls []) rfl ?_
  unfold T_X4_listOrSteps_151 at hf
  cases hf
  have k : s_V G (d + 3) M_X4_listOrSteps vs0 σ0 Y_X4_listOrSteps (62, [.ref v0, .int v1, .int v4, .int v5, .int (v6 + 1)], σ) (e_V r) := k
  refine lv_iinc (v := (v6 + 1)) (lv' := [(6, .int (v6 + 1)), (0, .ref v0), (1, .int v1), (4, .int v4), (5, .int v5)]) hx hb dX4_listOrSteps_151 hl (k := 4) rfl rfl (by decide) rfl (fun ls hl => ?_)
  refine lv_goto (tgt := 62) hx hb dX4_listOrSteps_154 (by decide) ?_
  exact k.2 p e s m below meth c _ _ _ _ _ X I hn.1 hn.2 (lv_sub hl [1, 2, 3, 4, 0] rfl)
theorem v_X4_listOrSteps {G : sG} {d : Nat} {vs0 : List Value} {σ0 : sS} {x : sL} {z : sZ Unit} {r : Unit × sS} (hs : S_X4_listOrSteps x = some z) (k : s_K G (d + 3) M_X4_listOrSteps vs0 σ0 Y_X4_listOrSteps e_V z r) : s_V G (d + 3) M_X4_listOrSteps vs0 σ0 Y_X4_listOrSteps x (e_V r) := by
  obtain ⟨pc, vs, σ⟩ := x
  unfold S_X4_listOrSteps at hs
  dsimp only at hs
  rcases s_ite hs with ⟨c, hs⟩ | ⟨-, hs⟩
  · subst c
    unfold U_X4_listOrSteps_0 at hs
    obtain ⟨a0, g0, hs⟩ := s_bind hs
    obtain ⟨a1, g1, hs⟩ := s_bind hs
    obtain ⟨a2, g2, hs⟩ := s_bind hs
    obtain ⟨a3, g3, hs⟩ := s_bind hs
    obtain ⟨u9, ge, hs⟩ := s_bind hs
    rw [g_r_to g0, g_i_to g1, g_i_to g2, g_i_to g3, g_e_to ge]
    exact v_X4_listOrSteps_0 hs k
  rcases s_ite hs with ⟨c, hs⟩ | ⟨-, hs⟩
  · subst c
    unfold U_X4_listOrSteps_14 at hs
    obtain ⟨a0, g0, hs⟩ := s_bind hs
    obtain ⟨a1, g1, hs⟩ := s_bind hs
    obtain ⟨a2, g2, hs⟩ := s_bind hs
    obtain ⟨u9, ge, hs⟩ := s_bind hs
    rw [g_r_to g0, g_i_to g1, g_i_to g2, g_e_to ge]
    exact v_X4_listOrSteps_14 hs k
  rcases s_ite hs with ⟨c, hs⟩ | ⟨-, hs⟩
  · subst c
    unfold U_X4_listOrSteps_29 at hs
    obtain ⟨a0, g0, hs⟩ := s_bind hs
    obtain ⟨a1, g1, hs⟩ := s_bind hs
    obtain ⟨u9, ge, hs⟩ := s_bind hs
    rw [g_r_to g0, g_i_to g1, g_e_to ge]
    exact v_X4_listOrSteps_29 hs k
  rcases s_ite hs with ⟨c, hs⟩ | ⟨-, hs⟩
  · subst c
    unfold U_X4_listOrSteps_62 at hs
    obtain ⟨a0, g0, hs⟩ := s_bind hs
    obtain ⟨a1, g1, hs⟩ := s_bind hs
    obtain ⟨a2, g2, hs⟩ := s_bind hs
    obtain ⟨a3, g3, hs⟩ := s_bind hs
    obtain ⟨a4, g4, hs⟩ := s_bind hs
    obtain ⟨u9, ge, hs⟩ := s_bind hs
    rw [g_r_to g0, g_i_to g1, g_i_to g2, g_i_to g3, g_i_to g4, g_e_to ge]
    exact v_X4_listOrSteps_62 hs k
  rcases s_ite hs with ⟨c, hs⟩ | ⟨-, hs⟩
  · subst c
    unfold U_X4_listOrSteps_151 at hs
    obtain ⟨a0, g0, hs⟩ := s_bind hs
    obtain ⟨a1, g1, hs⟩ := s_bind hs
    obtain ⟨a2, g2, hs⟩ := s_bind hs
    obtain ⟨a3, g3, hs⟩ := s_bind hs
    obtain ⟨a4, g4, hs⟩ := s_bind hs
    obtain ⟨u9, ge, hs⟩ := s_bind hs
    rw [g_r_to g0, g_i_to g1, g_i_to g2, g_i_to g3, g_i_to g4, g_e_to ge]
    exact v_X4_listOrSteps_151 hs k
  cases hs
theorem t_X4_listOrSteps {G : sG} {d : Nat} {v0 : Nat} {v1 : Int32} {v2 : Int32} {v3 : Int32} {σ : sS} {q : Unit × sS} (h : F_X4_listOrSteps v0 v1 v2 v3 σ = some q) : s_T G (d + 3) M_X4_listOrSteps [.ref v0, .int v1, .int v2, .int v3] σ (e_V q) := by
  unfold F_X4_listOrSteps at h
  obtain ⟨-, -, h⟩ := s_bind h
  exact s_ofV rfl (by decide) (Nat.le_of_ble_eq_true rfl) rfl rfl (s_run_ind (V := fun x r => s_V G (d + 3) M_X4_listOrSteps [.ref v0, .int v1, .int v2, .int v3] σ Y_X4_listOrSteps x (e_V r)) (fun x z r hs hk => v_X4_listOrSteps hs (by cases z <;> exact hk)) h)
/-! X4_listIfSteps -/
noncomputable def T_X4_listIfSteps_0 (v0 : Nat) (v1 : Int32) (v2 : Int32) (v3 : Int32) (σ : sS) : Option (sZ Unit) :=
  if v2 = (-1) then (some (.inr ((), σ)))
  else (if v3 = (-1) then (some (.inr ((), σ)))
  else ((F_X4_addStep v0 7 v3 v2 v1 (-1) σ).bind fun q1 =>
  (F_X4_slotOf v0 v2 q1.2).bind fun q2 =>
  if q2.1 = (-1) then (some (.inr ((), q2.2)))
  else ((F_X4_addStep v0 10 v1 v3 q2.1 (-1) q2.2).bind fun q3 =>
  some (.inr ((), q3.2)))))
noncomputable def U_X4_listIfSteps_0 (vs : List Value) (σ : sS) : Option (sZ Unit) := (g_r vs).bind fun a0 => (g_i a0.2).bind fun a1 => (g_i a1.2).bind fun a2 => (g_i a2.2).bind fun a3 => (g_e a3.2).bind fun _ => T_X4_listIfSteps_0 a0.1 a1.1 a2.1 a3.1 σ
noncomputable def S_X4_listIfSteps (x : sL) : Option (sZ Unit) := if x.1 = 0 then U_X4_listIfSteps_0 x.2.1 x.2.2 else none
def Y_X4_listIfSteps (pc : Nat) : List Nat := if pc = 0 then [0, 1, 2, 3] else []
noncomputable def F_X4_listIfSteps (v0 : Nat) (v1 : Int32) (v2 : Int32) (v3 : Int32) (σ : sS) : Option (Unit × sS) := (s_is σ v0 4).bind fun _ => s_run S_X4_listIfSteps (0, [.ref v0, .int v1, .int v2, .int v3], σ)
theorem l_X4_listIfSteps_0 {v0 : Nat} {v1 : Int32} {v2 : Int32} {v3 : Int32} {σ : sS} {z : sZ Unit} (hf : T_X4_listIfSteps_0 v0 v1 v2 v3 σ = some z) : s_lz σ z := by
  unfold T_X4_listIfSteps_0 at hf
  rcases s_ite hf with ⟨-, hf⟩ | ⟨-, hf⟩
  · cases hf
    exact s_le.rf
  · rcases s_ite hf with ⟨-, hf⟩ | ⟨-, hf⟩
    · cases hf
      exact s_le.rf
    · obtain ⟨q1, hh, hf⟩ := s_bind hf
      refine s_lz.tr (l_X4_addStep hh) ?_
      obtain ⟨q2, hh, hf⟩ := s_bind hf
      refine s_lz.tr (l_X4_slotOf hh) ?_
      rcases s_ite hf with ⟨-, hf⟩ | ⟨-, hf⟩
      · cases hf
        exact s_le.rf
      · obtain ⟨q3, hh, hf⟩ := s_bind hf
        refine s_lz.tr (l_X4_addStep hh) ?_
        cases hf
        exact s_le.rf
theorem l_X4_listIfSteps_s {x : sL} {z : sZ Unit} (hs : S_X4_listIfSteps x = some z) : s_lz x.2.2 z := by
  obtain ⟨pc, vs, σ⟩ := x
  unfold S_X4_listIfSteps at hs
  dsimp only at hs ⊢
  rcases s_ite hs with ⟨c, hs⟩ | ⟨-, hs⟩
  · subst c
    unfold U_X4_listIfSteps_0 at hs
    obtain ⟨a0, g0, hs⟩ := s_bind hs
    obtain ⟨a1, g1, hs⟩ := s_bind hs
    obtain ⟨a2, g2, hs⟩ := s_bind hs
    obtain ⟨a3, g3, hs⟩ := s_bind hs
    obtain ⟨u9, ge, hs⟩ := s_bind hs
    exact l_X4_listIfSteps_0 hs
  cases hs
theorem l_X4_listIfSteps {v0 : Nat} {v1 : Int32} {v2 : Int32} {v3 : Int32} {σ : sS} {q : Unit × sS} (h : F_X4_listIfSteps v0 v1 v2 v3 σ = some q) : s_le σ q.2 := by
  unfold F_X4_listIfSteps at h
  obtain ⟨-, -, h⟩ := s_bind h
  exact s_run_ind (V := fun x r => s_le x.2.2 r.2) (fun x z r hs hk => by
    have h9 := l_X4_listIfSteps_s hs
    cases z with
    | inl y => exact s_le.tr h9 hk
    | inr q => cases hk; exact h9) h
theorem b_X4_listIfSteps {v0 : Nat} {v1 : Int32} {v2 : Int32} {v3 : Int32} {σ : sS} {q : Unit × sS} (h : F_X4_listIfSteps v0 v1 v2 v3 σ = some q) : ∃ fs, σ.1 v0 = some (.inr (4, fs)) := by
  unfold F_X4_listIfSteps at h
  obtain ⟨u, hu, -⟩ := s_bind h
  exact s_is_to hu
set_option maxRecDepth 100000 in
set_option maxHeartbeats 4000000 in
theorem v_X4_listIfSteps_0 {G : sG} {d : Nat} {vs0 : List Value} {σ0 : sS} {v0 : Nat} {v1 : Int32} {v2 : Int32} {v3 : Int32} {σ : sS} {z : sZ Unit} {r : Unit × sS} (hf : T_X4_listIfSteps_0 v0 v1 v2 v3 σ = some z) (k : s_K G (d + 2) M_X4_listIfSteps vs0 σ0 Y_X4_listIfSteps e_V z r) : s_V G (d + 2) M_X4_listIfSteps vs0 σ0 Y_X4_listIfSteps (0, [.ref v0, .int v1, .int v2, .int v3], σ) (e_V r) := by
  have le0 : s_le σ (e_V r).2 := s_lek hem_V (l_X4_listIfSteps_0 hf) k
  refine ⟨le0, ?_⟩
  intro p e s m below meth c H locs cells slots ls X I hn1 hn2 hl
  have hn : cells + σ0.2.1 ≤ σ.2.1 ∧ slots + σ0.2.2.1 ≤ σ.2.2.1 := ⟨hn1, hn2⟩
  have hl : lv_has ls 5 [(0, .ref v0), (1, .int v1), (2, .int v2), (3, .int v3)] := hl
  have hx := X.1
  have hb : c.code = cX4_listIfSteps := X.2.1
  have hown : s.vm.findClass RX4 = some m.cls := X.2.2.2.2.2.1
  have hts := X.2.2.2.2.2.2.1
  refine W.eq (g2 := F0 m 0 ls []) rfl ?_
  unfold T_X4_listIfSteps_0 at hf
  refine lv_iload_n hx hb dX4_listIfSteps_0 rfl (lv_at hl 2 rfl) ?_
  refine lv_iconst (v := (-1)) hx hb dX4_listIfSteps_1 (by decide) ?_
  rcases s_ite hf with ⟨c1, hf⟩ | ⟨c1, hf⟩
  · refine lv_icmp_eq (tgt := 10) hx hb dX4_listIfSteps_2 (by decide) (fun _ => ?_) (fun n => absurd c1 n)
    cases hf
    have k : _ = r := k
    subst k
    exact r_vret X I rfl rfl hn dX4_listIfSteps_10
  · refine lv_icmp_eq (tgt := 10) hx hb dX4_listIfSteps_2 (by decide) (fun n => absurd n c1) (fun _ => ?_)
    refine lv_iload_n hx hb dX4_listIfSteps_5 rfl (lv_at hl 3 rfl) ?_
    refine lv_iconst (v := (-1)) hx hb dX4_listIfSteps_6 (by decide) ?_
    rcases s_ite hf with ⟨c2, hf⟩ | ⟨c2, hf⟩
    · refine lv_icmp_ne (tgt := 11) hx hb dX4_listIfSteps_7 (by decide) (fun n => absurd c2 n) (fun _ => ?_)
      cases hf
      have k : _ = r := k
      subst k
      exact r_vret X I rfl rfl hn dX4_listIfSteps_10
    · refine lv_icmp_ne (tgt := 11) hx hb dX4_listIfSteps_7 (by decide) (fun _ => ?_) (fun n => absurd n c2)
      obtain ⟨q1, h3, hf⟩ := s_bind hf
      obtain ⟨q2, h4, hf⟩ := s_bind hf
      have le5 : s_le q2.2 (e_V r).2 := by
        refine s_lek hem_V ?_ k
        rcases s_ite hf with ⟨-, hf⟩ | ⟨-, hf⟩
        · cases hf
          exact s_le.rf
        · obtain ⟨q3, hh, hf⟩ := s_bind hf
          refine s_lz.tr (l_X4_addStep hh) ?_
          cases hf
          exact s_le.rf
      have le6 := s_le.tr (l_X4_slotOf h4) le5
      refine lv_aload_n hx hb dX4_listIfSteps_11 rfl (lv_at hl 0 rfl) ?_
      refine lv_bipush (v := 7) hx hb dX4_listIfSteps_12 (by decide) ?_
      refine lv_iload_n hx hb dX4_listIfSteps_14 rfl (lv_at hl 3 rfl) ?_
      refine lv_iload_n hx hb dX4_listIfSteps_15 rfl (lv_at hl 2 rfl) ?_
      refine lv_iload_n hx hb dX4_listIfSteps_16 rfl (lv_at hl 1 rfl) ?_
      refine lv_iconst (v := (-1)) hx hb dX4_listIfSteps_17 (by decide) ?_
      refine r_callV (Y := M_X4_addStep) (v := none) X I w_1314 my_X4_addStep (by omega) (t_X4_addStep (G := G) (d := d + 0) h3) (b_X4_addStep h3) rfl rfl hl.1 rfl (Nat.le_of_ble_eq_true rfl) hn le6 dX4_listIfSteps_18 (fun H locs cells slots I hn1 hn2 => ?_)
      have I : s_I G q1.2 s H locs := I
      have hn : cells + σ0.2.1 ≤ q1.2.2.1 ∧ slots + σ0.2.2.1 ≤ q1.2.2.2.1 := ⟨hn1, hn2⟩
      refine lv_aload_n hx hb dX4_listIfSteps_21 rfl (lv_at hl 0 rfl) ?_
      refine lv_iload_n hx hb dX4_listIfSteps_22 rfl (lv_at hl 2 rfl) ?_
      refine r_callV (Y := M_X4_slotOf) (v := some (.int q2.1)) X I w_1306 my_X4_slotOf (by omega) (t_X4_slotOf (G := G) (d := d + 0) h4) (b_X4_slotOf h4) rfl rfl hl.1 rfl (Nat.le_of_ble_eq_true rfl) hn le5 dX4_listIfSteps_23 (fun H locs cells slots I hn1 hn2 => ?_)
      have I : s_I G q2.2 s H locs := I
      have hn : cells + σ0.2.1 ≤ q2.2.2.1 ∧ slots + σ0.2.2.1 ≤ q2.2.2.2.1 := ⟨hn1, hn2⟩
      refine lv_istore (lv' := [(4, .int q2.1), (0, .ref v0), (1, .int v1), (2, .int v2), (3, .int v3)]) hx hb dX4_listIfSteps_26 hl (by decide) rfl (fun ls hl => ?_)
      refine lv_iload hx hb dX4_listIfSteps_28 (lv_at hl 0 rfl) ?_
      refine lv_iconst (v := (-1)) hx hb dX4_listIfSteps_30 (by decide) ?_
      rcases s_ite hf with ⟨c7, hf⟩ | ⟨c7, hf⟩
      · refine lv_icmp_eq (tgt := 45) hx hb dX4_listIfSteps_31 (by decide) (fun _ => ?_) (fun n => absurd c7 n)
        cases hf
        have k : _ = r := k
        subst k
        exact r_vret X I rfl rfl hn dX4_listIfSteps_45
      · refine lv_icmp_eq (tgt := 45) hx hb dX4_listIfSteps_31 (by decide) (fun n => absurd n c7) (fun _ => ?_)
        obtain ⟨q3, h8, hf⟩ := s_bind hf
        cases hf
        have k : _ = r := k
        subst k
        have le9 : s_le q3.2 q3.2 := s_le.rf
        refine lv_aload_n hx hb dX4_listIfSteps_34 rfl (lv_at hl 1 rfl) ?_
        refine lv_bipush (v := 10) hx hb dX4_listIfSteps_35 (by decide) ?_
        refine lv_iload_n hx hb dX4_listIfSteps_37 rfl (lv_at hl 2 rfl) ?_
        refine lv_iload_n hx hb dX4_listIfSteps_38 rfl (lv_at hl 4 rfl) ?_
        refine lv_iload hx hb dX4_listIfSteps_39 (lv_at hl 0 rfl) ?_
        refine lv_iconst (v := (-1)) hx hb dX4_listIfSteps_41 (by decide) ?_
        refine r_callV (Y := M_X4_addStep) (v := none) X I w_1314 my_X4_addStep (by omega) (t_X4_addStep (G := G) (d := d + 0) h8) (b_X4_addStep h8) rfl rfl hl.1 rfl (Nat.le_of_ble_eq_true rfl) hn le9 dX4_listIfSteps_42 (fun H locs cells slots I hn1 hn2 => ?_)
        have I : s_I G q3.2 s H locs := I
        have hn : cells + σ0.2.1 ≤ q3.2.2.1 ∧ slots + σ0.2.2.1 ≤ q3.2.2.2.1 := ⟨hn1, hn2⟩
        exact r_vret X I rfl rfl hn dX4_listIfSteps_45
theorem v_X4_listIfSteps {G : sG} {d : Nat} {vs0 : List Value} {σ0 : sS} {x : sL} {z : sZ Unit} {r : Unit × sS} (hs : S_X4_listIfSteps x = some z) (k : s_K G (d + 2) M_X4_listIfSteps vs0 σ0 Y_X4_listIfSteps e_V z r) : s_V G (d + 2) M_X4_listIfSteps vs0 σ0 Y_X4_listIfSteps x (e_V r) := by
  obtain ⟨pc, vs, σ⟩ := x
  unfold S_X4_listIfSteps at hs
  dsimp only at hs
  rcases s_ite hs with ⟨c, hs⟩ | ⟨-, hs⟩
  · subst c
    unfold U_X4_listIfSteps_0 at hs
    obtain ⟨a0, g0, hs⟩ := s_bind hs
    obtain ⟨a1, g1, hs⟩ := s_bind hs
    obtain ⟨a2, g2, hs⟩ := s_bind hs
    obtain ⟨a3, g3, hs⟩ := s_bind hs
    obtain ⟨u9, ge, hs⟩ := s_bind hs
    rw [g_r_to g0, g_i_to g1, g_i_to g2, g_i_to g3, g_e_to ge]
    exact v_X4_listIfSteps_0 hs k
  cases hs
theorem t_X4_listIfSteps {G : sG} {d : Nat} {v0 : Nat} {v1 : Int32} {v2 : Int32} {v3 : Int32} {σ : sS} {q : Unit × sS} (h : F_X4_listIfSteps v0 v1 v2 v3 σ = some q) : s_T G (d + 2) M_X4_listIfSteps [.ref v0, .int v1, .int v2, .int v3] σ (e_V q) := by
  unfold F_X4_listIfSteps at h
  obtain ⟨-, -, h⟩ := s_bind h
  exact s_ofV rfl (by decide) (Nat.le_of_ble_eq_true rfl) rfl rfl (s_run_ind (V := fun x r => s_V G (d + 2) M_X4_listIfSteps [.ref v0, .int v1, .int v2, .int v3] σ Y_X4_listIfSteps x (e_V r)) (fun x z r hs hk => v_X4_listIfSteps hs (by cases z <;> exact hk)) h)
/-! X4_listAllSteps -/
noncomputable def T_X4_listAllSteps_0 (v0 : Nat) (v1 : Int32) (σ : sS) : Option (sZ Unit) :=
  (s_fr σ v0 4 0).bind fun x1 =>
  (s_fr σ v0 4 2).bind fun x2 =>
  (s_ai σ x2 v1).bind fun x3 =>
  (F_X2_placedOf x1 x3 0 σ).bind fun q4 =>
  (F_X4_placeOf v0 q4.1 q4.2).bind fun q5 =>
  (s_fr q5.2 v0 4 0).bind fun x6 =>
  (s_fr q5.2 v0 4 2).bind fun x7 =>
  (s_ai q5.2 x7 v1).bind fun x8 =>
  (F_X2_placedOf x6 x8 1 q5.2).bind fun q9 =>
  (F_X4_placeOf v0 q9.1 q9.2).bind fun q10 =>
  (s_fr q10.2 v0 4 0).bind fun x11 =>
  (s_fr q10.2 v0 4 2).bind fun x12 =>
  (s_ai q10.2 x12 v1).bind fun x13 =>
  (F_X2_placedOf x11 x13 2 q10.2).bind fun q14 =>
  (F_X4_placeOf v0 q14.1 q14.2).bind fun q15 =>
  (F_X4_addStep v0 11 q5.1 v1 (-1) (-1) q15.2).bind fun q16 =>
  (F_X4_addStep v0 11 q10.1 v1 (-1) (-1) q16.2).bind fun q17 =>
  (F_X4_addStep v0 11 q15.1 v1 (-1) (-1) q17.2).bind fun q18 =>
  if q5.1 = (-1) then (some (.inl (131, [.ref v0, .int v1, .int q5.1, .int q10.1, .int q15.1], q18.2)))
  else ((s_fr q18.2 v0 4 1).bind fun x19 =>
  (s_fi q18.2 x19 1 0).bind fun x20 =>
  if x20 < 2 then (some (.inl (110, [.ref v0, .int v1, .int q5.1, .int q10.1, .int q15.1], q18.2)))
  else (if q10.1 = (-1) then (some (.inl (131, [.ref v0, .int v1, .int q5.1, .int q10.1, .int q15.1], q18.2)))
  else (some (.inl (110, [.ref v0, .int v1, .int q5.1, .int q10.1, .int q15.1], q18.2)))))
noncomputable def U_X4_listAllSteps_0 (vs : List Value) (σ : sS) : Option (sZ Unit) := (g_r vs).bind fun a0 => (g_i a0.2).bind fun a1 => (g_e a1.2).bind fun _ => T_X4_listAllSteps_0 a0.1 a1.1 σ
noncomputable def T_X4_listAllSteps_110 (v0 : Nat) (v1 : Int32) (v2 : Int32) (v3 : Int32) (v4 : Int32) (σ : sS) : Option (sZ Unit) :=
  (s_fr σ v0 4 1).bind fun x1 =>
  (s_fi σ x1 1 0).bind fun x2 =>
  if x2 < 3 then (some (.inl (127, [.ref v0, .int v1, .int v2, .int v3, .int v4], σ)))
  else (if v4 = (-1) then (some (.inl (131, [.ref v0, .int v1, .int v2, .int v3, .int v4], σ)))
  else (some (.inl (127, [.ref v0, .int v1, .int v2, .int v3, .int v4], σ))))
noncomputable def U_X4_listAllSteps_110 (vs : List Value) (σ : sS) : Option (sZ Unit) := (g_r vs).bind fun a0 => (g_i a0.2).bind fun a1 => (g_i a1.2).bind fun a2 => (g_i a2.2).bind fun a3 => (g_i a3.2).bind fun a4 => (g_e a4.2).bind fun _ => T_X4_listAllSteps_110 a0.1 a1.1 a2.1 a3.1 a4.1 σ
noncomputable def T_X4_listAllSteps_127 (v0 : Nat) (v1 : Int32) (v2 : Int32) (v3 : Int32) (v4 : Int32) (σ : sS) : Option (sZ Unit) :=
  some (.inl (132, [.ref v0, .int v1, .int v2, .int v3, .int v4, .int 1], σ))
noncomputable def U_X4_listAllSteps_127 (vs : List Value) (σ : sS) : Option (sZ Unit) := (g_r vs).bind fun a0 => (g_i a0.2).bind fun a1 => (g_i a1.2).bind fun a2 => (g_i a2.2).bind fun a3 => (g_i a3.2).bind fun a4 => (g_e a4.2).bind fun _ => T_X4_listAllSteps_127 a0.1 a1.1 a2.1 a3.1 a4.1 σ
noncomputable def T_X4_listAllSteps_131 (v0 : Nat) (v1 : Int32) (v2 : Int32) (v3 : Int32) (v4 : Int32) (σ : sS) : Option (sZ Unit) :=
  some (.inl (132, [.ref v0, .int v1, .int v2, .int v3, .int v4, .int 0], σ))
noncomputable def U_X4_listAllSteps_131 (vs : List Value) (σ : sS) : Option (sZ Unit) := (g_r vs).bind fun a0 => (g_i a0.2).bind fun a1 => (g_i a1.2).bind fun a2 => (g_i a2.2).bind fun a3 => (g_i a3.2).bind fun a4 => (g_e a4.2).bind fun _ => T_X4_listAllSteps_131 a0.1 a1.1 a2.1 a3.1 a4.1 σ
noncomputable def T_X4_listAllSteps_132 (v0 : Nat) (v1 : Int32) (v2 : Int32) (v3 : Int32) (v4 : Int32) (w0 : Int32) (σ : sS) : Option (sZ Unit) :=
  if w0 = 0 then (some (.inr ((), σ)))
  else ((F_X4_addStep v0 12 v1 v2 v3 v4 σ).bind fun q1 =>
  some (.inr ((), q1.2)))
noncomputable def U_X4_listAllSteps_132 (vs : List Value) (σ : sS) : Option (sZ Unit) := (g_r vs).bind fun a0 => (g_i a0.2).bind fun a1 => (g_i a1.2).bind fun a2 => (g_i a2.2).bind fun a3 => (g_i a3.2).bind fun a4 => (g_i a4.2).bind fun a5 => (g_e a5.2).bind fun _ => T_X4_listAllSteps_132 a0.1 a1.1 a2.1 a3.1 a4.1 a5.1 σ
noncomputable def S_X4_listAllSteps (x : sL) : Option (sZ Unit) := if x.1 = 0 then U_X4_listAllSteps_0 x.2.1 x.2.2 else if x.1 = 110 then U_X4_listAllSteps_110 x.2.1 x.2.2 else if x.1 = 127 then U_X4_listAllSteps_127 x.2.1 x.2.2 else if x.1 = 131 then U_X4_listAllSteps_131 x.2.1 x.2.2 else if x.1 = 132 then U_X4_listAllSteps_132 x.2.1 x.2.2 else none
def Y_X4_listAllSteps (pc : Nat) : List Nat := if pc = 0 then [0, 1] else if pc = 110 then [0, 1, 2, 3, 4] else if pc = 127 then [0, 1, 2, 3, 4] else if pc = 131 then [0, 1, 2, 3, 4] else if pc = 132 then [0, 1, 2, 3, 4] else []
noncomputable def F_X4_listAllSteps (v0 : Nat) (v1 : Int32) (σ : sS) : Option (Unit × sS) := (s_is σ v0 4).bind fun _ => s_run S_X4_listAllSteps (0, [.ref v0, .int v1], σ)
theorem l_X4_listAllSteps_0 {v0 : Nat} {v1 : Int32} {σ : sS} {z : sZ Unit} (hf : T_X4_listAllSteps_0 v0 v1 σ = some z) : s_lz σ z := by
  unfold T_X4_listAllSteps_0 at hf
  obtain ⟨x1, -, hf⟩ := s_bind hf
  obtain ⟨x2, -, hf⟩ := s_bind hf
  obtain ⟨x3, -, hf⟩ := s_bind hf
  obtain ⟨q4, hh, hf⟩ := s_bind hf
  refine s_lz.tr (l_X2_placedOf hh) ?_
  obtain ⟨q5, hh, hf⟩ := s_bind hf
  refine s_lz.tr (l_X4_placeOf hh) ?_
  obtain ⟨x6, -, hf⟩ := s_bind hf
  obtain ⟨x7, -, hf⟩ := s_bind hf
  obtain ⟨x8, -, hf⟩ := s_bind hf
  obtain ⟨q9, hh, hf⟩ := s_bind hf
  refine s_lz.tr (l_X2_placedOf hh) ?_
  obtain ⟨q10, hh, hf⟩ := s_bind hf
  refine s_lz.tr (l_X4_placeOf hh) ?_
  obtain ⟨x11, -, hf⟩ := s_bind hf
  obtain ⟨x12, -, hf⟩ := s_bind hf
  obtain ⟨x13, -, hf⟩ := s_bind hf
  obtain ⟨q14, hh, hf⟩ := s_bind hf
  refine s_lz.tr (l_X2_placedOf hh) ?_
  obtain ⟨q15, hh, hf⟩ := s_bind hf
  refine s_lz.tr (l_X4_placeOf hh) ?_
  obtain ⟨q16, hh, hf⟩ := s_bind hf
  refine s_lz.tr (l_X4_addStep hh) ?_
  obtain ⟨q17, hh, hf⟩ := s_bind hf
  refine s_lz.tr (l_X4_addStep hh) ?_
  obtain ⟨q18, hh, hf⟩ := s_bind hf
  refine s_lz.tr (l_X4_addStep hh) ?_
  rcases s_ite hf with ⟨-, hf⟩ | ⟨-, hf⟩
  · cases hf
    exact s_le.rf
  · obtain ⟨x19, -, hf⟩ := s_bind hf
    obtain ⟨x20, -, hf⟩ := s_bind hf
    rcases s_ite hf with ⟨-, hf⟩ | ⟨-, hf⟩
    · cases hf
      exact s_le.rf
    · rcases s_ite hf with ⟨-, hf⟩ | ⟨-, hf⟩
      · cases hf
        exact s_le.rf
      · cases hf
        exact s_le.rf
theorem l_X4_listAllSteps_110 {v0 : Nat} {v1 : Int32} {v2 : Int32} {v3 : Int32} {v4 : Int32} {σ : sS} {z : sZ Unit} (hf : T_X4_listAllSteps_110 v0 v1 v2 v3 v4 σ = some z) : s_lz σ z := by
  unfold T_X4_listAllSteps_110 at hf
  obtain ⟨x1, -, hf⟩ := s_bind hf
  obtain ⟨x2, -, hf⟩ := s_bind hf
  rcases s_ite hf with ⟨-, hf⟩ | ⟨-, hf⟩
  · cases hf
    exact s_le.rf
  · rcases s_ite hf with ⟨-, hf⟩ | ⟨-, hf⟩
    · cases hf
      exact s_le.rf
    · cases hf
      exact s_le.rf
theorem l_X4_listAllSteps_127 {v0 : Nat} {v1 : Int32} {v2 : Int32} {v3 : Int32} {v4 : Int32} {σ : sS} {z : sZ Unit} (hf : T_X4_listAllSteps_127 v0 v1 v2 v3 v4 σ = some z) : s_lz σ z := by
  unfold T_X4_listAllSteps_127 at hf
  cases hf
  exact s_le.rf
theorem l_X4_listAllSteps_131 {v0 : Nat} {v1 : Int32} {v2 : Int32} {v3 : Int32} {v4 : Int32} {σ : sS} {z : sZ Unit} (hf : T_X4_listAllSteps_131 v0 v1 v2 v3 v4 σ = some z) : s_lz σ z := by
  unfold T_X4_listAllSteps_131 at hf
  cases hf
  exact s_le.rf
theorem l_X4_listAllSteps_132 {v0 : Nat} {v1 : Int32} {v2 : Int32} {v3 : Int32} {v4 : Int32} {w0 : Int32} {σ : sS} {z : sZ Unit} (hf : T_X4_listAllSteps_132 v0 v1 v2 v3 v4 w0 σ = some z) : s_lz σ z := by
  unfold T_X4_listAllSteps_132 at hf
  rcases s_ite hf with ⟨-, hf⟩ | ⟨-, hf⟩
  · cases hf
    exact s_le.rf
  · obtain ⟨q1, hh, hf⟩ := s_bind hf
    refine s_lz.tr (l_X4_addStep hh) ?_
    cases hf
    exact s_le.rf
theorem l_X4_listAllSteps_s {x : sL} {z : sZ Unit} (hs : S_X4_listAllSteps x = some z) : s_lz x.2.2 z := by
  obtain ⟨pc, vs, σ⟩ := x
  unfold S_X4_listAllSteps at hs
  dsimp only at hs ⊢
  rcases s_ite hs with ⟨c, hs⟩ | ⟨-, hs⟩
  · subst c
    unfold U_X4_listAllSteps_0 at hs
    obtain ⟨a0, g0, hs⟩ := s_bind hs
    obtain ⟨a1, g1, hs⟩ := s_bind hs
    obtain ⟨u9, ge, hs⟩ := s_bind hs
    exact l_X4_listAllSteps_0 hs
  rcases s_ite hs with ⟨c, hs⟩ | ⟨-, hs⟩
  · subst c
    unfold U_X4_listAllSteps_110 at hs
    obtain ⟨a0, g0, hs⟩ := s_bind hs
    obtain ⟨a1, g1, hs⟩ := s_bind hs
    obtain ⟨a2, g2, hs⟩ := s_bind hs
    obtain ⟨a3, g3, hs⟩ := s_bind hs
    obtain ⟨a4, g4, hs⟩ := s_bind hs
    obtain ⟨u9, ge, hs⟩ := s_bind hs
    exact l_X4_listAllSteps_110 hs
  rcases s_ite hs with ⟨c, hs⟩ | ⟨-, hs⟩
  · subst c
    unfold U_X4_listAllSteps_127 at hs
    obtain ⟨a0, g0, hs⟩ := s_bind hs
    obtain ⟨a1, g1, hs⟩ := s_bind hs
    obtain ⟨a2, g2, hs⟩ := s_bind hs
    obtain ⟨a3, g3, hs⟩ := s_bind hs
    obtain ⟨a4, g4, hs⟩ := s_bind hs
    obtain ⟨u9, ge, hs⟩ := s_bind hs
    exact l_X4_listAllSteps_127 hs
  rcases s_ite hs with ⟨c, hs⟩ | ⟨-, hs⟩
  · subst c
    unfold U_X4_listAllSteps_131 at hs
    obtain ⟨a0, g0, hs⟩ := s_bind hs
    obtain ⟨a1, g1, hs⟩ := s_bind hs
    obtain ⟨a2, g2, hs⟩ := s_bind hs
    obtain ⟨a3, g3, hs⟩ := s_bind hs
    obtain ⟨a4, g4, hs⟩ := s_bind hs
    obtain ⟨u9, ge, hs⟩ := s_bind hs
    exact l_X4_listAllSteps_131 hs
  rcases s_ite hs with ⟨c, hs⟩ | ⟨-, hs⟩
  · subst c
    unfold U_X4_listAllSteps_132 at hs
    obtain ⟨a0, g0, hs⟩ := s_bind hs
    obtain ⟨a1, g1, hs⟩ := s_bind hs
    obtain ⟨a2, g2, hs⟩ := s_bind hs
    obtain ⟨a3, g3, hs⟩ := s_bind hs
    obtain ⟨a4, g4, hs⟩ := s_bind hs
    obtain ⟨a5, g5, hs⟩ := s_bind hs
    obtain ⟨u9, ge, hs⟩ := s_bind hs
    exact l_X4_listAllSteps_132 hs
  cases hs
theorem l_X4_listAllSteps {v0 : Nat} {v1 : Int32} {σ : sS} {q : Unit × sS} (h : F_X4_listAllSteps v0 v1 σ = some q) : s_le σ q.2 := by
  unfold F_X4_listAllSteps at h
  obtain ⟨-, -, h⟩ := s_bind h
  exact s_run_ind (V := fun x r => s_le x.2.2 r.2) (fun x z r hs hk => by
    have h9 := l_X4_listAllSteps_s hs
    cases z with
    | inl y => exact s_le.tr h9 hk
    | inr q => cases hk; exact h9) h
theorem b_X4_listAllSteps {v0 : Nat} {v1 : Int32} {σ : sS} {q : Unit × sS} (h : F_X4_listAllSteps v0 v1 σ = some q) : ∃ fs, σ.1 v0 = some (.inr (4, fs)) := by
  unfold F_X4_listAllSteps at h
  obtain ⟨u, hu, -⟩ := s_bind h
  exact s_is_to hu
set_option maxRecDepth 100000 in
set_option maxHeartbeats 4000000 in
theorem v_X4_listAllSteps_0 {G : sG} {d : Nat} {vs0 : List Value} {σ0 : sS} {v0 : Nat} {v1 : Int32} {σ : sS} {z : sZ Unit} {r : Unit × sS} (hf : T_X4_listAllSteps_0 v0 v1 σ = some z) (k : s_K G (d + 2) M_X4_listAllSteps vs0 σ0 Y_X4_listAllSteps e_V z r) : s_V G (d + 2) M_X4_listAllSteps vs0 σ0 Y_X4_listAllSteps (0, [.ref v0, .int v1], σ) (e_V r) := by
  have le0 : s_le σ (e_V r).2 := s_lek hem_V (l_X4_listAllSteps_0 hf) k
  refine ⟨le0, ?_⟩
  intro p e s m below meth c H locs cells slots ls X I hn1 hn2 hl
  have hn : cells + σ0.2.1 ≤ σ.2.1 ∧ slots + σ0.2.2.1 ≤ σ.2.2.1 := ⟨hn1, hn2⟩
  have hl : lv_has ls 6 [(0, .ref v0), (1, .int v1)] := hl
  have hx := X.1
  have hb : c.code = cX4_listAllSteps := X.2.1
  have hown : s.vm.findClass RX4 = some m.cls := X.2.2.2.2.2.1
  have hts := X.2.2.2.2.2.2.1
  refine W.eq (g2 := F0 m 0 ls []) rfl ?_
  unfold T_X4_listAllSteps_0 at hf
  obtain ⟨x1, h1, hf⟩ := s_bind hf
  obtain ⟨x2, h2, hf⟩ := s_bind hf
  obtain ⟨x3, h3, hf⟩ := s_bind hf
  obtain ⟨q4, h4, hf⟩ := s_bind hf
  obtain ⟨q5, h5, hf⟩ := s_bind hf
  obtain ⟨x6, h6, hf⟩ := s_bind hf
  obtain ⟨x7, h7, hf⟩ := s_bind hf
  obtain ⟨x8, h8, hf⟩ := s_bind hf
  obtain ⟨q9, h9, hf⟩ := s_bind hf
  obtain ⟨q10, h10, hf⟩ := s_bind hf
  obtain ⟨x11, h11, hf⟩ := s_bind hf
  obtain ⟨x12, h12, hf⟩ := s_bind hf
  obtain ⟨x13, h13, hf⟩ := s_bind hf
  obtain ⟨q14, h14, hf⟩ := s_bind hf
  obtain ⟨q15, h15, hf⟩ := s_bind hf
  obtain ⟨q16, h16, hf⟩ := s_bind hf
  obtain ⟨q17, h17, hf⟩ := s_bind hf
  obtain ⟨q18, h18, hf⟩ := s_bind hf
  have le19 : s_le q18.2 (e_V r).2 := by
    refine s_lek hem_V ?_ k
    rcases s_ite hf with ⟨-, hf⟩ | ⟨-, hf⟩
    · cases hf
      exact s_le.rf
    · obtain ⟨x19, -, hf⟩ := s_bind hf
      obtain ⟨x20, -, hf⟩ := s_bind hf
      rcases s_ite hf with ⟨-, hf⟩ | ⟨-, hf⟩
      · cases hf
        exact s_le.rf
      · rcases s_ite hf with ⟨-, hf⟩ | ⟨-, hf⟩
        · cases hf
          exact s_le.rf
        · cases hf
          exact s_le.rf
  have le20 := s_le.tr (l_X4_addStep h18) le19
  have le21 := s_le.tr (l_X4_addStep h17) le20
  have le22 := s_le.tr (l_X4_addStep h16) le21
  have le23 := s_le.tr (l_X4_placeOf h15) le22
  have le24 := s_le.tr (l_X2_placedOf h14) le23
  have le25 := s_le.tr (l_X4_placeOf h10) le24
  have le26 := s_le.tr (l_X2_placedOf h9) le25
  have le27 := s_le.tr (l_X4_placeOf h5) le26
  refine lv_aload_n hx hb dX4_listAllSteps_0 rfl (lv_at hl 0 rfl) ?_
  refine lv_aload_n hx hb dX4_listAllSteps_1 rfl (lv_at hl 0 rfl) ?_
  refine r_gr X I fl_X4_30 h1 dX4_listAllSteps_2 ?_
  refine lv_aload_n hx hb dX4_listAllSteps_5 rfl (lv_at hl 0 rfl) ?_
  refine r_gr X I fl_X4_11 h2 dX4_listAllSteps_6 ?_
  refine lv_iload_n hx hb dX4_listAllSteps_9 rfl (lv_at hl 1 rfl) ?_
  refine r_iald X I h3 dX4_listAllSteps_10 ?_
  refine lv_iconst (v := 0) hx hb dX4_listAllSteps_11 (by decide) ?_
  refine r_callV (Y := M_X2_placedOf) (v := some (.int q4.1)) X I w_1298 my_X2_placedOf (by omega) (t_X2_placedOf (G := G) (d := d + 0) h4) (b_X2_placedOf h4) rfl rfl hl.1 rfl (Nat.le_of_ble_eq_true rfl) hn le27 dX4_listAllSteps_12 (fun H locs cells slots I hn1 hn2 => ?_)
  have I : s_I G q4.2 s H locs := I
  have hn : cells + σ0.2.1 ≤ q4.2.2.1 ∧ slots + σ0.2.2.1 ≤ q4.2.2.2.1 := ⟨hn1, hn2⟩
  refine r_callV (Y := M_X4_placeOf) (v := some (.int q5.1)) X I w_1292 my_X4_placeOf (by omega) (t_X4_placeOf (G := G) (d := d + 0) h5) (b_X4_placeOf h5) rfl rfl hl.1 rfl (Nat.le_of_ble_eq_true rfl) hn le26 dX4_listAllSteps_15 (fun H locs cells slots I hn1 hn2 => ?_)
  have I : s_I G q5.2 s H locs := I
  have hn : cells + σ0.2.1 ≤ q5.2.2.1 ∧ slots + σ0.2.2.1 ≤ q5.2.2.2.1 := ⟨hn1, hn2⟩
  refine lv_istore_n (lv' := [(2, .int q5.1), (0, .ref v0), (1, .int v1)]) hx hb dX4_listAllSteps_18 rfl hl (by decide) rfl (fun ls hl => ?_)
  refine lv_aload_n hx hb dX4_listAllSteps_19 rfl (lv_at hl 1 rfl) ?_
  refine lv_aload_n hx hb dX4_listAllSteps_20 rfl (lv_at hl 1 rfl) ?_
  refine r_gr X I fl_X4_30 h6 dX4_listAllSteps_21 ?_
  refine lv_aload_n hx hb dX4_listAllSteps_24 rfl (lv_at hl 1 rfl) ?_
  refine r_gr X I fl_X4_11 h7 dX4_listAllSteps_25 ?_
  refine lv_iload_n hx hb dX4_listAllSteps_28 rfl (lv_at hl 2 rfl) ?_
  refine r_iald X I h8 dX4_listAllSteps_29 ?_
  refine lv_iconst (v := 1) hx hb dX4_listAllSteps_30 (by decide) ?_
  refine r_callV (Y := M_X2_placedOf) (v := some (.int q9.1)) X I w_1298 my_X2_placedOf (by omega) (t_X2_placedOf (G := G) (d := d + 0) h9) (b_X2_placedOf h9) rfl rfl hl.1 rfl (Nat.le_of_ble_eq_true rfl) hn le25 dX4_listAllSteps_31 (fun H locs cells slots I hn1 hn2 => ?_)
  have I : s_I G q9.2 s H locs := I
  have hn : cells + σ0.2.1 ≤ q9.2.2.1 ∧ slots + σ0.2.2.1 ≤ q9.2.2.2.1 := ⟨hn1, hn2⟩
  refine r_callV (Y := M_X4_placeOf) (v := some (.int q10.1)) X I w_1292 my_X4_placeOf (by omega) (t_X4_placeOf (G := G) (d := d + 0) h10) (b_X4_placeOf h10) rfl rfl hl.1 rfl (Nat.le_of_ble_eq_true rfl) hn le24 dX4_listAllSteps_34 (fun H locs cells slots I hn1 hn2 => ?_)
  have I : s_I G q10.2 s H locs := I
  have hn : cells + σ0.2.1 ≤ q10.2.2.1 ∧ slots + σ0.2.2.1 ≤ q10.2.2.2.1 := ⟨hn1, hn2⟩
  refine lv_istore_n (lv' := [(3, .int q10.1), (2, .int q5.1), (0, .ref v0), (1, .int v1)]) hx hb dX4_listAllSteps_37 rfl hl (by decide) rfl (fun ls hl => ?_)
  refine lv_aload_n hx hb dX4_listAllSteps_38 rfl (lv_at hl 2 rfl) ?_
  refine lv_aload_n hx hb dX4_listAllSteps_39 rfl (lv_at hl 2 rfl) ?_
  refine r_gr X I fl_X4_30 h11 dX4_listAllSteps_40 ?_
  refine lv_aload_n hx hb dX4_listAllSteps_43 rfl (lv_at hl 2 rfl) ?_
  refine r_gr X I fl_X4_11 h12 dX4_listAllSteps_44 ?_
  refine lv_iload_n hx hb dX4_listAllSteps_47 rfl (lv_at hl 3 rfl) ?_
  refine r_iald X I h13 dX4_listAllSteps_48 ?_
  refine lv_iconst (v := 2) hx hb dX4_listAllSteps_49 (by decide) ?_
  refine r_callV (Y := M_X2_placedOf) (v := some (.int q14.1)) X I w_1298 my_X2_placedOf (by omega) (t_X2_placedOf (G := G) (d := d + 0) h14) (b_X2_placedOf h14) rfl rfl hl.1 rfl (Nat.le_of_ble_eq_true rfl) hn le23 dX4_listAllSteps_50 (fun H locs cells slots I hn1 hn2 => ?_)
  have I : s_I G q14.2 s H locs := I
  have hn : cells + σ0.2.1 ≤ q14.2.2.1 ∧ slots + σ0.2.2.1 ≤ q14.2.2.2.1 := ⟨hn1, hn2⟩
  refine r_callV (Y := M_X4_placeOf) (v := some (.int q15.1)) X I w_1292 my_X4_placeOf (by omega) (t_X4_placeOf (G := G) (d := d + 0) h15) (b_X4_placeOf h15) rfl rfl hl.1 rfl (Nat.le_of_ble_eq_true rfl) hn le22 dX4_listAllSteps_53 (fun H locs cells slots I hn1 hn2 => ?_)
  have I : s_I G q15.2 s H locs := I
  have hn : cells + σ0.2.1 ≤ q15.2.2.1 ∧ slots + σ0.2.2.1 ≤ q15.2.2.2.1 := ⟨hn1, hn2⟩
  refine lv_istore (lv' := [(4, .int q15.1), (3, .int q10.1), (2, .int q5.1), (0, .ref v0), (1, .int v1)]) hx hb dX4_listAllSteps_56 hl (by decide) rfl (fun ls hl => ?_)
  refine lv_aload_n hx hb dX4_listAllSteps_58 rfl (lv_at hl 3 rfl) ?_
  refine lv_bipush (v := 11) hx hb dX4_listAllSteps_59 (by decide) ?_
  refine lv_iload_n hx hb dX4_listAllSteps_61 rfl (lv_at hl 2 rfl) ?_
  refine lv_iload_n hx hb dX4_listAllSteps_62 rfl (lv_at hl 4 rfl) ?_
  refine lv_iconst (v := (-1)) hx hb dX4_listAllSteps_63 (by decide) ?_
  refine lv_iconst (v := (-1)) hx hb dX4_listAllSteps_64 (by decide) ?_
  refine r_callV (Y := M_X4_addStep) (v := none) X I w_1314 my_X4_addStep (by omega) (t_X4_addStep (G := G) (d := d + 0) h16) (b_X4_addStep h16) rfl rfl hl.1 rfl (Nat.le_of_ble_eq_true rfl) hn le21 dX4_listAllSteps_65 (fun H locs cells slots I hn1 hn2 => ?_)
  have I : s_I G q16.2 s H locs := I
  have hn : cells + σ0.2.1 ≤ q16.2.2.1 ∧ slots + σ0.2.2.1 ≤ q16.2.2.2.1 := ⟨hn1, hn2⟩
  refine lv_aload_n hx hb dX4_listAllSteps_68 rfl (lv_at hl 3 rfl) ?_
  refine lv_bipush (v := 11) hx hb dX4_listAllSteps_69 (by decide) ?_
  refine lv_iload_n hx hb dX4_listAllSteps_71 rfl (lv_at hl 1 rfl) ?_
  refine lv_iload_n hx hb dX4_listAllSteps_72 rfl (lv_at hl 4 rfl) ?_
  refine lv_iconst (v := (-1)) hx hb dX4_listAllSteps_73 (by decide) ?_
  refine lv_iconst (v := (-1)) hx hb dX4_listAllSteps_74 (by decide) ?_
  refine r_callV (Y := M_X4_addStep) (v := none) X I w_1314 my_X4_addStep (by omega) (t_X4_addStep (G := G) (d := d + 0) h17) (b_X4_addStep h17) rfl rfl hl.1 rfl (Nat.le_of_ble_eq_true rfl) hn le20 dX4_listAllSteps_75 (fun H locs cells slots I hn1 hn2 => ?_)
  have I : s_I G q17.2 s H locs := I
  have hn : cells + σ0.2.1 ≤ q17.2.2.1 ∧ slots + σ0.2.2.1 ≤ q17.2.2.2.1 := ⟨hn1, hn2⟩
  refine lv_aload_n hx hb dX4_listAllSteps_78 rfl (lv_at hl 3 rfl) ?_
  refine lv_bipush (v := 11) hx hb dX4_listAllSteps_79 (by decide) ?_
  refine lv_iload hx hb dX4_listAllSteps_81 (lv_at hl 0 rfl) ?_
  refine lv_iload_n hx hb dX4_listAllSteps_83 rfl (lv_at hl 4 rfl) ?_
  refine lv_iconst (v := (-1)) hx hb dX4_listAllSteps_84 (by decide) ?_
  refine lv_iconst (v := (-1)) hx hb dX4_listAllSteps_85 (by decide) ?_
  refine r_callV (Y := M_X4_addStep) (v := none) X I w_1314 my_X4_addStep (by omega) (t_X4_addStep (G := G) (d := d + 0) h18) (b_X4_addStep h18) rfl rfl hl.1 rfl (Nat.le_of_ble_eq_true rfl) hn le19 dX4_listAllSteps_86 (fun H locs cells slots I hn1 hn2 => ?_)
  have I : s_I G q18.2 s H locs := I
  have hn : cells + σ0.2.1 ≤ q18.2.2.1 ∧ slots + σ0.2.2.1 ≤ q18.2.2.2.1 := ⟨hn1, hn2⟩
  refine lv_iload_n hx hb dX4_listAllSteps_89 rfl (lv_at hl 2 rfl) ?_
  refine lv_iconst (v := (-1)) hx hb dX4_listAllSteps_90 (by decide) ?_
  rcases s_ite hf with ⟨c28, hf⟩ | ⟨c28, hf⟩
  · refine lv_icmp_eq (tgt := 131) hx hb dX4_listAllSteps_91 (by decide) (fun _ => ?_) (fun n => absurd c28 n)
    cases hf
    have k : s_V G (d + 2) M_X4_listAllSteps vs0 σ0 Y_X4_listAllSteps (131, [.ref v0, .int v1, .int q5.1, .int q10.1, .int q15.1], q18.2) (e_V r) := k
    exact k.2 p e s m below meth c _ _ _ _ _ X I hn.1 hn.2 (lv_sub hl [3, 4, 2, 1, 0] rfl)
  · refine lv_icmp_eq (tgt := 131) hx hb dX4_listAllSteps_91 (by decide) (fun n => absurd n c28) (fun _ => ?_)
    obtain ⟨x19, h29, hf⟩ := s_bind hf
    obtain ⟨x20, h30, hf⟩ := s_bind hf
    refine lv_aload_n hx hb dX4_listAllSteps_94 rfl (lv_at hl 3 rfl) ?_
    refine r_gr X I fl_X4_34 h29 dX4_listAllSteps_95 ?_
    refine r_gi X I fl_X4_85 h30 dX4_listAllSteps_98 ?_
    refine lv_iconst (v := 2) hx hb dX4_listAllSteps_101 (by decide) ?_
    rcases s_ite hf with ⟨c31, hf⟩ | ⟨c31, hf⟩
    · refine lv_icmp_lt (tgt := 110) hx hb dX4_listAllSteps_102 (by decide) (fun _ => ?_) (fun n => absurd c31 n)
      cases hf
      have k : s_V G (d + 2) M_X4_listAllSteps vs0 σ0 Y_X4_listAllSteps (110, [.ref v0, .int v1, .int q5.1, .int q10.1, .int q15.1], q18.2) (e_V r) := k
      exact k.2 p e s m below meth c _ _ _ _ _ X I hn.1 hn.2 (lv_sub hl [3, 4, 2, 1, 0] rfl)
    · refine lv_icmp_lt (tgt := 110) hx hb dX4_listAllSteps_102 (by decide) (fun n => absurd n c31) (fun _ => ?_)
      refine lv_iload_n hx hb dX4_listAllSteps_105 rfl (lv_at hl 1 rfl) ?_
      refine lv_iconst (v := (-1)) hx hb dX4_listAllSteps_106 (by decide) ?_
      rcases s_ite hf with ⟨c32, hf⟩ | ⟨c32, hf⟩
      · refine lv_icmp_eq (tgt := 131) hx hb dX4_listAllSteps_107 (by decide) (fun _ => ?_) (fun n => absurd c32 n)
        cases hf
        have k : s_V G (d + 2) M_X4_listAllSteps vs0 σ0 Y_X4_listAllSteps (131, [.ref v0, .int v1, .int q5.1, .int q10.1, .int q15.1], q18.2) (e_V r) := k
        exact k.2 p e s m below meth c _ _ _ _ _ X I hn.1 hn.2 (lv_sub hl [3, 4, 2, 1, 0] rfl)
      · refine lv_icmp_eq (tgt := 131) hx hb dX4_listAllSteps_107 (by decide) (fun n => absurd n c32) (fun _ => ?_)
        cases hf
        have k : s_V G (d + 2) M_X4_listAllSteps vs0 σ0 Y_X4_listAllSteps (110, [.ref v0, .int v1, .int q5.1, .int q10.1, .int q15.1], q18.2) (e_V r) := k
        exact k.2 p e s m below meth c _ _ _ _ _ X I hn.1 hn.2 (lv_sub hl [3, 4, 2, 1, 0] rfl)
set_option maxRecDepth 100000 in
set_option maxHeartbeats 4000000 in
theorem v_X4_listAllSteps_110 {G : sG} {d : Nat} {vs0 : List Value} {σ0 : sS} {v0 : Nat} {v1 : Int32} {v2 : Int32} {v3 : Int32} {v4 : Int32} {σ : sS} {z : sZ Unit} {r : Unit × sS} (hf : T_X4_listAllSteps_110 v0 v1 v2 v3 v4 σ = some z) (k : s_K G (d + 2) M_X4_listAllSteps vs0 σ0 Y_X4_listAllSteps e_V z r) : s_V G (d + 2) M_X4_listAllSteps vs0 σ0 Y_X4_listAllSteps (110, [.ref v0, .int v1, .int v2, .int v3, .int v4], σ) (e_V r) := by
  have le0 : s_le σ (e_V r).2 := s_lek hem_V (l_X4_listAllSteps_110 hf) k
  refine ⟨le0, ?_⟩
  intro p e s m below meth c H locs cells slots ls X I hn1 hn2 hl
  have hn : cells + σ0.2.1 ≤ σ.2.1 ∧ slots + σ0.2.2.1 ≤ σ.2.2.1 := ⟨hn1, hn2⟩
  have hl : lv_has ls 6 [(0, .ref v0), (1, .int v1), (2, .int v2), (3, .int v3), (4, .int v4)] := hl
  have hx := X.1
  have hb : c.code = cX4_listAllSteps := X.2.1
  have hown : s.vm.findClass RX4 = some m.cls := X.2.2.2.2.2.1
  have hts := X.2.2.2.2.2.2.1
  refine W.eq (g2 := F0 m 110 ls []) rfl ?_
  unfold T_X4_listAllSteps_110 at hf
  obtain ⟨x1, h1, hf⟩ := s_bind hf
  obtain ⟨x2, h2, hf⟩ := s_bind hf
  refine lv_aload_n hx hb dX4_listAllSteps_110 rfl (lv_at hl 0 rfl) ?_
  refine r_gr X I fl_X4_34 h1 dX4_listAllSteps_111 ?_
  refine r_gi X I fl_X4_85 h2 dX4_listAllSteps_114 ?_
  refine lv_iconst (v := 3) hx hb dX4_listAllSteps_117 (by decide) ?_
  rcases s_ite hf with ⟨c3, hf⟩ | ⟨c3, hf⟩
  · refine lv_icmp_lt (tgt := 127) hx hb dX4_listAllSteps_118 (by decide) (fun _ => ?_) (fun n => absurd c3 n)
    cases hf
    have k : s_V G (d + 2) M_X4_listAllSteps vs0 σ0 Y_X4_listAllSteps (127, [.ref v0, .int v1, .int v2, .int v3, .int v4], σ) (e_V r) := k
    exact k.2 p e s m below meth c _ _ _ _ _ X I hn.1 hn.2 (lv_sub hl [0, 1, 2, 3, 4] rfl)
  · refine lv_icmp_lt (tgt := 127) hx hb dX4_listAllSteps_118 (by decide) (fun n => absurd n c3) (fun _ => ?_)
    refine lv_iload hx hb dX4_listAllSteps_121 (lv_at hl 4 rfl) ?_
    refine lv_iconst (v := (-1)) hx hb dX4_listAllSteps_123 (by decide) ?_
    rcases s_ite hf with ⟨c4, hf⟩ | ⟨c4, hf⟩
    · refine lv_icmp_eq (tgt := 131) hx hb dX4_listAllSteps_124 (by decide) (fun _ => ?_) (fun n => absurd c4 n)
      cases hf
      have k : s_V G (d + 2) M_X4_listAllSteps vs0 σ0 Y_X4_listAllSteps (131, [.ref v0, .int v1, .int v2, .int v3, .int v4], σ) (e_V r) := k
      exact k.2 p e s m below meth c _ _ _ _ _ X I hn.1 hn.2 (lv_sub hl [0, 1, 2, 3, 4] rfl)
    · refine lv_icmp_eq (tgt := 131) hx hb dX4_listAllSteps_124 (by decide) (fun n => absurd n c4) (fun _ => ?_)
      cases hf
      have k : s_V G (d + 2) M_X4_listAllSteps vs0 σ0 Y_X4_listAllSteps (127, [.ref v0, .int v1, .int v2, .int v3, .int v4], σ) (e_V r) := k
      exact k.2 p e s m below meth c _ _ _ _ _ X I hn.1 hn.2 (lv_sub hl [0, 1, 2, 3, 4] rfl)
set_option maxRecDepth 100000 in
set_option maxHeartbeats 4000000 in
theorem v_X4_listAllSteps_127 {G : sG} {d : Nat} {vs0 : List Value} {σ0 : sS} {v0 : Nat} {v1 : Int32} {v2 : Int32} {v3 : Int32} {v4 : Int32} {σ : sS} {z : sZ Unit} {r : Unit × sS} (hf : T_X4_listAllSteps_127 v0 v1 v2 v3 v4 σ = some z) (k : s_K G (d + 2) M_X4_listAllSteps vs0 σ0 Y_X4_listAllSteps e_V z r) : s_V G (d + 2) M_X4_listAllSteps vs0 σ0 Y_X4_listAllSteps (127, [.ref v0, .int v1, .int v2, .int v3, .int v4], σ) (e_V r) := by
  have le0 : s_le σ (e_V r).2 := s_lek hem_V (l_X4_listAllSteps_127 hf) k
  refine ⟨le0, ?_⟩
  intro p e s m below meth c H locs cells slots ls X I hn1 hn2 hl
  have hn : cells + σ0.2.1 ≤ σ.2.1 ∧ slots + σ0.2.2.1 ≤ σ.2.2.1 := ⟨hn1, hn2⟩
  have hl : lv_has ls 6 [(0, .ref v0), (1, .int v1), (2, .int v2), (3, .int v3), (4, .int v4)] := hl
  have hx := X.1
  have hb : c.code = cX4_listAllSteps := X.2.1
  have hown : s.vm.findClass RX4 = some m.cls := X.2.2.2.2.2.1
  have hts := X.2.2.2.2.2.2.1
  refine W.eq (g2 := F0 m 127 ls []) rfl ?_
  unfold T_X4_listAllSteps_127 at hf
  cases hf
  have k : s_V G (d + 2) M_X4_listAllSteps vs0 σ0 Y_X4_listAllSteps (132, [.ref v0, .int v1, .int v2, .int v3, .int v4, .int 1], σ) (e_V r) := k
  refine lv_iconst (v := 1) hx hb dX4_listAllSteps_127 (by decide) ?_
  refine lv_goto (tgt := 132) hx hb dX4_listAllSteps_128 (by decide) ?_
  exact k.2 p e s m below meth c _ _ _ _ _ X I hn.1 hn.2 (lv_sub hl [0, 1, 2, 3, 4] rfl)
set_option maxRecDepth 100000 in
set_option maxHeartbeats 4000000 in
theorem v_X4_listAllSteps_131 {G : sG} {d : Nat} {vs0 : List Value} {σ0 : sS} {v0 : Nat} {v1 : Int32} {v2 : Int32} {v3 : Int32} {v4 : Int32} {σ : sS} {z : sZ Unit} {r : Unit × sS} (hf : T_X4_listAllSteps_131 v0 v1 v2 v3 v4 σ = some z) (k : s_K G (d + 2) M_X4_listAllSteps vs0 σ0 Y_X4_listAllSteps e_V z r) : s_V G (d + 2) M_X4_listAllSteps vs0 σ0 Y_X4_listAllSteps (131, [.ref v0, .int v1, .int v2, .int v3, .int v4], σ) (e_V r) := by
  have le0 : s_le σ (e_V r).2 := s_lek hem_V (l_X4_listAllSteps_131 hf) k
  refine ⟨le0, ?_⟩
  intro p e s m below meth c H locs cells slots ls X I hn1 hn2 hl
  have hn : cells + σ0.2.1 ≤ σ.2.1 ∧ slots + σ0.2.2.1 ≤ σ.2.2.1 := ⟨hn1, hn2⟩
  have hl : lv_has ls 6 [(0, .ref v0), (1, .int v1), (2, .int v2), (3, .int v3), (4, .int v4)] := hl
  have hx := X.1
  have hb : c.code = cX4_listAllSteps := X.2.1
  have hown : s.vm.findClass RX4 = some m.cls := X.2.2.2.2.2.1
  have hts := X.2.2.2.2.2.2.1
  refine W.eq (g2 := F0 m 131 ls []) rfl ?_
  unfold T_X4_listAllSteps_131 at hf
  cases hf
  have k : s_V G (d + 2) M_X4_listAllSteps vs0 σ0 Y_X4_listAllSteps (132, [.ref v0, .int v1, .int v2, .int v3, .int v4, .int 0], σ) (e_V r) := k
  refine lv_iconst (v := 0) hx hb dX4_listAllSteps_131 (by decide) ?_
  exact k.2 p e s m below meth c _ _ _ _ _ X I hn.1 hn.2 (lv_sub hl [0, 1, 2, 3, 4] rfl)
set_option maxRecDepth 100000 in
set_option maxHeartbeats 4000000 in
theorem v_X4_listAllSteps_132 {G : sG} {d : Nat} {vs0 : List Value} {σ0 : sS} {v0 : Nat} {v1 : Int32} {v2 : Int32} {v3 : Int32} {v4 : Int32} {w0 : Int32} {σ : sS} {z : sZ Unit} {r : Unit × sS} (hf : T_X4_listAllSteps_132 v0 v1 v2 v3 v4 w0 σ = some z) (k : s_K G (d + 2) M_X4_listAllSteps vs0 σ0 Y_X4_listAllSteps e_V z r) : s_V G (d + 2) M_X4_listAllSteps vs0 σ0 Y_X4_listAllSteps (132, [.ref v0, .int v1, .int v2, .int v3, .int v4, .int w0], σ) (e_V r) := by
  have le0 : s_le σ (e_V r).2 := s_lek hem_V (l_X4_listAllSteps_132 hf) k
  refine ⟨le0, ?_⟩
  intro p e s m below meth c H locs cells slots ls X I hn1 hn2 hl
  have hn : cells + σ0.2.1 ≤ σ.2.1 ∧ slots + σ0.2.2.1 ≤ σ.2.2.1 := ⟨hn1, hn2⟩
  have hl : lv_has ls 6 [(0, .ref v0), (1, .int v1), (2, .int v2), (3, .int v3), (4, .int v4)] := hl
  have hx := X.1
  have hb : c.code = cX4_listAllSteps := X.2.1
  have hown : s.vm.findClass RX4 = some m.cls := X.2.2.2.2.2.1
  have hts := X.2.2.2.2.2.2.1
  refine W.eq (g2 := F0 m 132 ls [.int w0]) rfl ?_
  unfold T_X4_listAllSteps_132 at hf
  refine lv_istore (lv' := [(5, .int w0), (0, .ref v0), (1, .int v1), (2, .int v2), (3, .int v3), (4, .int v4)]) hx hb dX4_listAllSteps_132 hl (by decide) rfl (fun ls hl => ?_)
  refine lv_iload hx hb dX4_listAllSteps_134 (lv_at hl 0 rfl) ?_
  rcases s_ite hf with ⟨c1, hf⟩ | ⟨c1, hf⟩
  · refine lv_if_eq (tgt := 150) hx hb dX4_listAllSteps_136 (by decide) (fun _ => ?_) (fun n => absurd c1 n)
    cases hf
    have k : _ = r := k
    subst k
    exact r_vret X I rfl rfl hn dX4_listAllSteps_150
  · refine lv_if_eq (tgt := 150) hx hb dX4_listAllSteps_136 (by decide) (fun n => absurd n c1) (fun _ => ?_)
    obtain ⟨q1, h2, hf⟩ := s_bind hf
    cases hf
    have k : _ = r := k
    subst k
    have le3 : s_le q1.2 q1.2 := s_le.rf
    refine lv_aload_n hx hb dX4_listAllSteps_139 rfl (lv_at hl 1 rfl) ?_
    refine lv_bipush (v := 12) hx hb dX4_listAllSteps_140 (by decide) ?_
    refine lv_iload_n hx hb dX4_listAllSteps_142 rfl (lv_at hl 2 rfl) ?_
    refine lv_iload_n hx hb dX4_listAllSteps_143 rfl (lv_at hl 3 rfl) ?_
    refine lv_iload_n hx hb dX4_listAllSteps_144 rfl (lv_at hl 4 rfl) ?_
    refine lv_iload hx hb dX4_listAllSteps_145 (lv_at hl 5 rfl) ?_
    refine r_callV (Y := M_X4_addStep) (v := none) X I w_1314 my_X4_addStep (by omega) (t_X4_addStep (G := G) (d := d + 0) h2) (b_X4_addStep h2) rfl rfl hl.1 rfl (Nat.le_of_ble_eq_true rfl) hn le3 dX4_listAllSteps_147 (fun H locs cells slots I hn1 hn2 => ?_)
    have I : s_I G q1.2 s H locs := I
    have hn : cells + σ0.2.1 ≤ q1.2.2.1 ∧ slots + σ0.2.2.1 ≤ q1.2.2.2.1 := ⟨hn1, hn2⟩
    exact r_vret X I rfl rfl hn dX4_listAllSteps_150
theorem v_X4_listAllSteps {G : sG} {d : Nat} {vs0 : List Value} {σ0 : sS} {x : sL} {z : sZ Unit} {r : Unit × sS} (hs : S_X4_listAllSteps x = some z) (k : s_K G (d + 2) M_X4_listAllSteps vs0 σ0 Y_X4_listAllSteps e_V z r) : s_V G (d + 2) M_X4_listAllSteps vs0 σ0 Y_X4_listAllSteps x (e_V r) := by
  obtain ⟨pc, vs, σ⟩ := x
  unfold S_X4_listAllSteps at hs
  dsimp only at hs
  rcases s_ite hs with ⟨c, hs⟩ | ⟨-, hs⟩
  · subst c
    unfold U_X4_listAllSteps_0 at hs
    obtain ⟨a0, g0, hs⟩ := s_bind hs
    obtain ⟨a1, g1, hs⟩ := s_bind hs
    obtain ⟨u9, ge, hs⟩ := s_bind hs
    rw [g_r_to g0, g_i_to g1, g_e_to ge]
    exact v_X4_listAllSteps_0 hs k
  rcases s_ite hs with ⟨c, hs⟩ | ⟨-, hs⟩
  · subst c
    unfold U_X4_listAllSteps_110 at hs
    obtain ⟨a0, g0, hs⟩ := s_bind hs
    obtain ⟨a1, g1, hs⟩ := s_bind hs
    obtain ⟨a2, g2, hs⟩ := s_bind hs
    obtain ⟨a3, g3, hs⟩ := s_bind hs
    obtain ⟨a4, g4, hs⟩ := s_bind hs
    obtain ⟨u9, ge, hs⟩ := s_bind hs
    rw [g_r_to g0, g_i_to g1, g_i_to g2, g_i_to g3, g_i_to g4, g_e_to ge]
    exact v_X4_listAllSteps_110 hs k
  rcases s_ite hs with ⟨c, hs⟩ | ⟨-, hs⟩
  · subst c
    unfold U_X4_listAllSteps_127 at hs
    obtain ⟨a0, g0, hs⟩ := s_bind hs
    obtain ⟨a1, g1, hs⟩ := s_bind hs
    obtain ⟨a2, g2, hs⟩ := s_bind hs
    obtain ⟨a3, g3, hs⟩ := s_bind hs
    obtain ⟨a4, g4, hs⟩ := s_bind hs
    obtain ⟨u9, ge, hs⟩ := s_bind hs
    rw [g_r_to g0, g_i_to g1, g_i_to g2, g_i_to g3, g_i_to g4, g_e_to ge]
    exact v_X4_listAllSteps_127 hs k
  rcases s_ite hs with ⟨c, hs⟩ | ⟨-, hs⟩
  · subst c
    unfold U_X4_listAllSteps_131 at hs
    obtain ⟨a0, g0, hs⟩ := s_bind hs
    obtain ⟨a1, g1, hs⟩ := s_bind hs
    obtain ⟨a2, g2, hs⟩ := s_bind hs
    obtain ⟨a3, g3, hs⟩ := s_bind hs
    obtain ⟨a4, g4, hs⟩ := s_bind hs
    obtain ⟨u9, ge, hs⟩ := s_bind hs
    rw [g_r_to g0, g_i_to g1, g_i_to g2, g_i_to g3, g_i_to g4, g_e_to ge]
    exact v_X4_listAllSteps_131 hs k
  rcases s_ite hs with ⟨c, hs⟩ | ⟨-, hs⟩
  · subst c
    unfold U_X4_listAllSteps_132 at hs
    obtain ⟨a0, g0, hs⟩ := s_bind hs
    obtain ⟨a1, g1, hs⟩ := s_bind hs
    obtain ⟨a2, g2, hs⟩ := s_bind hs
    obtain ⟨a3, g3, hs⟩ := s_bind hs
    obtain ⟨a4, g4, hs⟩ := s_bind hs
    obtain ⟨a5, g5, hs⟩ := s_bind hs
    obtain ⟨u9, ge, hs⟩ := s_bind hs
    rw [g_r_to g0, g_i_to g1, g_i_to g2, g_i_to g3, g_i_to g4, g_i_to g5, g_e_to ge]
    exact v_X4_listAllSteps_132 hs k
  cases hs
theorem t_X4_listAllSteps {G : sG} {d : Nat} {v0 : Nat} {v1 : Int32} {σ : sS} {q : Unit × sS} (h : F_X4_listAllSteps v0 v1 σ = some q) : s_T G (d + 2) M_X4_listAllSteps [.ref v0, .int v1] σ (e_V q) := by
  unfold F_X4_listAllSteps at h
  obtain ⟨-, -, h⟩ := s_bind h
  exact s_ofV rfl (by decide) (Nat.le_of_ble_eq_true rfl) rfl rfl (s_run_ind (V := fun x r => s_V G (d + 2) M_X4_listAllSteps [.ref v0, .int v1] σ Y_X4_listAllSteps x (e_V r)) (fun x z r hs hk => v_X4_listAllSteps hs (by cases z <;> exact hk)) h)
/-! X4_listSomeSteps -/
noncomputable def T_X4_listSomeSteps_0 (v0 : Nat) (v1 : Int32) (σ : sS) : Option (sZ Unit) :=
  some (.inl (2, [.ref v0, .int v1, .int 0], σ))
noncomputable def U_X4_listSomeSteps_0 (vs : List Value) (σ : sS) : Option (sZ Unit) := (g_r vs).bind fun a0 => (g_i a0.2).bind fun a1 => (g_e a1.2).bind fun _ => T_X4_listSomeSteps_0 a0.1 a1.1 σ
noncomputable def T_X4_listSomeSteps_2 (v0 : Nat) (v1 : Int32) (v2 : Int32) (σ : sS) : Option (sZ Unit) :=
  (s_fr σ v0 4 1).bind fun x1 =>
  (s_fi σ x1 1 0).bind fun x2 =>
  if x2 ≤ v2 then (some (.inr ((), σ)))
  else ((s_fr σ v0 4 0).bind fun x3 =>
  (s_fr σ v0 4 2).bind fun x4 =>
  (s_ai σ x4 v1).bind fun x5 =>
  (F_X2_placedOf x3 x5 v2 σ).bind fun q6 =>
  (F_X4_placeOf v0 q6.1 q6.2).bind fun q7 =>
  if q7.1 = (-1) then (some (.inl (47, [.ref v0, .int v1, .int v2], q7.2)))
  else ((F_X4_addStep v0 13 v1 q7.1 (-1) (-1) q7.2).bind fun q8 =>
  some (.inl (47, [.ref v0, .int v1, .int v2], q8.2))))
noncomputable def U_X4_listSomeSteps_2 (vs : List Value) (σ : sS) : Option (sZ Unit) := (g_r vs).bind fun a0 => (g_i a0.2).bind fun a1 => (g_i a1.2).bind fun a2 => (g_e a2.2).bind fun _ => T_X4_listSomeSteps_2 a0.1 a1.1 a2.1 σ
noncomputable def T_X4_listSomeSteps_47 (v0 : Nat) (v1 : Int32) (v2 : Int32) (σ : sS) : Option (sZ Unit) :=
  some (.inl (2, [.ref v0, .int v1, .int (v2 + 1)], σ))
noncomputable def U_X4_listSomeSteps_47 (vs : List Value) (σ : sS) : Option (sZ Unit) := (g_r vs).bind fun a0 => (g_i a0.2).bind fun a1 => (g_i a1.2).bind fun a2 => (g_e a2.2).bind fun _ => T_X4_listSomeSteps_47 a0.1 a1.1 a2.1 σ
noncomputable def S_X4_listSomeSteps (x : sL) : Option (sZ Unit) := if x.1 = 0 then U_X4_listSomeSteps_0 x.2.1 x.2.2 else if x.1 = 2 then U_X4_listSomeSteps_2 x.2.1 x.2.2 else if x.1 = 47 then U_X4_listSomeSteps_47 x.2.1 x.2.2 else none
def Y_X4_listSomeSteps (pc : Nat) : List Nat := if pc = 0 then [0, 1] else if pc = 2 then [0, 1, 2] else if pc = 47 then [0, 1, 2] else []
noncomputable def F_X4_listSomeSteps (v0 : Nat) (v1 : Int32) (σ : sS) : Option (Unit × sS) := (s_is σ v0 4).bind fun _ => s_run S_X4_listSomeSteps (0, [.ref v0, .int v1], σ)
theorem l_X4_listSomeSteps_0 {v0 : Nat} {v1 : Int32} {σ : sS} {z : sZ Unit} (hf : T_X4_listSomeSteps_0 v0 v1 σ = some z) : s_lz σ z := by
  unfold T_X4_listSomeSteps_0 at hf
  cases hf
  exact s_le.rf
theorem l_X4_listSomeSteps_2 {v0 : Nat} {v1 : Int32} {v2 : Int32} {σ : sS} {z : sZ Unit} (hf : T_X4_listSomeSteps_2 v0 v1 v2 σ = some z) : s_lz σ z := by
  unfold T_X4_listSomeSteps_2 at hf
  obtain ⟨x1, -, hf⟩ := s_bind hf
  obtain ⟨x2, -, hf⟩ := s_bind hf
  rcases s_ite hf with ⟨-, hf⟩ | ⟨-, hf⟩
  · cases hf
    exact s_le.rf
  · obtain ⟨x3, -, hf⟩ := s_bind hf
    obtain ⟨x4, -, hf⟩ := s_bind hf
    obtain ⟨x5, -, hf⟩ := s_bind hf
    obtain ⟨q6, hh, hf⟩ := s_bind hf
    refine s_lz.tr (l_X2_placedOf hh) ?_
    obtain ⟨q7, hh, hf⟩ := s_bind hf
    refine s_lz.tr (l_X4_placeOf hh) ?_
    rcases s_ite hf with ⟨-, hf⟩ | ⟨-, hf⟩
    · cases hf
      exact s_le.rf
    · obtain ⟨q8, hh, hf⟩ := s_bind hf
      refine s_lz.tr (l_X4_addStep hh) ?_
      cases hf
      exact s_le.rf
theorem l_X4_listSomeSteps_47 {v0 : Nat} {v1 : Int32} {v2 : Int32} {σ : sS} {z : sZ Unit} (hf : T_X4_listSomeSteps_47 v0 v1 v2 σ = some z) : s_lz σ z := by
  unfold T_X4_listSomeSteps_47 at hf
  cases hf
  exact s_le.rf
theorem l_X4_listSomeSteps_s {x : sL} {z : sZ Unit} (hs : S_X4_listSomeSteps x = some z) : s_lz x.2.2 z := by
  obtain ⟨pc, vs, σ⟩ := x
  unfold S_X4_listSomeSteps at hs
  dsimp only at hs ⊢
  rcases s_ite hs with ⟨c, hs⟩ | ⟨-, hs⟩
  · subst c
    unfold U_X4_listSomeSteps_0 at hs
    obtain ⟨a0, g0, hs⟩ := s_bind hs
    obtain ⟨a1, g1, hs⟩ := s_bind hs
    obtain ⟨u9, ge, hs⟩ := s_bind hs
    exact l_X4_listSomeSteps_0 hs
  rcases s_ite hs with ⟨c, hs⟩ | ⟨-, hs⟩
  · subst c
    unfold U_X4_listSomeSteps_2 at hs
    obtain ⟨a0, g0, hs⟩ := s_bind hs
    obtain ⟨a1, g1, hs⟩ := s_bind hs
    obtain ⟨a2, g2, hs⟩ := s_bind hs
    obtain ⟨u9, ge, hs⟩ := s_bind hs
    exact l_X4_listSomeSteps_2 hs
  rcases s_ite hs with ⟨c, hs⟩ | ⟨-, hs⟩
  · subst c
    unfold U_X4_listSomeSteps_47 at hs
    obtain ⟨a0, g0, hs⟩ := s_bind hs
    obtain ⟨a1, g1, hs⟩ := s_bind hs
    obtain ⟨a2, g2, hs⟩ := s_bind hs
    obtain ⟨u9, ge, hs⟩ := s_bind hs
    exact l_X4_listSomeSteps_47 hs
  cases hs
theorem l_X4_listSomeSteps {v0 : Nat} {v1 : Int32} {σ : sS} {q : Unit × sS} (h : F_X4_listSomeSteps v0 v1 σ = some q) : s_le σ q.2 := by
  unfold F_X4_listSomeSteps at h
  obtain ⟨-, -, h⟩ := s_bind h
  exact s_run_ind (V := fun x r => s_le x.2.2 r.2) (fun x z r hs hk => by
    have h9 := l_X4_listSomeSteps_s hs
    cases z with
    | inl y => exact s_le.tr h9 hk
    | inr q => cases hk; exact h9) h
theorem b_X4_listSomeSteps {v0 : Nat} {v1 : Int32} {σ : sS} {q : Unit × sS} (h : F_X4_listSomeSteps v0 v1 σ = some q) : ∃ fs, σ.1 v0 = some (.inr (4, fs)) := by
  unfold F_X4_listSomeSteps at h
  obtain ⟨u, hu, -⟩ := s_bind h
  exact s_is_to hu
set_option maxRecDepth 100000 in
set_option maxHeartbeats 4000000 in
theorem v_X4_listSomeSteps_0 {G : sG} {d : Nat} {vs0 : List Value} {σ0 : sS} {v0 : Nat} {v1 : Int32} {σ : sS} {z : sZ Unit} {r : Unit × sS} (hf : T_X4_listSomeSteps_0 v0 v1 σ = some z) (k : s_K G (d + 2) M_X4_listSomeSteps vs0 σ0 Y_X4_listSomeSteps e_V z r) : s_V G (d + 2) M_X4_listSomeSteps vs0 σ0 Y_X4_listSomeSteps (0, [.ref v0, .int v1], σ) (e_V r) := by
  have le0 : s_le σ (e_V r).2 := s_lek hem_V (l_X4_listSomeSteps_0 hf) k
  refine ⟨le0, ?_⟩
  intro p e s m below meth c H locs cells slots ls X I hn1 hn2 hl
  have hn : cells + σ0.2.1 ≤ σ.2.1 ∧ slots + σ0.2.2.1 ≤ σ.2.2.1 := ⟨hn1, hn2⟩
  have hl : lv_has ls 4 [(0, .ref v0), (1, .int v1)] := hl
  have hx := X.1
  have hb : c.code = cX4_listSomeSteps := X.2.1
  have hown : s.vm.findClass RX4 = some m.cls := X.2.2.2.2.2.1
  have hts := X.2.2.2.2.2.2.1
  refine W.eq (g2 := F0 m 0 ls []) rfl ?_
  unfold T_X4_listSomeSteps_0 at hf
  cases hf
  have k : s_V G (d + 2) M_X4_listSomeSteps vs0 σ0 Y_X4_listSomeSteps (2, [.ref v0, .int v1, .int 0], σ) (e_V r) := k
  refine lv_iconst (v := 0) hx hb dX4_listSomeSteps_0 (by decide) ?_
  refine lv_istore_n (lv' := [(2, .int 0), (0, .ref v0), (1, .int v1)]) hx hb dX4_listSomeSteps_1 rfl hl (by decide) rfl (fun ls hl => ?_)
  exact k.2 p e s m below meth c _ _ _ _ _ X I hn.1 hn.2 (lv_sub hl [1, 2, 0] rfl)
set_option maxRecDepth 100000 in
set_option maxHeartbeats 4000000 in
theorem v_X4_listSomeSteps_2 {G : sG} {d : Nat} {vs0 : List Value} {σ0 : sS} {v0 : Nat} {v1 : Int32} {v2 : Int32} {σ : sS} {z : sZ Unit} {r : Unit × sS} (hf : T_X4_listSomeSteps_2 v0 v1 v2 σ = some z) (k : s_K G (d + 2) M_X4_listSomeSteps vs0 σ0 Y_X4_listSomeSteps e_V z r) : s_V G (d + 2) M_X4_listSomeSteps vs0 σ0 Y_X4_listSomeSteps (2, [.ref v0, .int v1, .int v2], σ) (e_V r) := by
  have le0 : s_le σ (e_V r).2 := s_lek hem_V (l_X4_listSomeSteps_2 hf) k
  refine ⟨le0, ?_⟩
  intro p e s m below meth c H locs cells slots ls X I hn1 hn2 hl
  have hn : cells + σ0.2.1 ≤ σ.2.1 ∧ slots + σ0.2.2.1 ≤ σ.2.2.1 := ⟨hn1, hn2⟩
  have hl : lv_has ls 4 [(0, .ref v0), (1, .int v1), (2, .int v2)] := hl
  have hx := X.1
  have hb : c.code = cX4_listSomeSteps := X.2.1
  have hown : s.vm.findClass RX4 = some m.cls := X.2.2.2.2.2.1
  have hts := X.2.2.2.2.2.2.1
  refine W.eq (g2 := F0 m 2 ls []) rfl ?_
  unfold T_X4_listSomeSteps_2 at hf
  obtain ⟨x1, h1, hf⟩ := s_bind hf
  obtain ⟨x2, h2, hf⟩ := s_bind hf
  refine lv_iload_n hx hb dX4_listSomeSteps_2 rfl (lv_at hl 2 rfl) ?_
  refine lv_aload_n hx hb dX4_listSomeSteps_3 rfl (lv_at hl 0 rfl) ?_
  refine r_gr X I fl_X4_34 h1 dX4_listSomeSteps_4 ?_
  refine r_gi X I fl_X4_85 h2 dX4_listSomeSteps_7 ?_
  rcases s_ite hf with ⟨c3, hf⟩ | ⟨c3, hf⟩
  · refine lv_icmp_ge (tgt := 53) hx hb dX4_listSomeSteps_10 (by decide) (fun _ => ?_) (fun n => absurd c3 n)
    cases hf
    have k : _ = r := k
    subst k
    exact r_vret X I rfl rfl hn dX4_listSomeSteps_53
  · refine lv_icmp_ge (tgt := 53) hx hb dX4_listSomeSteps_10 (by decide) (fun n => absurd n c3) (fun _ => ?_)
    obtain ⟨x3, h4, hf⟩ := s_bind hf
    obtain ⟨x4, h5, hf⟩ := s_bind hf
    obtain ⟨x5, h6, hf⟩ := s_bind hf
    obtain ⟨q6, h7, hf⟩ := s_bind hf
    obtain ⟨q7, h8, hf⟩ := s_bind hf
    have le9 : s_le q7.2 (e_V r).2 := by
      refine s_lek hem_V ?_ k
      rcases s_ite hf with ⟨-, hf⟩ | ⟨-, hf⟩
      · cases hf
        exact s_le.rf
      · obtain ⟨q8, hh, hf⟩ := s_bind hf
        refine s_lz.tr (l_X4_addStep hh) ?_
        cases hf
        exact s_le.rf
    have le10 := s_le.tr (l_X4_placeOf h8) le9
    refine lv_aload_n hx hb dX4_listSomeSteps_13 rfl (lv_at hl 0 rfl) ?_
    refine lv_aload_n hx hb dX4_listSomeSteps_14 rfl (lv_at hl 0 rfl) ?_
    refine r_gr X I fl_X4_30 h4 dX4_listSomeSteps_15 ?_
    refine lv_aload_n hx hb dX4_listSomeSteps_18 rfl (lv_at hl 0 rfl) ?_
    refine r_gr X I fl_X4_11 h5 dX4_listSomeSteps_19 ?_
    refine lv_iload_n hx hb dX4_listSomeSteps_22 rfl (lv_at hl 1 rfl) ?_
    refine r_iald X I h6 dX4_listSomeSteps_23 ?_
    refine lv_iload_n hx hb dX4_listSomeSteps_24 rfl (lv_at hl 2 rfl) ?_
    refine r_callV (Y := M_X2_placedOf) (v := some (.int q6.1)) X I w_1298 my_X2_placedOf (by omega) (t_X2_placedOf (G := G) (d := d + 0) h7) (b_X2_placedOf h7) rfl rfl hl.1 rfl (Nat.le_of_ble_eq_true rfl) hn le10 dX4_listSomeSteps_25 (fun H locs cells slots I hn1 hn2 => ?_)
    have I : s_I G q6.2 s H locs := I
    have hn : cells + σ0.2.1 ≤ q6.2.2.1 ∧ slots + σ0.2.2.1 ≤ q6.2.2.2.1 := ⟨hn1, hn2⟩
    refine r_callV (Y := M_X4_placeOf) (v := some (.int q7.1)) X I w_1292 my_X4_placeOf (by omega) (t_X4_placeOf (G := G) (d := d + 0) h8) (b_X4_placeOf h8) rfl rfl hl.1 rfl (Nat.le_of_ble_eq_true rfl) hn le9 dX4_listSomeSteps_28 (fun H locs cells slots I hn1 hn2 => ?_)
    have I : s_I G q7.2 s H locs := I
    have hn : cells + σ0.2.1 ≤ q7.2.2.1 ∧ slots + σ0.2.2.1 ≤ q7.2.2.2.1 := ⟨hn1, hn2⟩
    refine lv_istore_n (lv' := [(3, .int q7.1), (0, .ref v0), (1, .int v1), (2, .int v2)]) hx hb dX4_listSomeSteps_31 rfl hl (by decide) rfl (fun ls hl => ?_)
    refine lv_iload_n hx hb dX4_listSomeSteps_32 rfl (lv_at hl 0 rfl) ?_
    refine lv_iconst (v := (-1)) hx hb dX4_listSomeSteps_33 (by decide) ?_
    rcases s_ite hf with ⟨c11, hf⟩ | ⟨c11, hf⟩
    · refine lv_icmp_eq (tgt := 47) hx hb dX4_listSomeSteps_34 (by decide) (fun _ => ?_) (fun n => absurd c11 n)
      cases hf
      have k : s_V G (d + 2) M_X4_listSomeSteps vs0 σ0 Y_X4_listSomeSteps (47, [.ref v0, .int v1, .int v2], q7.2) (e_V r) := k
      exact k.2 p e s m below meth c _ _ _ _ _ X I hn.1 hn.2 (lv_sub hl [1, 2, 3] rfl)
    · refine lv_icmp_eq (tgt := 47) hx hb dX4_listSomeSteps_34 (by decide) (fun n => absurd n c11) (fun _ => ?_)
      obtain ⟨q8, h12, hf⟩ := s_bind hf
      cases hf
      have k : s_V G (d + 2) M_X4_listSomeSteps vs0 σ0 Y_X4_listSomeSteps (47, [.ref v0, .int v1, .int v2], q8.2) (e_V r) := k
      have le13 : s_le q8.2 (e_V r).2 := k.1
      refine lv_aload_n hx hb dX4_listSomeSteps_37 rfl (lv_at hl 1 rfl) ?_
      refine lv_bipush (v := 13) hx hb dX4_listSomeSteps_38 (by decide) ?_
      refine lv_iload_n hx hb dX4_listSomeSteps_40 rfl (lv_at hl 2 rfl) ?_
      refine lv_iload_n hx hb dX4_listSomeSteps_41 rfl (lv_at hl 0 rfl) ?_
      refine lv_iconst (v := (-1)) hx hb dX4_listSomeSteps_42 (by decide) ?_
      refine lv_iconst (v := (-1)) hx hb dX4_listSomeSteps_43 (by decide) ?_
      refine r_callV (Y := M_X4_addStep) (v := none) X I w_1314 my_X4_addStep (by omega) (t_X4_addStep (G := G) (d := d + 0) h12) (b_X4_addStep h12) rfl rfl hl.1 rfl (Nat.le_of_ble_eq_true rfl) hn le13 dX4_listSomeSteps_44 (fun H locs cells slots I hn1 hn2 => ?_)
      have I : s_I G q8.2 s H locs := I
      have hn : cells + σ0.2.1 ≤ q8.2.2.1 ∧ slots + σ0.2.2.1 ≤ q8.2.2.2.1 := ⟨hn1, hn2⟩
      exact k.2 p e s m below meth c _ _ _ _ _ X I hn.1 hn.2 (lv_sub hl [1, 2, 3] rfl)
set_option maxRecDepth 100000 in
set_option maxHeartbeats 4000000 in
theorem v_X4_listSomeSteps_47 {G : sG} {d : Nat} {vs0 : List Value} {σ0 : sS} {v0 : Nat} {v1 : Int32} {v2 : Int32} {σ : sS} {z : sZ Unit} {r : Unit × sS} (hf : T_X4_listSomeSteps_47 v0 v1 v2 σ = some z) (k : s_K G (d + 2) M_X4_listSomeSteps vs0 σ0 Y_X4_listSomeSteps e_V z r) : s_V G (d + 2) M_X4_listSomeSteps vs0 σ0 Y_X4_listSomeSteps (47, [.ref v0, .int v1, .int v2], σ) (e_V r) := by
  have le0 : s_le σ (e_V r).2 := s_lek hem_V (l_X4_listSomeSteps_47 hf) k
  refine ⟨le0, ?_⟩
  intro p e s m below meth c H locs cells slots ls X I hn1 hn2 hl
  have hn : cells + σ0.2.1 ≤ σ.2.1 ∧ slots + σ0.2.2.1 ≤ σ.2.2.1 := ⟨hn1, hn2⟩
  have hl : lv_has ls 4 [(0, .ref v0), (1, .int v1), (2, .int v2)] := hl
  have hx := X.1
  have hb : c.code = cX4_listSomeSteps := X.2.1
  have hown : s.vm.findClass RX4 = some m.cls := X.2.2.2.2.2.1
  have hts := X.2.2.2.2.2.2.1
  refine W.eq (g2 := F0 m 47 ls []) rfl ?_
  unfold T_X4_listSomeSteps_47 at hf
  cases hf
  have k : s_V G (d + 2) M_X4_listSomeSteps vs0 σ0 Y_X4_listSomeSteps (2, [.ref v0, .int v1, .int (v2 + 1)], σ) (e_V r) := k
  refine lv_iinc (v := (v2 + 1)) (lv' := [(2, .int (v2 + 1)), (0, .ref v0), (1, .int v1)]) hx hb dX4_listSomeSteps_47 hl (k := 2) rfl rfl (by decide) rfl (fun ls hl => ?_)
  refine lv_goto (tgt := 2) hx hb dX4_listSomeSteps_50 (by decide) ?_
  exact k.2 p e s m below meth c _ _ _ _ _ X I hn.1 hn.2 (lv_sub hl [1, 2, 0] rfl)
theorem v_X4_listSomeSteps {G : sG} {d : Nat} {vs0 : List Value} {σ0 : sS} {x : sL} {z : sZ Unit} {r : Unit × sS} (hs : S_X4_listSomeSteps x = some z) (k : s_K G (d + 2) M_X4_listSomeSteps vs0 σ0 Y_X4_listSomeSteps e_V z r) : s_V G (d + 2) M_X4_listSomeSteps vs0 σ0 Y_X4_listSomeSteps x (e_V r) := by
  obtain ⟨pc, vs, σ⟩ := x
  unfold S_X4_listSomeSteps at hs
  dsimp only at hs
  rcases s_ite hs with ⟨c, hs⟩ | ⟨-, hs⟩
  · subst c
    unfold U_X4_listSomeSteps_0 at hs
    obtain ⟨a0, g0, hs⟩ := s_bind hs
    obtain ⟨a1, g1, hs⟩ := s_bind hs
    obtain ⟨u9, ge, hs⟩ := s_bind hs
    rw [g_r_to g0, g_i_to g1, g_e_to ge]
    exact v_X4_listSomeSteps_0 hs k
  rcases s_ite hs with ⟨c, hs⟩ | ⟨-, hs⟩
  · subst c
    unfold U_X4_listSomeSteps_2 at hs
    obtain ⟨a0, g0, hs⟩ := s_bind hs
    obtain ⟨a1, g1, hs⟩ := s_bind hs
    obtain ⟨a2, g2, hs⟩ := s_bind hs
    obtain ⟨u9, ge, hs⟩ := s_bind hs
    rw [g_r_to g0, g_i_to g1, g_i_to g2, g_e_to ge]
    exact v_X4_listSomeSteps_2 hs k
  rcases s_ite hs with ⟨c, hs⟩ | ⟨-, hs⟩
  · subst c
    unfold U_X4_listSomeSteps_47 at hs
    obtain ⟨a0, g0, hs⟩ := s_bind hs
    obtain ⟨a1, g1, hs⟩ := s_bind hs
    obtain ⟨a2, g2, hs⟩ := s_bind hs
    obtain ⟨u9, ge, hs⟩ := s_bind hs
    rw [g_r_to g0, g_i_to g1, g_i_to g2, g_e_to ge]
    exact v_X4_listSomeSteps_47 hs k
  cases hs
theorem t_X4_listSomeSteps {G : sG} {d : Nat} {v0 : Nat} {v1 : Int32} {σ : sS} {q : Unit × sS} (h : F_X4_listSomeSteps v0 v1 σ = some q) : s_T G (d + 2) M_X4_listSomeSteps [.ref v0, .int v1] σ (e_V q) := by
  unfold F_X4_listSomeSteps at h
  obtain ⟨-, -, h⟩ := s_bind h
  exact s_ofV rfl (by decide) (Nat.le_of_ble_eq_true rfl) rfl rfl (s_run_ind (V := fun x r => s_V G (d + 2) M_X4_listSomeSteps [.ref v0, .int v1] σ Y_X4_listSomeSteps x (e_V r)) (fun x z r hs hk => v_X4_listSomeSteps hs (by cases z <;> exact hk)) h)
/-! X4_listAndSteps -/
noncomputable def T_X4_listAndSteps_0 (v0 : Nat) (v1 : Int32) (v2 : Int32) (v3 : Int32) (σ : sS) : Option (sZ Unit) :=
  if v2 = (-1) then (some (.inl (19, [.ref v0, .int v1, .int v2, .int v3], σ)))
  else (if v3 = (-1) then (some (.inl (19, [.ref v0, .int v1, .int v2, .int v3], σ)))
  else ((F_X4_addStep v0 2 v1 v2 v3 (-1) σ).bind fun q1 =>
  some (.inl (19, [.ref v0, .int v1, .int v2, .int v3], q1.2))))
noncomputable def U_X4_listAndSteps_0 (vs : List Value) (σ : sS) : Option (sZ Unit) := (g_r vs).bind fun a0 => (g_i a0.2).bind fun a1 => (g_i a1.2).bind fun a2 => (g_i a2.2).bind fun a3 => (g_e a3.2).bind fun _ => T_X4_listAndSteps_0 a0.1 a1.1 a2.1 a3.1 σ
noncomputable def T_X4_listAndSteps_19 (v0 : Nat) (v1 : Int32) (v2 : Int32) (v3 : Int32) (σ : sS) : Option (sZ Unit) :=
  (F_X4_addStep v0 3 v2 v1 (-1) (-1) σ).bind fun q1 =>
  (F_X4_addStep v0 4 v3 v1 (-1) (-1) q1.2).bind fun q2 =>
  some (.inr ((), q2.2))
noncomputable def U_X4_listAndSteps_19 (vs : List Value) (σ : sS) : Option (sZ Unit) := (g_r vs).bind fun a0 => (g_i a0.2).bind fun a1 => (g_i a1.2).bind fun a2 => (g_i a2.2).bind fun a3 => (g_e a3.2).bind fun _ => T_X4_listAndSteps_19 a0.1 a1.1 a2.1 a3.1 σ
noncomputable def S_X4_listAndSteps (x : sL) : Option (sZ Unit) := if x.1 = 0 then U_X4_listAndSteps_0 x.2.1 x.2.2 else if x.1 = 19 then U_X4_listAndSteps_19 x.2.1 x.2.2 else none
def Y_X4_listAndSteps (pc : Nat) : List Nat := if pc = 0 then [0, 1, 2, 3] else if pc = 19 then [0, 1, 2, 3] else []
noncomputable def F_X4_listAndSteps (v0 : Nat) (v1 : Int32) (v2 : Int32) (v3 : Int32) (σ : sS) : Option (Unit × sS) := (s_is σ v0 4).bind fun _ => s_run S_X4_listAndSteps (0, [.ref v0, .int v1, .int v2, .int v3], σ)
theorem l_X4_listAndSteps_0 {v0 : Nat} {v1 : Int32} {v2 : Int32} {v3 : Int32} {σ : sS} {z : sZ Unit} (hf : T_X4_listAndSteps_0 v0 v1 v2 v3 σ = some z) : s_lz σ z := by
  unfold T_X4_listAndSteps_0 at hf
  rcases s_ite hf with ⟨-, hf⟩ | ⟨-, hf⟩
  · cases hf
    exact s_le.rf
  · rcases s_ite hf with ⟨-, hf⟩ | ⟨-, hf⟩
    · cases hf
      exact s_le.rf
    · obtain ⟨q1, hh, hf⟩ := s_bind hf
      refine s_lz.tr (l_X4_addStep hh) ?_
      cases hf
      exact s_le.rf
theorem l_X4_listAndSteps_19 {v0 : Nat} {v1 : Int32} {v2 : Int32} {v3 : Int32} {σ : sS} {z : sZ Unit} (hf : T_X4_listAndSteps_19 v0 v1 v2 v3 σ = some z) : s_lz σ z := by
  unfold T_X4_listAndSteps_19 at hf
  obtain ⟨q1, hh, hf⟩ := s_bind hf
  refine s_lz.tr (l_X4_addStep hh) ?_
  obtain ⟨q2, hh, hf⟩ := s_bind hf
  refine s_lz.tr (l_X4_addStep hh) ?_
  cases hf
  exact s_le.rf
theorem l_X4_listAndSteps_s {x : sL} {z : sZ Unit} (hs : S_X4_listAndSteps x = some z) : s_lz x.2.2 z := by
  obtain ⟨pc, vs, σ⟩ := x
  unfold S_X4_listAndSteps at hs
  dsimp only at hs ⊢
  rcases s_ite hs with ⟨c, hs⟩ | ⟨-, hs⟩
  · subst c
    unfold U_X4_listAndSteps_0 at hs
    obtain ⟨a0, g0, hs⟩ := s_bind hs
    obtain ⟨a1, g1, hs⟩ := s_bind hs
    obtain ⟨a2, g2, hs⟩ := s_bind hs
    obtain ⟨a3, g3, hs⟩ := s_bind hs
    obtain ⟨u9, ge, hs⟩ := s_bind hs
    exact l_X4_listAndSteps_0 hs
  rcases s_ite hs with ⟨c, hs⟩ | ⟨-, hs⟩
  · subst c
    unfold U_X4_listAndSteps_19 at hs
    obtain ⟨a0, g0, hs⟩ := s_bind hs
    obtain ⟨a1, g1, hs⟩ := s_bind hs
    obtain ⟨a2, g2, hs⟩ := s_bind hs
    obtain ⟨a3, g3, hs⟩ := s_bind hs
    obtain ⟨u9, ge, hs⟩ := s_bind hs
    exact l_X4_listAndSteps_19 hs
  cases hs
theorem l_X4_listAndSteps {v0 : Nat} {v1 : Int32} {v2 : Int32} {v3 : Int32} {σ : sS} {q : Unit × sS} (h : F_X4_listAndSteps v0 v1 v2 v3 σ = some q) : s_le σ q.2 := by
  unfold F_X4_listAndSteps at h
  obtain ⟨-, -, h⟩ := s_bind h
  exact s_run_ind (V := fun x r => s_le x.2.2 r.2) (fun x z r hs hk => by
    have h9 := l_X4_listAndSteps_s hs
    cases z with
    | inl y => exact s_le.tr h9 hk
    | inr q => cases hk; exact h9) h
theorem b_X4_listAndSteps {v0 : Nat} {v1 : Int32} {v2 : Int32} {v3 : Int32} {σ : sS} {q : Unit × sS} (h : F_X4_listAndSteps v0 v1 v2 v3 σ = some q) : ∃ fs, σ.1 v0 = some (.inr (4, fs)) := by
  unfold F_X4_listAndSteps at h
  obtain ⟨u, hu, -⟩ := s_bind h
  exact s_is_to hu
set_option maxRecDepth 100000 in
set_option maxHeartbeats 4000000 in
theorem v_X4_listAndSteps_0 {G : sG} {d : Nat} {vs0 : List Value} {σ0 : sS} {v0 : Nat} {v1 : Int32} {v2 : Int32} {v3 : Int32} {σ : sS} {z : sZ Unit} {r : Unit × sS} (hf : T_X4_listAndSteps_0 v0 v1 v2 v3 σ = some z) (k : s_K G (d + 2) M_X4_listAndSteps vs0 σ0 Y_X4_listAndSteps e_V z r) : s_V G (d + 2) M_X4_listAndSteps vs0 σ0 Y_X4_listAndSteps (0, [.ref v0, .int v1, .int v2, .int v3], σ) (e_V r) := by
  have le0 : s_le σ (e_V r).2 := s_lek hem_V (l_X4_listAndSteps_0 hf) k
  refine ⟨le0, ?_⟩
  intro p e s m below meth c H locs cells slots ls X I hn1 hn2 hl
  have hn : cells + σ0.2.1 ≤ σ.2.1 ∧ slots + σ0.2.2.1 ≤ σ.2.2.1 := ⟨hn1, hn2⟩
  have hl : lv_has ls 4 [(0, .ref v0), (1, .int v1), (2, .int v2), (3, .int v3)] := hl
  have hx := X.1
  have hb : c.code = cX4_listAndSteps := X.2.1
  have hown : s.vm.findClass RX4 = some m.cls := X.2.2.2.2.2.1
  have hts := X.2.2.2.2.2.2.1
  refine W.eq (g2 := F0 m 0 ls []) rfl ?_
  unfold T_X4_listAndSteps_0 at hf
  refine lv_iload_n hx hb dX4_listAndSteps_0 rfl (lv_at hl 2 rfl) ?_
  refine lv_iconst (v := (-1)) hx hb dX4_listAndSteps_1 (by decide) ?_
  rcases s_ite hf with ⟨c1, hf⟩ | ⟨c1, hf⟩
  · refine lv_icmp_eq (tgt := 19) hx hb dX4_listAndSteps_2 (by decide) (fun _ => ?_) (fun n => absurd c1 n)
    cases hf
    have k : s_V G (d + 2) M_X4_listAndSteps vs0 σ0 Y_X4_listAndSteps (19, [.ref v0, .int v1, .int v2, .int v3], σ) (e_V r) := k
    exact k.2 p e s m below meth c _ _ _ _ _ X I hn.1 hn.2 (lv_sub hl [0, 1, 2, 3] rfl)
  · refine lv_icmp_eq (tgt := 19) hx hb dX4_listAndSteps_2 (by decide) (fun n => absurd n c1) (fun _ => ?_)
    refine lv_iload_n hx hb dX4_listAndSteps_5 rfl (lv_at hl 3 rfl) ?_
    refine lv_iconst (v := (-1)) hx hb dX4_listAndSteps_6 (by decide) ?_
    rcases s_ite hf with ⟨c2, hf⟩ | ⟨c2, hf⟩
    · refine lv_icmp_eq (tgt := 19) hx hb dX4_listAndSteps_7 (by decide) (fun _ => ?_) (fun n => absurd c2 n)
      cases hf
      have k : s_V G (d + 2) M_X4_listAndSteps vs0 σ0 Y_X4_listAndSteps (19, [.ref v0, .int v1, .int v2, .int v3], σ) (e_V r) := k
      exact k.2 p e s m below meth c _ _ _ _ _ X I hn.1 hn.2 (lv_sub hl [0, 1, 2, 3] rfl)
    · refine lv_icmp_eq (tgt := 19) hx hb dX4_listAndSteps_7 (by decide) (fun n => absurd n c2) (fun _ => ?_)
      obtain ⟨q1, h3, hf⟩ := s_bind hf
      cases hf
      have k : s_V G (d + 2) M_X4_listAndSteps vs0 σ0 Y_X4_listAndSteps (19, [.ref v0, .int v1, .int v2, .int v3], q1.2) (e_V r) := k
      have le4 : s_le q1.2 (e_V r).2 := k.1
      refine lv_aload_n hx hb dX4_listAndSteps_10 rfl (lv_at hl 0 rfl) ?_
      refine lv_iconst (v := 2) hx hb dX4_listAndSteps_11 (by decide) ?_
      refine lv_iload_n hx hb dX4_listAndSteps_12 rfl (lv_at hl 1 rfl) ?_
      refine lv_iload_n hx hb dX4_listAndSteps_13 rfl (lv_at hl 2 rfl) ?_
      refine lv_iload_n hx hb dX4_listAndSteps_14 rfl (lv_at hl 3 rfl) ?_
      refine lv_iconst (v := (-1)) hx hb dX4_listAndSteps_15 (by decide) ?_
      refine r_callV (Y := M_X4_addStep) (v := none) X I w_1314 my_X4_addStep (by omega) (t_X4_addStep (G := G) (d := d + 0) h3) (b_X4_addStep h3) rfl rfl hl.1 rfl (Nat.le_of_ble_eq_true rfl) hn le4 dX4_listAndSteps_16 (fun H locs cells slots I hn1 hn2 => ?_)
      have I : s_I G q1.2 s H locs := I
      have hn : cells + σ0.2.1 ≤ q1.2.2.1 ∧ slots + σ0.2.2.1 ≤ q1.2.2.2.1 := ⟨hn1, hn2⟩
      exact k.2 p e s m below meth c _ _ _ _ _ X I hn.1 hn.2 (lv_sub hl [0, 1, 2, 3] rfl)
set_option maxRecDepth 100000 in
set_option maxHeartbeats 4000000 in
theorem v_X4_listAndSteps_19 {G : sG} {d : Nat} {vs0 : List Value} {σ0 : sS} {v0 : Nat} {v1 : Int32} {v2 : Int32} {v3 : Int32} {σ : sS} {z : sZ Unit} {r : Unit × sS} (hf : T_X4_listAndSteps_19 v0 v1 v2 v3 σ = some z) (k : s_K G (d + 2) M_X4_listAndSteps vs0 σ0 Y_X4_listAndSteps e_V z r) : s_V G (d + 2) M_X4_listAndSteps vs0 σ0 Y_X4_listAndSteps (19, [.ref v0, .int v1, .int v2, .int v3], σ) (e_V r) := by
  have le0 : s_le σ (e_V r).2 := s_lek hem_V (l_X4_listAndSteps_19 hf) k
  refine ⟨le0, ?_⟩
  intro p e s m below meth c H locs cells slots ls X I hn1 hn2 hl
  have hn : cells + σ0.2.1 ≤ σ.2.1 ∧ slots + σ0.2.2.1 ≤ σ.2.2.1 := ⟨hn1, hn2⟩
  have hl : lv_has ls 4 [(0, .ref v0), (1, .int v1), (2, .int v2), (3, .int v3)] := hl
  have hx := X.1
  have hb : c.code = cX4_listAndSteps := X.2.1
  have hown : s.vm.findClass RX4 = some m.cls := X.2.2.2.2.2.1
  have hts := X.2.2.2.2.2.2.1
  refine W.eq (g2 := F0 m 19 ls []) rfl ?_
  unfold T_X4_listAndSteps_19 at hf
  obtain ⟨q1, h1, hf⟩ := s_bind hf
  obtain ⟨q2, h2, hf⟩ := s_bind hf
  cases hf
  have k : _ = r := k
  subst k
  have le3 : s_le q2.2 q2.2 := s_le.rf
  have le4 := s_le.tr (l_X4_addStep h2) le3
  refine lv_aload_n hx hb dX4_listAndSteps_19 rfl (lv_at hl 0 rfl) ?_
  refine lv_iconst (v := 3) hx hb dX4_listAndSteps_20 (by decide) ?_
  refine lv_iload_n hx hb dX4_listAndSteps_21 rfl (lv_at hl 2 rfl) ?_
  refine lv_iload_n hx hb dX4_listAndSteps_22 rfl (lv_at hl 1 rfl) ?_
  refine lv_iconst (v := (-1)) hx hb dX4_listAndSteps_23 (by decide) ?_
  refine lv_iconst (v := (-1)) hx hb dX4_listAndSteps_24 (by decide) ?_
  refine r_callV (Y := M_X4_addStep) (v := none) X I w_1314 my_X4_addStep (by omega) (t_X4_addStep (G := G) (d := d + 0) h1) (b_X4_addStep h1) rfl rfl hl.1 rfl (Nat.le_of_ble_eq_true rfl) hn le4 dX4_listAndSteps_25 (fun H locs cells slots I hn1 hn2 => ?_)
  have I : s_I G q1.2 s H locs := I
  have hn : cells + σ0.2.1 ≤ q1.2.2.1 ∧ slots + σ0.2.2.1 ≤ q1.2.2.2.1 := ⟨hn1, hn2⟩
  refine lv_aload_n hx hb dX4_listAndSteps_28 rfl (lv_at hl 0 rfl) ?_
  refine lv_iconst (v := 4) hx hb dX4_listAndSteps_29 (by decide) ?_
  refine lv_iload_n hx hb dX4_listAndSteps_30 rfl (lv_at hl 3 rfl) ?_
  refine lv_iload_n hx hb dX4_listAndSteps_31 rfl (lv_at hl 1 rfl) ?_
  refine lv_iconst (v := (-1)) hx hb dX4_listAndSteps_32 (by decide) ?_
  refine lv_iconst (v := (-1)) hx hb dX4_listAndSteps_33 (by decide) ?_
  refine r_callV (Y := M_X4_addStep) (v := none) X I w_1314 my_X4_addStep (by omega) (t_X4_addStep (G := G) (d := d + 0) h2) (b_X4_addStep h2) rfl rfl hl.1 rfl (Nat.le_of_ble_eq_true rfl) hn le3 dX4_listAndSteps_34 (fun H locs cells slots I hn1 hn2 => ?_)
  have I : s_I G q2.2 s H locs := I
  have hn : cells + σ0.2.1 ≤ q2.2.2.1 ∧ slots + σ0.2.2.1 ≤ q2.2.2.2.1 := ⟨hn1, hn2⟩
  exact r_vret X I rfl rfl hn dX4_listAndSteps_37
theorem v_X4_listAndSteps {G : sG} {d : Nat} {vs0 : List Value} {σ0 : sS} {x : sL} {z : sZ Unit} {r : Unit × sS} (hs : S_X4_listAndSteps x = some z) (k : s_K G (d + 2) M_X4_listAndSteps vs0 σ0 Y_X4_listAndSteps e_V z r) : s_V G (d + 2) M_X4_listAndSteps vs0 σ0 Y_X4_listAndSteps x (e_V r) := by
  obtain ⟨pc, vs, σ⟩ := x
  unfold S_X4_listAndSteps at hs
  dsimp only at hs
  rcases s_ite hs with ⟨c, hs⟩ | ⟨-, hs⟩
  · subst c
    unfold U_X4_listAndSteps_0 at hs
    obtain ⟨a0, g0, hs⟩ := s_bind hs
    obtain ⟨a1, g1, hs⟩ := s_bind hs
    obtain ⟨a2, g2, hs⟩ := s_bind hs
    obtain ⟨a3, g3, hs⟩ := s_bind hs
    obtain ⟨u9, ge, hs⟩ := s_bind hs
    rw [g_r_to g0, g_i_to g1, g_i_to g2, g_i_to g3, g_e_to ge]
    exact v_X4_listAndSteps_0 hs k
  rcases s_ite hs with ⟨c, hs⟩ | ⟨-, hs⟩
  · subst c
    unfold U_X4_listAndSteps_19 at hs
    obtain ⟨a0, g0, hs⟩ := s_bind hs
    obtain ⟨a1, g1, hs⟩ := s_bind hs
    obtain ⟨a2, g2, hs⟩ := s_bind hs
    obtain ⟨a3, g3, hs⟩ := s_bind hs
    obtain ⟨u9, ge, hs⟩ := s_bind hs
    rw [g_r_to g0, g_i_to g1, g_i_to g2, g_i_to g3, g_e_to ge]
    exact v_X4_listAndSteps_19 hs k
  cases hs
theorem t_X4_listAndSteps {G : sG} {d : Nat} {v0 : Nat} {v1 : Int32} {v2 : Int32} {v3 : Int32} {σ : sS} {q : Unit × sS} (h : F_X4_listAndSteps v0 v1 v2 v3 σ = some q) : s_T G (d + 2) M_X4_listAndSteps [.ref v0, .int v1, .int v2, .int v3] σ (e_V q) := by
  unfold F_X4_listAndSteps at h
  obtain ⟨-, -, h⟩ := s_bind h
  exact s_ofV rfl (by decide) (Nat.le_of_ble_eq_true rfl) rfl rfl (s_run_ind (V := fun x r => s_V G (d + 2) M_X4_listAndSteps [.ref v0, .int v1, .int v2, .int v3] σ Y_X4_listAndSteps x (e_V r)) (fun x z r hs hk => v_X4_listAndSteps hs (by cases z <;> exact hk)) h)
