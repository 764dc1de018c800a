/-! X8_cutBy -/
noncomputable def T_X8_cutBy_0 (v0 : Nat) (v1 : Int32) (v2 : Int32) (σ : sS) : Option (sZ Int32) :=
  (F_X8_at v0 v1 0 σ).bind fun q1 =>
  if q1.1 = v2 then ((F_X8_endOf v0 v1 1 q1.2).bind fun q2 =>
  some (.inr (q2.1, q2.2)))
  else (some (.inr ((-1), q1.2)))
noncomputable def U_X8_cutBy_0 (vs : List Value) (σ : sS) : Option (sZ Int32) := (g_r vs).bind fun a0 => (g_i a0.2).bind fun a1 => (g_i a1.2).bind fun a2 => (g_e a2.2).bind fun _ => T_X8_cutBy_0 a0.1 a1.1 a2.1 σ
noncomputable def S_X8_cutBy (x : sL) : Option (sZ Int32) := if x.1 = 0 then U_X8_cutBy_0 x.2.1 x.2.2 else none
def Y_X8_cutBy (pc : Nat) : List Nat := if pc = 0 then [0, 1, 2] else []
noncomputable def F_X8_cutBy (v0 : Nat) (v1 : Int32) (v2 : Int32) (σ : sS) : Option (Int32 × sS) := (s_is σ v0 8).bind fun _ => s_run S_X8_cutBy (0, [.ref v0, .int v1, .int v2], σ)
theorem l_X8_cutBy_0 {v0 : Nat} {v1 : Int32} {v2 : Int32} {σ : sS} {z : sZ Int32} (hf : T_X8_cutBy_0 v0 v1 v2 σ = some z) : s_lz σ z := by
  unfold T_X8_cutBy_0 at hf
  obtain ⟨q1, hh, hf⟩ := s_bind hf
  refine s_lz.tr (l_X8_at hh) ?_
  rcases s_ite hf with ⟨-, hf⟩ | ⟨-, hf⟩
  · obtain ⟨q2, hh, hf⟩ := s_bind hf
    refine s_lz.tr (l_X8_endOf hh) ?_
    cases hf
    exact s_le.rf
  · cases hf
    exact s_le.rf
theorem l_X8_cutBy_s {x : sL} {z : sZ Int32} (hs : S_X8_cutBy x = some z) : s_lz x.2.2 z := by
  obtain ⟨pc, vs, σ⟩ := x
  unfold S_X8_cutBy at hs
  dsimp only at hs ⊢
  rcases s_ite hs with ⟨c, hs⟩ | ⟨-, hs⟩
  · subst c
    unfold U_X8_cutBy_0 at hs
    obtain ⟨a0, g0, hs⟩ := s_bind hs
    obtain ⟨a1, g1, hs⟩ := s_bind hs
    obtain ⟨a2, g2, hs⟩ := s_bind hs
    obtain ⟨u9, ge, hs⟩ := s_bind hs
    exact l_X8_cutBy_0 hs
  cases hs
theorem l_X8_cutBy {v0 : Nat} {v1 : Int32} {v2 : Int32} {σ : sS} {q : Int32 × sS} (h : F_X8_cutBy v0 v1 v2 σ = some q) : s_le σ q.2 := by
  unfold F_X8_cutBy at h
  obtain ⟨-, -, h⟩ := s_bind h
  exact s_run_ind (V := fun x r => s_le x.2.2 r.2) (fun x z r hs hk => by
    have h9 := l_X8_cutBy_s hs
    cases z with
    | inl y => exact s_le.tr h9 hk
    | inr q => cases hk; exact h9) h
theorem b_X8_cutBy {v0 : Nat} {v1 : Int32} {v2 : Int32} {σ : sS} {q : Int32 × sS} (h : F_X8_cutBy v0 v1 v2 σ = some q) : ∃ fs, σ.1 v0 = some (.inr (8, fs)) := by
  unfold F_X8_cutBy at h
  obtain ⟨u, hu, -⟩ := s_bind h
  exact s_is_to hu
set_option maxRecDepth 100000 in
set_option maxHeartbeats 4000000 in
theorem v_X8_cutBy_0 {G : sG} {d : Nat} {vs0 : List Value} {σ0 : sS} {v0 : Nat} {v1 : Int32} {v2 : Int32} {σ : sS} {z : sZ Int32} {r : Int32 × sS} (hf : T_X8_cutBy_0 v0 v1 v2 σ = some z) (k : s_K G (d + 3) M_X8_cutBy vs0 σ0 Y_X8_cutBy e_I z r) : s_V G (d + 3) M_X8_cutBy vs0 σ0 Y_X8_cutBy (0, [.ref v0, .int v1, .int v2], σ) (e_I r) := by
  have le0 : s_le σ (e_I r).2 := s_lek hem_I (l_X8_cutBy_0 hf) k
  refine ⟨le0, ?_⟩
  intro p e s m below meth c H locs cells slots ls X I hn1 hn2 hl
  have hn : cells + σ0.2.1 ≤ σ.2.1 ∧ slots + σ0.2.2.1 ≤ σ.2.2.1 := ⟨hn1, hn2⟩
  have hl : lv_has ls 3 [(0, .ref v0), (1, .int v1), (2, .int v2)] := hl
  have hx := X.1
  have hb : c.code = cX8_cutBy := X.2.1
  have hown : s.vm.findClass RX8 = some m.cls := X.2.2.2.2.2.1
  have hts := X.2.2.2.2.2.2.1
  refine W.eq (g2 := F0 m 0 ls []) rfl ?_
  unfold T_X8_cutBy_0 at hf
  obtain ⟨q1, h1, hf⟩ := s_bind hf
  have le2 : s_le q1.2 (e_I r).2 := by
    refine s_lek hem_I ?_ k
    rcases s_ite hf with ⟨-, hf⟩ | ⟨-, hf⟩
    · obtain ⟨q2, hh, hf⟩ := s_bind hf
      refine s_lz.tr (l_X8_endOf hh) ?_
      cases hf
      exact s_le.rf
    · cases hf
      exact s_le.rf
  refine lv_aload_n hx hb dX8_cutBy_0 rfl (lv_at hl 0 rfl) ?_
  refine lv_iload_n hx hb dX8_cutBy_1 rfl (lv_at hl 1 rfl) ?_
  refine lv_iconst (v := 0) hx hb dX8_cutBy_2 (by decide) ?_
  refine r_callV (Y := M_X8_at) (v := some (.int q1.1)) X I w_1901 my_X8_at (by omega) (t_X8_at (G := G) (d := d + 1) h1) (b_X8_at h1) rfl rfl hl.1 rfl (Nat.le_of_ble_eq_true rfl) hn le2 dX8_cutBy_3 (fun H locs cells slots I hn1 hn2 => ?_)
  have I : s_I G q1.2 s H locs := I
  have hn : cells + σ0.2.1 ≤ q1.2.2.1 ∧ slots + σ0.2.2.1 ≤ q1.2.2.2.1 := ⟨hn1, hn2⟩
  refine lv_iload_n hx hb dX8_cutBy_6 rfl (lv_at hl 2 rfl) ?_
  rcases s_ite hf with ⟨c3, hf⟩ | ⟨c3, hf⟩
  · refine lv_icmp_ne (tgt := 19) hx hb dX8_cutBy_7 (by decide) (fun n => absurd c3 n) (fun _ => ?_)
    obtain ⟨q2, h4, hf⟩ := s_bind hf
    cases hf
    have k : _ = r := k
    subst k
    have le5 : s_le q2.2 q2.2 := s_le.rf
    refine lv_aload_n hx hb dX8_cutBy_10 rfl (lv_at hl 0 rfl) ?_
    refine lv_iload_n hx hb dX8_cutBy_11 rfl (lv_at hl 1 rfl) ?_
    refine lv_iconst (v := 1) hx hb dX8_cutBy_12 (by decide) ?_
    refine r_callV (Y := M_X8_endOf) (v := some (.int q2.1)) X I w_2063 my_X8_endOf (by omega) (t_X8_endOf (G := G) (d := d + 0) h4) (b_X8_endOf h4) rfl rfl hl.1 rfl (Nat.le_of_ble_eq_true rfl) hn le5 dX8_cutBy_13 (fun H locs cells slots I hn1 hn2 => ?_)
    have I : s_I G q2.2 s H locs := I
    have hn : cells + σ0.2.1 ≤ q2.2.2.1 ∧ slots + σ0.2.2.1 ≤ q2.2.2.2.1 := ⟨hn1, hn2⟩
    refine lv_goto (tgt := 20) hx hb dX8_cutBy_16 (by decide) ?_
    exact r_iret X I rfl rfl rfl hn dX8_cutBy_20
  · refine lv_icmp_ne (tgt := 19) hx hb dX8_cutBy_7 (by decide) (fun _ => ?_) (fun n => absurd n c3)
    cases hf
    have k : _ = r := k
    subst k
    refine lv_iconst (v := (-1)) hx hb dX8_cutBy_19 (by decide) ?_
    exact r_iret X I rfl rfl rfl hn dX8_cutBy_20
theorem v_X8_cutBy {G : sG} {d : Nat} {vs0 : List Value} {σ0 : sS} {x : sL} {z : sZ Int32} {r : Int32 × sS} (hs : S_X8_cutBy x = some z) (k : s_K G (d + 3) M_X8_cutBy vs0 σ0 Y_X8_cutBy e_I z r) : s_V G (d + 3) M_X8_cutBy vs0 σ0 Y_X8_cutBy x (e_I r) := by
  obtain ⟨pc, vs, σ⟩ := x
  unfold S_X8_cutBy at hs
  dsimp only at hs
  rcases s_ite hs with ⟨c, hs⟩ | ⟨-, hs⟩
  · subst c
    unfold U_X8_cutBy_0 at hs
    obtain ⟨a0, g0, hs⟩ := s_bind hs
    obtain ⟨a1, g1, hs⟩ := s_bind hs
    obtain ⟨a2, g2, hs⟩ := s_bind hs
    obtain ⟨u9, ge, hs⟩ := s_bind hs
    rw [g_r_to g0, g_i_to g1, g_i_to g2, g_e_to ge]
    exact v_X8_cutBy_0 hs k
  cases hs
theorem t_X8_cutBy {G : sG} {d : Nat} {v0 : Nat} {v1 : Int32} {v2 : Int32} {σ : sS} {q : Int32 × sS} (h : F_X8_cutBy v0 v1 v2 σ = some q) : s_T G (d + 3) M_X8_cutBy [.ref v0, .int v1, .int v2] σ (e_I q) := by
  unfold F_X8_cutBy at h
  obtain ⟨-, -, h⟩ := s_bind h
  exact s_ofV rfl (by decide) (Nat.le_of_ble_eq_true rfl) rfl rfl (s_run_ind (V := fun x r => s_V G (d + 3) M_X8_cutBy [.ref v0, .int v1, .int v2] σ Y_X8_cutBy x (e_I r)) (fun x z r hs hk => v_X8_cutBy hs (by cases z <;> exact hk)) h)
/-! X8_isLeft -/
noncomputable def T_X8_isLeft_0 (v0 : Nat) (v1 : Int32) (v2 : Int32) (v3 : Int32) (σ : sS) : Option (sZ Int32) :=
  (F_X8_cutBy v0 v1 v2 σ).bind fun q1 =>
  if q1.1 < 0 then (some (.inr (0, q1.2)))
  else ((s_fr q1.2 v0 8 4).bind fun x2 =>
  (s_ai q1.2 x2 v3).bind fun x3 =>
  (F_X8_isPart v0 v1 1 q1.1 (-1) v3 0 x3 q1.2).bind fun q4 =>
  if q4.1 = 0 then (some (.inr (0, q4.2)))
  else (some (.inr (1, q4.2))))
noncomputable def U_X8_isLeft_0 (vs : List Value) (σ : sS) : Option (sZ Int32) := (g_r vs).bind fun a0 => (g_i a0.2).bind fun a1 => (g_i a1.2).bind fun a2 => (g_i a2.2).bind fun a3 => (g_e a3.2).bind fun _ => T_X8_isLeft_0 a0.1 a1.1 a2.1 a3.1 σ
noncomputable def S_X8_isLeft (x : sL) : Option (sZ Int32) := if x.1 = 0 then U_X8_isLeft_0 x.2.1 x.2.2 else none
def Y_X8_isLeft (pc : Nat) : List Nat := if pc = 0 then [0, 1, 2, 3] else []
noncomputable def F_X8_isLeft (v0 : Nat) (v1 : Int32) (v2 : Int32) (v3 : Int32) (σ : sS) : Option (Int32 × sS) := (s_is σ v0 8).bind fun _ => s_run S_X8_isLeft (0, [.ref v0, .int v1, .int v2, .int v3], σ)
theorem l_X8_isLeft_0 {v0 : Nat} {v1 : Int32} {v2 : Int32} {v3 : Int32} {σ : sS} {z : sZ Int32} (hf : T_X8_isLeft_0 v0 v1 v2 v3 σ = some z) : s_lz σ z := by
  unfold T_X8_isLeft_0 at hf
  obtain ⟨q1, hh, hf⟩ := s_bind hf
  refine s_lz.tr (l_X8_cutBy hh) ?_
  rcases s_ite hf with ⟨-, hf⟩ | ⟨-, hf⟩
  · cases hf
    exact s_le.rf
  · obtain ⟨x2, -, hf⟩ := s_bind hf
    obtain ⟨x3, -, hf⟩ := s_bind hf
    obtain ⟨q4, hh, hf⟩ := s_bind hf
    refine s_lz.tr (l_X8_isPart hh) ?_
    rcases s_ite hf with ⟨-, hf⟩ | ⟨-, hf⟩
    · cases hf
      exact s_le.rf
    · cases hf
      exact s_le.rf
theorem l_X8_isLeft_s {x : sL} {z : sZ Int32} (hs : S_X8_isLeft x = some z) : s_lz x.2.2 z := by
  obtain ⟨pc, vs, σ⟩ := x
  unfold S_X8_isLeft at hs
  dsimp only at hs ⊢
  rcases s_ite hs with ⟨c, hs⟩ | ⟨-, hs⟩
  · subst c
    unfold U_X8_isLeft_0 at hs
    obtain ⟨a0, g0, hs⟩ := s_bind hs
    obtain ⟨a1, g1, hs⟩ := s_bind hs
    obtain ⟨a2, g2, hs⟩ := s_bind hs
    obtain ⟨a3, g3, hs⟩ := s_bind hs
    obtain ⟨u9, ge, hs⟩ := s_bind hs
    exact l_X8_isLeft_0 hs
  cases hs
theorem l_X8_isLeft {v0 : Nat} {v1 : Int32} {v2 : Int32} {v3 : Int32} {σ : sS} {q : Int32 × sS} (h : F_X8_isLeft v0 v1 v2 v3 σ = some q) : s_le σ q.2 := by
  unfold F_X8_isLeft at h
  obtain ⟨-, -, h⟩ := s_bind h
  exact s_run_ind (V := fun x r => s_le x.2.2 r.2) (fun x z r hs hk => by
    have h9 := l_X8_isLeft_s hs
    cases z with
    | inl y => exact s_le.tr h9 hk
    | inr q => cases hk; exact h9) h
theorem b_X8_isLeft {v0 : Nat} {v1 : Int32} {v2 : Int32} {v3 : Int32} {σ : sS} {q : Int32 × sS} (h : F_X8_isLeft v0 v1 v2 v3 σ = some q) : ∃ fs, σ.1 v0 = some (.inr (8, fs)) := by
  unfold F_X8_isLeft at h
  obtain ⟨u, hu, -⟩ := s_bind h
  exact s_is_to hu
set_option maxRecDepth 100000 in
set_option maxHeartbeats 4000000 in
theorem v_X8_isLeft_0 {G : sG} {d : Nat} {vs0 : List Value} {σ0 : sS} {v0 : Nat} {v1 : Int32} {v2 : Int32} {v3 : Int32} {σ : sS} {z : sZ Int32} {r : Int32 × sS} (hf : T_X8_isLeft_0 v0 v1 v2 v3 σ = some z) (k : s_K G (d + 4) M_X8_isLeft vs0 σ0 Y_X8_isLeft e_I z r) : s_V G (d + 4) M_X8_isLeft vs0 σ0 Y_X8_isLeft (0, [.ref v0, .int v1, .int v2, .int v3], σ) (e_I r) := by
  have le0 : s_le σ (e_I r).2 := s_lek hem_I (l_X8_isLeft_0 hf) k
  refine ⟨le0, ?_⟩
  intro p e s m below meth c H locs cells slots ls X I hn1 hn2 hl
  have hn : cells + σ0.2.1 ≤ σ.2.1 ∧ slots + σ0.2.2.1 ≤ σ.2.2.1 := ⟨hn1, hn2⟩
  have hl : lv_has ls 5 [(0, .ref v0), (1, .int v1), (2, .int v2), (3, .int v3)] := hl
  have hx := X.1
  have hb : c.code = cX8_isLeft := X.2.1
  have hown : s.vm.findClass RX8 = some m.cls := X.2.2.2.2.2.1
  have hts := X.2.2.2.2.2.2.1
  refine W.eq (g2 := F0 m 0 ls []) rfl ?_
  unfold T_X8_isLeft_0 at hf
  obtain ⟨q1, h1, hf⟩ := s_bind hf
  have le2 : s_le q1.2 (e_I r).2 := by
    refine s_lek hem_I ?_ k
    rcases s_ite hf with ⟨-, hf⟩ | ⟨-, hf⟩
    · cases hf
      exact s_le.rf
    · obtain ⟨x2, -, hf⟩ := s_bind hf
      obtain ⟨x3, -, hf⟩ := s_bind hf
      obtain ⟨q4, hh, hf⟩ := s_bind hf
      refine s_lz.tr (l_X8_isPart hh) ?_
      rcases s_ite hf with ⟨-, hf⟩ | ⟨-, hf⟩
      · cases hf
        exact s_le.rf
      · cases hf
        exact s_le.rf
  refine lv_aload_n hx hb dX8_isLeft_0 rfl (lv_at hl 0 rfl) ?_
  refine lv_iload_n hx hb dX8_isLeft_1 rfl (lv_at hl 1 rfl) ?_
  refine lv_iload_n hx hb dX8_isLeft_2 rfl (lv_at hl 2 rfl) ?_
  refine r_callV (Y := M_X8_cutBy) (v := some (.int q1.1)) X I w_2059 my_X8_cutBy (by omega) (t_X8_cutBy (G := G) (d := d + 0) h1) (b_X8_cutBy h1) rfl rfl hl.1 rfl (Nat.le_of_ble_eq_true rfl) hn le2 dX8_isLeft_3 (fun H locs cells slots I hn1 hn2 => ?_)
  have I : s_I G q1.2 s H locs := I
  have hn : cells + σ0.2.1 ≤ q1.2.2.1 ∧ slots + σ0.2.2.1 ≤ q1.2.2.2.1 := ⟨hn1, hn2⟩
  refine lv_istore (lv' := [(4, .int q1.1), (0, .ref v0), (1, .int v1), (2, .int v2), (3, .int v3)]) hx hb dX8_isLeft_6 hl (by decide) rfl (fun ls hl => ?_)
  refine lv_iload hx hb dX8_isLeft_8 (lv_at hl 0 rfl) ?_
  rcases s_ite hf with ⟨c3, hf⟩ | ⟨c3, hf⟩
  · refine lv_if_lt (tgt := 37) hx hb dX8_isLeft_10 (by decide) (fun _ => ?_) (fun n => absurd c3 n)
    cases hf
    have k : _ = r := k
    subst k
    refine lv_iconst (v := 0) hx hb dX8_isLeft_37 (by decide) ?_
    exact r_iret X I rfl rfl rfl hn dX8_isLeft_38
  · refine lv_if_lt (tgt := 37) hx hb dX8_isLeft_10 (by decide) (fun n => absurd n c3) (fun _ => ?_)
    obtain ⟨x2, h4, hf⟩ := s_bind hf
    obtain ⟨x3, h5, hf⟩ := s_bind hf
    obtain ⟨q4, h6, hf⟩ := s_bind hf
    have le7 : s_le q4.2 (e_I r).2 := by
      refine s_lek hem_I ?_ k
      rcases s_ite hf with ⟨-, hf⟩ | ⟨-, hf⟩
      · cases hf
        exact s_le.rf
      · cases hf
        exact s_le.rf
    refine lv_aload_n hx hb dX8_isLeft_13 rfl (lv_at hl 1 rfl) ?_
    refine lv_iload_n hx hb dX8_isLeft_14 rfl (lv_at hl 2 rfl) ?_
    refine lv_iconst (v := 1) hx hb dX8_isLeft_15 (by decide) ?_
    refine lv_iload hx hb dX8_isLeft_16 (lv_at hl 0 rfl) ?_
    refine lv_iconst (v := (-1)) hx hb dX8_isLeft_18 (by decide) ?_
    refine lv_iload_n hx hb dX8_isLeft_19 rfl (lv_at hl 4 rfl) ?_
    refine lv_iconst (v := 0) hx hb dX8_isLeft_20 (by decide) ?_
    refine lv_aload_n hx hb dX8_isLeft_21 rfl (lv_at hl 1 rfl) ?_
    refine r_gr X I fl_X8_20 h4 dX8_isLeft_22 ?_
    refine lv_iload_n hx hb dX8_isLeft_25 rfl (lv_at hl 4 rfl) ?_
    refine r_iald X I h5 dX8_isLeft_26 ?_
    refine r_callV (Y := M_X8_isPart) (v := some (.int q4.1)) X I w_1928 my_X8_isPart (by omega) (t_X8_isPart (G := G) (d := d + 1) h6) (b_X8_isPart h6) rfl rfl hl.1 rfl (Nat.le_of_ble_eq_true rfl) hn le7 dX8_isLeft_27 (fun H locs cells slots I hn1 hn2 => ?_)
    have I : s_I G q4.2 s H locs := I
    have hn : cells + σ0.2.1 ≤ q4.2.2.1 ∧ slots + σ0.2.2.1 ≤ q4.2.2.2.1 := ⟨hn1, hn2⟩
    rcases s_ite hf with ⟨c8, hf⟩ | ⟨c8, hf⟩
    · refine lv_if_eq (tgt := 37) hx hb dX8_isLeft_30 (by decide) (fun _ => ?_) (fun n => absurd c8 n)
      cases hf
      have k : _ = r := k
      subst k
      refine lv_iconst (v := 0) hx hb dX8_isLeft_37 (by decide) ?_
      exact r_iret X I rfl rfl rfl hn dX8_isLeft_38
    · refine lv_if_eq (tgt := 37) hx hb dX8_isLeft_30 (by decide) (fun n => absurd n c8) (fun _ => ?_)
      cases hf
      have k : _ = r := k
      subst k
      refine lv_iconst (v := 1) hx hb dX8_isLeft_33 (by decide) ?_
      refine lv_goto (tgt := 38) hx hb dX8_isLeft_34 (by decide) ?_
      exact r_iret X I rfl rfl rfl hn dX8_isLeft_38
theorem v_X8_isLeft {G : sG} {d : Nat} {vs0 : List Value} {σ0 : sS} {x : sL} {z : sZ Int32} {r : Int32 × sS} (hs : S_X8_isLeft x = some z) (k : s_K G (d + 4) M_X8_isLeft vs0 σ0 Y_X8_isLeft e_I z r) : s_V G (d + 4) M_X8_isLeft vs0 σ0 Y_X8_isLeft x (e_I r) := by
  obtain ⟨pc, vs, σ⟩ := x
  unfold S_X8_isLeft at hs
  dsimp only at hs
  rcases s_ite hs with ⟨c, hs⟩ | ⟨-, hs⟩
  · subst c
    unfold U_X8_isLeft_0 at hs
    obtain ⟨a0, g0, hs⟩ := s_bind hs
    obtain ⟨a1, g1, hs⟩ := s_bind hs
    obtain ⟨a2, g2, hs⟩ := s_bind hs
    obtain ⟨a3, g3, hs⟩ := s_bind hs
    obtain ⟨u9, ge, hs⟩ := s_bind hs
    rw [g_r_to g0, g_i_to g1, g_i_to g2, g_i_to g3, g_e_to ge]
    exact v_X8_isLeft_0 hs k
  cases hs
theorem t_X8_isLeft {G : sG} {d : Nat} {v0 : Nat} {v1 : Int32} {v2 : Int32} {v3 : Int32} {σ : sS} {q : Int32 × sS} (h : F_X8_isLeft v0 v1 v2 v3 σ = some q) : s_T G (d + 4) M_X8_isLeft [.ref v0, .int v1, .int v2, .int v3] σ (e_I q) := by
  unfold F_X8_isLeft at h
  obtain ⟨-, -, h⟩ := s_bind h
  exact s_ofV rfl (by decide) (Nat.le_of_ble_eq_true rfl) rfl rfl (s_run_ind (V := fun x r => s_V G (d + 4) M_X8_isLeft [.ref v0, .int v1, .int v2, .int v3] σ Y_X8_isLeft x (e_I r)) (fun x z r hs hk => v_X8_isLeft hs (by cases z <;> exact hk)) h)
/-! X8_isRight -/
noncomputable def T_X8_isRight_0 (v0 : Nat) (v1 : Int32) (v2 : Int32) (v3 : Int32) (σ : sS) : Option (sZ Int32) :=
  (F_X8_cutBy v0 v1 v2 σ).bind fun q1 =>
  if q1.1 < 0 then (some (.inr (0, q1.2)))
  else ((s_fr q1.2 v0 8 4).bind fun x2 =>
  (s_ai q1.2 x2 v1).bind fun x3 =>
  (s_fr q1.2 v0 8 4).bind fun x4 =>
  (s_ai q1.2 x4 v3).bind fun x5 =>
  (F_X8_isPart v0 v1 q1.1 x3 (-1) v3 0 x5 q1.2).bind fun q6 =>
  if q6.1 = 0 then (some (.inr (0, q6.2)))
  else (some (.inr (1, q6.2))))
noncomputable def U_X8_isRight_0 (vs : List Value) (σ : sS) : Option (sZ Int32) := (g_r vs).bind fun a0 => (g_i a0.2).bind fun a1 => (g_i a1.2).bind fun a2 => (g_i a2.2).bind fun a3 => (g_e a3.2).bind fun _ => T_X8_isRight_0 a0.1 a1.1 a2.1 a3.1 σ
noncomputable def S_X8_isRight (x : sL) : Option (sZ Int32) := if x.1 = 0 then U_X8_isRight_0 x.2.1 x.2.2 else none
def Y_X8_isRight (pc : Nat) : List Nat := if pc = 0 then [0, 1, 2, 3] else []
noncomputable def F_X8_isRight (v0 : Nat) (v1 : Int32) (v2 : Int32) (v3 : Int32) (σ : sS) : Option (Int32 × sS) := (s_is σ v0 8).bind fun _ => s_run S_X8_isRight (0, [.ref v0, .int v1, .int v2, .int v3], σ)
theorem l_X8_isRight_0 {v0 : Nat} {v1 : Int32} {v2 : Int32} {v3 : Int32} {σ : sS} {z : sZ Int32} (hf : T_X8_isRight_0 v0 v1 v2 v3 σ = some z) : s_lz σ z := by
  unfold T_X8_isRight_0 at hf
  obtain ⟨q1, hh, hf⟩ := s_bind hf
  refine s_lz.tr (l_X8_cutBy hh) ?_
  rcases s_ite hf with ⟨-, hf⟩ | ⟨-, hf⟩
  · cases hf
    exact s_le.rf
  · obtain ⟨x2, -, hf⟩ := s_bind hf
    obtain ⟨x3, -, hf⟩ := s_bind hf
    obtain ⟨x4, -, hf⟩ := s_bind hf
    obtain ⟨x5, -, hf⟩ := s_bind hf
    obtain ⟨q6, hh, hf⟩ := s_bind hf
    refine s_lz.tr (l_X8_isPart hh) ?_
    rcases s_ite hf with ⟨-, hf⟩ | ⟨-, hf⟩
    · cases hf
      exact s_le.rf
    · cases hf
      exact s_le.rf
theorem l_X8_isRight_s {x : sL} {z : sZ Int32} (hs : S_X8_isRight x = some z) : s_lz x.2.2 z := by
  obtain ⟨pc, vs, σ⟩ := x
  unfold S_X8_isRight at hs
  dsimp only at hs ⊢
  rcases s_ite hs with ⟨c, hs⟩ | ⟨-, hs⟩
  · subst c
    unfold U_X8_isRight_0 at hs
    obtain ⟨a0, g0, hs⟩ := s_bind hs
    obtain ⟨a1, g1, hs⟩ := s_bind hs
    obtain ⟨a2, g2, hs⟩ := s_bind hs
    obtain ⟨a3, g3, hs⟩ := s_bind hs
    obtain ⟨u9, ge, hs⟩ := s_bind hs
    exact l_X8_isRight_0 hs
  cases hs
theorem l_X8_isRight {v0 : Nat} {v1 : Int32} {v2 : Int32} {v3 : Int32} {σ : sS} {q : Int32 × sS} (h : F_X8_isRight v0 v1 v2 v3 σ = some q) : s_le σ q.2 := by
  unfold F_X8_isRight at h
  obtain ⟨-, -, h⟩ := s_bind h
  exact s_run_ind (V := fun x r => s_le x.2.2 r.2) (fun x z r hs hk => by
    have h9 := l_X8_isRight_s hs
    cases z with
    | inl y => exact s_le.tr h9 hk
    | inr q => cases hk; exact h9) h
theorem b_X8_isRight {v0 : Nat} {v1 : Int32} {v2 : Int32} {v3 : Int32} {σ : sS} {q : Int32 × sS} (h : F_X8_isRight v0 v1 v2 v3 σ = some q) : ∃ fs, σ.1 v0 = some (.inr (8, fs)) := by
  unfold F_X8_isRight at h
  obtain ⟨u, hu, -⟩ := s_bind h
  exact s_is_to hu
set_option maxRecDepth 100000 in
set_option maxHeartbeats 4000000 in
theorem v_X8_isRight_0 {G : sG} {d : Nat} {vs0 : List Value} {σ0 : sS} {v0 : Nat} {v1 : Int32} {v2 : Int32} {v3 : Int32} {σ : sS} {z : sZ Int32} {r : Int32 × sS} (hf : T_X8_isRight_0 v0 v1 v2 v3 σ = some z) (k : s_K G (d + 4) M_X8_isRight vs0 σ0 Y_X8_isRight e_I z r) : s_V G (d + 4) M_X8_isRight vs0 σ0 Y_X8_isRight (0, [.ref v0, .int v1, .int v2, .int v3], σ) (e_I r) := by
  have le0 : s_le σ (e_I r).2 := s_lek hem_I (l_X8_isRight_0 hf) k
  refine ⟨le0, ?_⟩
  intro p e s m below meth c H locs cells slots ls X I hn1 hn2 hl
  have hn : cells + σ0.2.1 ≤ σ.2.1 ∧ slots + σ0.2.2.1 ≤ σ.2.2.1 := ⟨hn1, hn2⟩
  have hl : lv_has ls 5 [(0, .ref v0), (1, .int v1), (2, .int v2), (3, .int v3)] := hl
  have hx := X.1
  have hb : c.code = cX8_isRight := X.2.1
  have hown : s.vm.findClass RX8 = some m.cls := X.2.2.2.2.2.1
  have hts := X.2.2.2.2.2.2.1
  refine W.eq (g2 := F0 m 0 ls []) rfl ?_
  unfold T_X8_isRight_0 at hf
  obtain ⟨q1, h1, hf⟩ := s_bind hf
  have le2 : s_le q1.2 (e_I r).2 := by
    refine s_lek hem_I ?_ k
    rcases s_ite hf with ⟨-, hf⟩ | ⟨-, hf⟩
    · cases hf
      exact s_le.rf
    · obtain ⟨x2, -, hf⟩ := s_bind hf
      obtain ⟨x3, -, hf⟩ := s_bind hf
      obtain ⟨x4, -, hf⟩ := s_bind hf
      obtain ⟨x5, -, hf⟩ := s_bind hf
      obtain ⟨q6, hh, hf⟩ := s_bind hf
      refine s_lz.tr (l_X8_isPart hh) ?_
      rcases s_ite hf with ⟨-, hf⟩ | ⟨-, hf⟩
      · cases hf
        exact s_le.rf
      · cases hf
        exact s_le.rf
  refine lv_aload_n hx hb dX8_isRight_0 rfl (lv_at hl 0 rfl) ?_
  refine lv_iload_n hx hb dX8_isRight_1 rfl (lv_at hl 1 rfl) ?_
  refine lv_iload_n hx hb dX8_isRight_2 rfl (lv_at hl 2 rfl) ?_
  refine r_callV (Y := M_X8_cutBy) (v := some (.int q1.1)) X I w_2059 my_X8_cutBy (by omega) (t_X8_cutBy (G := G) (d := d + 0) h1) (b_X8_cutBy h1) rfl rfl hl.1 rfl (Nat.le_of_ble_eq_true rfl) hn le2 dX8_isRight_3 (fun H locs cells slots I hn1 hn2 => ?_)
  have I : s_I G q1.2 s H locs := I
  have hn : cells + σ0.2.1 ≤ q1.2.2.1 ∧ slots + σ0.2.2.1 ≤ q1.2.2.2.1 := ⟨hn1, hn2⟩
  refine lv_istore (lv' := [(4, .int q1.1), (0, .ref v0), (1, .int v1), (2, .int v2), (3, .int v3)]) hx hb dX8_isRight_6 hl (by decide) rfl (fun ls hl => ?_)
  refine lv_iload hx hb dX8_isRight_8 (lv_at hl 0 rfl) ?_
  rcases s_ite hf with ⟨c3, hf⟩ | ⟨c3, hf⟩
  · refine lv_if_lt (tgt := 42) hx hb dX8_isRight_10 (by decide) (fun _ => ?_) (fun n => absurd c3 n)
    cases hf
    have k : _ = r := k
    subst k
    refine lv_iconst (v := 0) hx hb dX8_isRight_42 (by decide) ?_
    exact r_iret X I rfl rfl rfl hn dX8_isRight_43
  · refine lv_if_lt (tgt := 42) hx hb dX8_isRight_10 (by decide) (fun n => absurd n c3) (fun _ => ?_)
    obtain ⟨x2, h4, hf⟩ := s_bind hf
    obtain ⟨x3, h5, hf⟩ := s_bind hf
    obtain ⟨x4, h6, hf⟩ := s_bind hf
    obtain ⟨x5, h7, hf⟩ := s_bind hf
    obtain ⟨q6, h8, hf⟩ := s_bind hf
    have le9 : s_le q6.2 (e_I r).2 := by
      refine s_lek hem_I ?_ k
      rcases s_ite hf with ⟨-, hf⟩ | ⟨-, hf⟩
      · cases hf
        exact s_le.rf
      · cases hf
        exact s_le.rf
    refine lv_aload_n hx hb dX8_isRight_13 rfl (lv_at hl 1 rfl) ?_
    refine lv_iload_n hx hb dX8_isRight_14 rfl (lv_at hl 2 rfl) ?_
    refine lv_iload hx hb dX8_isRight_15 (lv_at hl 0 rfl) ?_
    refine lv_aload_n hx hb dX8_isRight_17 rfl (lv_at hl 1 rfl) ?_
    refine r_gr X I fl_X8_20 h4 dX8_isRight_18 ?_
    refine lv_iload_n hx hb dX8_isRight_21 rfl (lv_at hl 2 rfl) ?_
    refine r_iald X I h5 dX8_isRight_22 ?_
    refine lv_iconst (v := (-1)) hx hb dX8_isRight_23 (by decide) ?_
    refine lv_iload_n hx hb dX8_isRight_24 rfl (lv_at hl 4 rfl) ?_
    refine lv_iconst (v := 0) hx hb dX8_isRight_25 (by decide) ?_
    refine lv_aload_n hx hb dX8_isRight_26 rfl (lv_at hl 1 rfl) ?_
    refine r_gr X I fl_X8_20 h6 dX8_isRight_27 ?_
    refine lv_iload_n hx hb dX8_isRight_30 rfl (lv_at hl 4 rfl) ?_
    refine r_iald X I h7 dX8_isRight_31 ?_
    refine r_callV (Y := M_X8_isPart) (v := some (.int q6.1)) X I w_1928 my_X8_isPart (by omega) (t_X8_isPart (G := G) (d := d + 1) h8) (b_X8_isPart h8) rfl rfl hl.1 rfl (Nat.le_of_ble_eq_true rfl) hn le9 dX8_isRight_32 (fun H locs cells slots I hn1 hn2 => ?_)
    have I : s_I G q6.2 s H locs := I
    have hn : cells + σ0.2.1 ≤ q6.2.2.1 ∧ slots + σ0.2.2.1 ≤ q6.2.2.2.1 := ⟨hn1, hn2⟩
    rcases s_ite hf with ⟨c10, hf⟩ | ⟨c10, hf⟩
    · refine lv_if_eq (tgt := 42) hx hb dX8_isRight_35 (by decide) (fun _ => ?_) (fun n => absurd c10 n)
      cases hf
      have k : _ = r := k
      subst k
      refine lv_iconst (v := 0) hx hb dX8_isRight_42 (by decide) ?_
      exact r_iret X I rfl rfl rfl hn dX8_isRight_43
    · refine lv_if_eq (tgt := 42) hx hb dX8_isRight_35 (by decide) (fun n => absurd n c10) (fun _ => ?_)
      cases hf
      have k : _ = r := k
      subst k
      refine lv_iconst (v := 1) hx hb dX8_isRight_38 (by decide) ?_
      refine lv_goto (tgt := 43) hx hb dX8_isRight_39 (by decide) ?_
      exact r_iret X I rfl rfl rfl hn dX8_isRight_43
theorem v_X8_isRight {G : sG} {d : Nat} {vs0 : List Value} {σ0 : sS} {x : sL} {z : sZ Int32} {r : Int32 × sS} (hs : S_X8_isRight x = some z) (k : s_K G (d + 4) M_X8_isRight vs0 σ0 Y_X8_isRight e_I z r) : s_V G (d + 4) M_X8_isRight vs0 σ0 Y_X8_isRight x (e_I r) := by
  obtain ⟨pc, vs, σ⟩ := x
  unfold S_X8_isRight at hs
  dsimp only at hs
  rcases s_ite hs with ⟨c, hs⟩ | ⟨-, hs⟩
  · subst c
    unfold U_X8_isRight_0 at hs
    obtain ⟨a0, g0, hs⟩ := s_bind hs
    obtain ⟨a1, g1, hs⟩ := s_bind hs
    obtain ⟨a2, g2, hs⟩ := s_bind hs
    obtain ⟨a3, g3, hs⟩ := s_bind hs
    obtain ⟨u9, ge, hs⟩ := s_bind hs
    rw [g_r_to g0, g_i_to g1, g_i_to g2, g_i_to g3, g_e_to ge]
    exact v_X8_isRight_0 hs k
  cases hs
theorem t_X8_isRight {G : sG} {d : Nat} {v0 : Nat} {v1 : Int32} {v2 : Int32} {v3 : Int32} {σ : sS} {q : Int32 × sS} (h : F_X8_isRight v0 v1 v2 v3 σ = some q) : s_T G (d + 4) M_X8_isRight [.ref v0, .int v1, .int v2, .int v3] σ (e_I q) := by
  unfold F_X8_isRight at h
  obtain ⟨-, -, h⟩ := s_bind h
  exact s_ofV rfl (by decide) (Nat.le_of_ble_eq_true rfl) rfl rfl (s_run_ind (V := fun x r => s_V G (d + 4) M_X8_isRight [.ref v0, .int v1, .int v2, .int v3] σ Y_X8_isRight x (e_I r)) (fun x z r hs hk => v_X8_isRight hs (by cases z <;> exact hk)) h)
/-! X8_isTwice -/
noncomputable def T_X8_isTwice_0 (v0 : Nat) (v1 : Int32) (v2 : Int32) (σ : sS) : Option (sZ Int32) :=
  (F_X8_at v0 v1 0 σ).bind fun q1 =>
  if q1.1 = 12 then ((F_X8_at v0 v1 1 q1.2).bind fun q2 =>
  if q2.1 = 12 then ((s_fr q2.2 v0 8 4).bind fun x3 =>
  (s_ai q2.2 x3 v1).bind fun x4 =>
  (s_fr q2.2 v0 8 4).bind fun x5 =>
  (s_ai q2.2 x5 v2).bind fun x6 =>
  (F_X8_isPart v0 v1 2 x4 (-1) v2 0 x6 q2.2).bind fun q7 =>
  if q7.1 = 0 then (some (.inr (0, q7.2)))
  else (some (.inr (1, q7.2))))
  else (some (.inr (0, q2.2))))
  else (some (.inr (0, q1.2)))
noncomputable def U_X8_isTwice_0 (vs : List Value) (σ : sS) : Option (sZ Int32) := (g_r vs).bind fun a0 => (g_i a0.2).bind fun a1 => (g_i a1.2).bind fun a2 => (g_e a2.2).bind fun _ => T_X8_isTwice_0 a0.1 a1.1 a2.1 σ
noncomputable def S_X8_isTwice (x : sL) : Option (sZ Int32) := if x.1 = 0 then U_X8_isTwice_0 x.2.1 x.2.2 else none
def Y_X8_isTwice (pc : Nat) : List Nat := if pc = 0 then [0, 1, 2] else []
noncomputable def F_X8_isTwice (v0 : Nat) (v1 : Int32) (v2 : Int32) (σ : sS) : Option (Int32 × sS) := (s_is σ v0 8).bind fun _ => s_run S_X8_isTwice (0, [.ref v0, .int v1, .int v2], σ)
theorem l_X8_isTwice_0 {v0 : Nat} {v1 : Int32} {v2 : Int32} {σ : sS} {z : sZ Int32} (hf : T_X8_isTwice_0 v0 v1 v2 σ = some z) : s_lz σ z := by
  unfold T_X8_isTwice_0 at hf
  obtain ⟨q1, hh, hf⟩ := s_bind hf
  refine s_lz.tr (l_X8_at hh) ?_
  rcases s_ite hf with ⟨-, hf⟩ | ⟨-, hf⟩
  · obtain ⟨q2, hh, hf⟩ := s_bind hf
    refine s_lz.tr (l_X8_at hh) ?_
    rcases s_ite hf with ⟨-, hf⟩ | ⟨-, hf⟩
    · obtain ⟨x3, -, hf⟩ := s_bind hf
      obtain ⟨x4, -, hf⟩ := s_bind hf
      obtain ⟨x5, -, hf⟩ := s_bind hf
      obtain ⟨x6, -, hf⟩ := s_bind hf
      obtain ⟨q7, hh, hf⟩ := s_bind hf
      refine s_lz.tr (l_X8_isPart hh) ?_
      rcases s_ite hf with ⟨-, hf⟩ | ⟨-, hf⟩
      · cases hf
        exact s_le.rf
      · cases hf
        exact s_le.rf
    · cases hf
      exact s_le.rf
  · cases hf
    exact s_le.rf
theorem l_X8_isTwice_s {x : sL} {z : sZ Int32} (hs : S_X8_isTwice x = some z) : s_lz x.2.2 z := by
  obtain ⟨pc, vs, σ⟩ := x
  unfold S_X8_isTwice at hs
  dsimp only at hs ⊢
  rcases s_ite hs with ⟨c, hs⟩ | ⟨-, hs⟩
  · subst c
    unfold U_X8_isTwice_0 at hs
    obtain ⟨a0, g0, hs⟩ := s_bind hs
    obtain ⟨a1, g1, hs⟩ := s_bind hs
    obtain ⟨a2, g2, hs⟩ := s_bind hs
    obtain ⟨u9, ge, hs⟩ := s_bind hs
    exact l_X8_isTwice_0 hs
  cases hs
theorem l_X8_isTwice {v0 : Nat} {v1 : Int32} {v2 : Int32} {σ : sS} {q : Int32 × sS} (h : F_X8_isTwice v0 v1 v2 σ = some q) : s_le σ q.2 := by
  unfold F_X8_isTwice at h
  obtain ⟨-, -, h⟩ := s_bind h
  exact s_run_ind (V := fun x r => s_le x.2.2 r.2) (fun x z r hs hk => by
    have h9 := l_X8_isTwice_s hs
    cases z with
    | inl y => exact s_le.tr h9 hk
    | inr q => cases hk; exact h9) h
theorem b_X8_isTwice {v0 : Nat} {v1 : Int32} {v2 : Int32} {σ : sS} {q : Int32 × sS} (h : F_X8_isTwice v0 v1 v2 σ = some q) : ∃ fs, σ.1 v0 = some (.inr (8, fs)) := by
  unfold F_X8_isTwice at h
  obtain ⟨u, hu, -⟩ := s_bind h
  exact s_is_to hu
set_option maxRecDepth 100000 in
set_option maxHeartbeats 4000000 in
theorem v_X8_isTwice_0 {G : sG} {d : Nat} {vs0 : List Value} {σ0 : sS} {v0 : Nat} {v1 : Int32} {v2 : Int32} {σ : sS} {z : sZ Int32} {r : Int32 × sS} (hf : T_X8_isTwice_0 v0 v1 v2 σ = some z) (k : s_K G (d + 3) M_X8_isTwice vs0 σ0 Y_X8_isTwice e_I z r) : s_V G (d + 3) M_X8_isTwice vs0 σ0 Y_X8_isTwice (0, [.ref v0, .int v1, .int v2], σ) (e_I r) := by
  have le0 : s_le σ (e_I r).2 := s_lek hem_I (l_X8_isTwice_0 hf) k
  refine ⟨le0, ?_⟩
  intro p e s m below meth c H locs cells slots ls X I hn1 hn2 hl
  have hn : cells + σ0.2.1 ≤ σ.2.1 ∧ slots + σ0.2.2.1 ≤ σ.2.2.1 := ⟨hn1, hn2⟩
  have hl : lv_has ls 3 [(0, .ref v0), (1, .int v1), (2, .int v2)] := hl
  have hx := X.1
  have hb : c.code = cX8_isTwice := X.2.1
  have hown : s.vm.findClass RX8 = some m.cls := X.2.2.2.2.2.1
  have hts := X.2.2.2.2.2.2.1
  refine W.eq (g2 := F0 m 0 ls []) rfl ?_
  unfold T_X8_isTwice_0 at hf
  obtain ⟨q1, h1, hf⟩ := s_bind hf
  have le2 : s_le q1.2 (e_I r).2 := by
    refine s_lek hem_I ?_ k
    rcases s_ite hf with ⟨-, hf⟩ | ⟨-, hf⟩
    · obtain ⟨q2, hh, hf⟩ := s_bind hf
      refine s_lz.tr (l_X8_at hh) ?_
      rcases s_ite hf with ⟨-, hf⟩ | ⟨-, hf⟩
      · obtain ⟨x3, -, hf⟩ := s_bind hf
        obtain ⟨x4, -, hf⟩ := s_bind hf
        obtain ⟨x5, -, hf⟩ := s_bind hf
        obtain ⟨x6, -, hf⟩ := s_bind hf
        obtain ⟨q7, hh, hf⟩ := s_bind hf
        refine s_lz.tr (l_X8_isPart hh) ?_
        rcases s_ite hf with ⟨-, hf⟩ | ⟨-, hf⟩
        · cases hf
          exact s_le.rf
        · cases hf
          exact s_le.rf
      · cases hf
        exact s_le.rf
    · cases hf
      exact s_le.rf
  refine lv_aload_n hx hb dX8_isTwice_0 rfl (lv_at hl 0 rfl) ?_
  refine lv_iload_n hx hb dX8_isTwice_1 rfl (lv_at hl 1 rfl) ?_
  refine lv_iconst (v := 0) hx hb dX8_isTwice_2 (by decide) ?_
  refine r_callV (Y := M_X8_at) (v := some (.int q1.1)) X I w_1901 my_X8_at (by omega) (t_X8_at (G := G) (d := d + 1) h1) (b_X8_at h1) rfl rfl hl.1 rfl (Nat.le_of_ble_eq_true rfl) hn le2 dX8_isTwice_3 (fun H locs cells slots I hn1 hn2 => ?_)
  have I : s_I G q1.2 s H locs := I
  have hn : cells + σ0.2.1 ≤ q1.2.2.1 ∧ slots + σ0.2.2.1 ≤ q1.2.2.2.1 := ⟨hn1, hn2⟩
  refine lv_bipush (v := 12) hx hb dX8_isTwice_6 (by decide) ?_
  rcases s_ite hf with ⟨c3, hf⟩ | ⟨c3, hf⟩
  · refine lv_icmp_ne (tgt := 50) hx hb dX8_isTwice_8 (by decide) (fun n => absurd c3 n) (fun _ => ?_)
    obtain ⟨q2, h4, hf⟩ := s_bind hf
    have le5 : s_le q2.2 (e_I r).2 := by
      refine s_lek hem_I ?_ k
      rcases s_ite hf with ⟨-, hf⟩ | ⟨-, hf⟩
      · obtain ⟨x3, -, hf⟩ := s_bind hf
        obtain ⟨x4, -, hf⟩ := s_bind hf
        obtain ⟨x5, -, hf⟩ := s_bind hf
        obtain ⟨x6, -, hf⟩ := s_bind hf
        obtain ⟨q7, hh, hf⟩ := s_bind hf
        refine s_lz.tr (l_X8_isPart hh) ?_
        rcases s_ite hf with ⟨-, hf⟩ | ⟨-, hf⟩
        · cases hf
          exact s_le.rf
        · cases hf
          exact s_le.rf
      · cases hf
        exact s_le.rf
    refine lv_aload_n hx hb dX8_isTwice_11 rfl (lv_at hl 0 rfl) ?_
    refine lv_iload_n hx hb dX8_isTwice_12 rfl (lv_at hl 1 rfl) ?_
    refine lv_iconst (v := 1) hx hb dX8_isTwice_13 (by decide) ?_
    refine r_callV (Y := M_X8_at) (v := some (.int q2.1)) X I w_1901 my_X8_at (by omega) (t_X8_at (G := G) (d := d + 1) h4) (b_X8_at h4) rfl rfl hl.1 rfl (Nat.le_of_ble_eq_true rfl) hn le5 dX8_isTwice_14 (fun H locs cells slots I hn1 hn2 => ?_)
    have I : s_I G q2.2 s H locs := I
    have hn : cells + σ0.2.1 ≤ q2.2.2.1 ∧ slots + σ0.2.2.1 ≤ q2.2.2.2.1 := ⟨hn1, hn2⟩
    refine lv_bipush (v := 12) hx hb dX8_isTwice_17 (by decide) ?_
    rcases s_ite hf with ⟨c6, hf⟩ | ⟨c6, hf⟩
    · refine lv_icmp_ne (tgt := 50) hx hb dX8_isTwice_19 (by decide) (fun n => absurd c6 n) (fun _ => ?_)
      obtain ⟨x3, h7, hf⟩ := s_bind hf
      obtain ⟨x4, h8, hf⟩ := s_bind hf
      obtain ⟨x5, h9, hf⟩ := s_bind hf
      obtain ⟨x6, h10, hf⟩ := s_bind hf
      obtain ⟨q7, h11, hf⟩ := s_bind hf
      have le12 : s_le q7.2 (e_I r).2 := by
        refine s_lek hem_I ?_ k
        rcases s_ite hf with ⟨-, hf⟩ | ⟨-, hf⟩
        · cases hf
          exact s_le.rf
        · cases hf
          exact s_le.rf
      refine lv_aload_n hx hb dX8_isTwice_22 rfl (lv_at hl 0 rfl) ?_
      refine lv_iload_n hx hb dX8_isTwice_23 rfl (lv_at hl 1 rfl) ?_
      refine lv_iconst (v := 2) hx hb dX8_isTwice_24 (by decide) ?_
      refine lv_aload_n hx hb dX8_isTwice_25 rfl (lv_at hl 0 rfl) ?_
      refine r_gr X I fl_X8_20 h7 dX8_isTwice_26 ?_
      refine lv_iload_n hx hb dX8_isTwice_29 rfl (lv_at hl 1 rfl) ?_
      refine r_iald X I h8 dX8_isTwice_30 ?_
      refine lv_iconst (v := (-1)) hx hb dX8_isTwice_31 (by decide) ?_
      refine lv_iload_n hx hb dX8_isTwice_32 rfl (lv_at hl 2 rfl) ?_
      refine lv_iconst (v := 0) hx hb dX8_isTwice_33 (by decide) ?_
      refine lv_aload_n hx hb dX8_isTwice_34 rfl (lv_at hl 0 rfl) ?_
      refine r_gr X I fl_X8_20 h9 dX8_isTwice_35 ?_
      refine lv_iload_n hx hb dX8_isTwice_38 rfl (lv_at hl 2 rfl) ?_
      refine r_iald X I h10 dX8_isTwice_39 ?_
      refine r_callV (Y := M_X8_isPart) (v := some (.int q7.1)) X I w_1928 my_X8_isPart (by omega) (t_X8_isPart (G := G) (d := d + 0) h11) (b_X8_isPart h11) rfl rfl hl.1 rfl (Nat.le_of_ble_eq_true rfl) hn le12 dX8_isTwice_40 (fun H locs cells slots I hn1 hn2 => ?_)
      have I : s_I G q7.2 s H locs := I
      have hn : cells + σ0.2.1 ≤ q7.2.2.1 ∧ slots + σ0.2.2.1 ≤ q7.2.2.2.1 := ⟨hn1, hn2⟩
      rcases s_ite hf with ⟨c13, hf⟩ | ⟨c13, hf⟩
      · refine lv_if_eq (tgt := 50) hx hb dX8_isTwice_43 (by decide) (fun _ => ?_) (fun n => absurd c13 n)
        cases hf
        have k : _ = r := k
        subst k
        refine lv_iconst (v := 0) hx hb dX8_isTwice_50 (by decide) ?_
        exact r_iret X I rfl rfl rfl hn dX8_isTwice_51
      · refine lv_if_eq (tgt := 50) hx hb dX8_isTwice_43 (by decide) (fun n => absurd n c13) (fun _ => ?_)
        cases hf
        have k : _ = r := k
        subst k
        refine lv_iconst (v := 1) hx hb dX8_isTwice_46 (by decide) ?_
        refine lv_goto (tgt := 51) hx hb dX8_isTwice_47 (by decide) ?_
        exact r_iret X I rfl rfl rfl hn dX8_isTwice_51
    · refine lv_icmp_ne (tgt := 50) hx hb dX8_isTwice_19 (by decide) (fun _ => ?_) (fun n => absurd n c6)
      cases hf
      have k : _ = r := k
      subst k
      refine lv_iconst (v := 0) hx hb dX8_isTwice_50 (by decide) ?_
      exact r_iret X I rfl rfl rfl hn dX8_isTwice_51
  · refine lv_icmp_ne (tgt := 50) hx hb dX8_isTwice_8 (by decide) (fun _ => ?_) (fun n => absurd n c3)
    cases hf
    have k : _ = r := k
    subst k
    refine lv_iconst (v := 0) hx hb dX8_isTwice_50 (by decide) ?_
    exact r_iret X I rfl rfl rfl hn dX8_isTwice_51
theorem v_X8_isTwice {G : sG} {d : Nat} {vs0 : List Value} {σ0 : sS} {x : sL} {z : sZ Int32} {r : Int32 × sS} (hs : S_X8_isTwice x = some z) (k : s_K G (d + 3) M_X8_isTwice vs0 σ0 Y_X8_isTwice e_I z r) : s_V G (d + 3) M_X8_isTwice vs0 σ0 Y_X8_isTwice x (e_I r) := by
  obtain ⟨pc, vs, σ⟩ := x
  unfold S_X8_isTwice at hs
  dsimp only at hs
  rcases s_ite hs with ⟨c, hs⟩ | ⟨-, hs⟩
  · subst c
    unfold U_X8_isTwice_0 at hs
    obtain ⟨a0, g0, hs⟩ := s_bind hs
    obtain ⟨a1, g1, hs⟩ := s_bind hs
    obtain ⟨a2, g2, hs⟩ := s_bind hs
    obtain ⟨u9, ge, hs⟩ := s_bind hs
    rw [g_r_to g0, g_i_to g1, g_i_to g2, g_e_to ge]
    exact v_X8_isTwice_0 hs k
  cases hs
theorem t_X8_isTwice {G : sG} {d : Nat} {v0 : Nat} {v1 : Int32} {v2 : Int32} {σ : sS} {q : Int32 × sS} (h : F_X8_isTwice v0 v1 v2 σ = some q) : s_T G (d + 3) M_X8_isTwice [.ref v0, .int v1, .int v2] σ (e_I q) := by
  unfold F_X8_isTwice at h
  obtain ⟨-, -, h⟩ := s_bind h
  exact s_ofV rfl (by decide) (Nat.le_of_ble_eq_true rfl) rfl rfl (s_run_ind (V := fun x r => s_V G (d + 3) M_X8_isTwice [.ref v0, .int v1, .int v2] σ Y_X8_isTwice x (e_I r)) (fun x z r hs hk => v_X8_isTwice hs (by cases z <;> exact hk)) h)
/-! X8_isCases -/
noncomputable def T_X8_isCases_0 (v0 : Nat) (v1 : Int32) (v2 : Int32) (v3 : Int32) (v4 : Int32) (σ : sS) : Option (sZ Int32) :=
  (F_X8_cutBy v0 v1 14 σ).bind fun q1 =>
  (F_X8_cutBy v0 v2 15 q1.2).bind fun q2 =>
  (F_X8_cutBy v0 v3 15 q2.2).bind fun q3 =>
  if q1.1 < 0 then (some (.inr (0, q3.2)))
  else (if q2.1 < 0 then (some (.inr (0, q3.2)))
  else (if q3.1 < 0 then (some (.inr (0, q3.2)))
  else ((F_X8_isRight v0 v2 15 v4 q3.2).bind fun q4 =>
  if q4.1 = 0 then (some (.inr (0, q4.2)))
  else ((F_X8_isRight v0 v3 15 v4 q4.2).bind fun q5 =>
  if q5.1 = 0 then (some (.inr (0, q5.2)))
  else ((F_X8_isPart v0 v1 1 q1.1 (-1) v2 1 q2.1 q5.2).bind fun q6 =>
  if q6.1 = 0 then (some (.inr (0, q6.2)))
  else ((s_fr q6.2 v0 8 4).bind fun x7 =>
  (s_ai q6.2 x7 v1).bind fun x8 =>
  (F_X8_isPart v0 v1 q1.1 x8 (-1) v3 1 q3.1 q6.2).bind fun q9 =>
  if q9.1 = 0 then (some (.inr (0, q9.2)))
  else (some (.inr (1, q9.2)))))))))
noncomputable def U_X8_isCases_0 (vs : List Value) (σ : sS) : Option (sZ Int32) := (g_r vs).bind fun a0 => (g_i a0.2).bind fun a1 => (g_i a1.2).bind fun a2 => (g_i a2.2).bind fun a3 => (g_i a3.2).bind fun a4 => (g_e a4.2).bind fun _ => T_X8_isCases_0 a0.1 a1.1 a2.1 a3.1 a4.1 σ
noncomputable def S_X8_isCases (x : sL) : Option (sZ Int32) := if x.1 = 0 then U_X8_isCases_0 x.2.1 x.2.2 else none
def Y_X8_isCases (pc : Nat) : List Nat := if pc = 0 then [0, 1, 2, 3, 4] else []
noncomputable def F_X8_isCases (v0 : Nat) (v1 : Int32) (v2 : Int32) (v3 : Int32) (v4 : Int32) (σ : sS) : Option (Int32 × sS) := (s_is σ v0 8).bind fun _ => s_run S_X8_isCases (0, [.ref v0, .int v1, .int v2, .int v3, .int v4], σ)
theorem l_X8_isCases_0 {v0 : Nat} {v1 : Int32} {v2 : Int32} {v3 : Int32} {v4 : Int32} {σ : sS} {z : sZ Int32} (hf : T_X8_isCases_0 v0 v1 v2 v3 v4 σ = some z) : s_lz σ z := by
  unfold T_X8_isCases_0 at hf
  obtain ⟨q1, hh, hf⟩ := s_bind hf
  refine s_lz.tr (l_X8_cutBy hh) ?_
  obtain ⟨q2, hh, hf⟩ := s_bind hf
  refine s_lz.tr (l_X8_cutBy hh) ?_
  obtain ⟨q3, hh, hf⟩ := s_bind hf
  refine s_lz.tr (l_X8_cutBy hh) ?_
  rcases s_ite hf with ⟨-, hf⟩ | ⟨-, hf⟩
  · cases hf
    exact s_le.rf
  · rcases s_ite hf with ⟨-, hf⟩ | ⟨-, hf⟩
    · cases hf
      exact s_le.rf
    · rcases s_ite hf with ⟨-, hf⟩ | ⟨-, hf⟩
      · cases hf
        exact s_le.rf
      · obtain ⟨q4, hh, hf⟩ := s_bind hf
        refine s_lz.tr (l_X8_isRight hh) ?_
        rcases s_ite hf with ⟨-, hf⟩ | ⟨-, hf⟩
        · cases hf
          exact s_le.rf
        · obtain ⟨q5, hh, hf⟩ := s_bind hf
          refine s_lz.tr (l_X8_isRight hh) ?_
          rcases s_ite hf with ⟨-, hf⟩ | ⟨-, hf⟩
          · cases hf
            exact s_le.rf
          · obtain ⟨q6, hh, hf⟩ := s_bind hf
            refine s_lz.tr (l_X8_isPart hh) ?_
            rcases s_ite hf with ⟨-, hf⟩ | ⟨-, hf⟩
            · cases hf
              exact s_le.rf
            · obtain ⟨x7, -, hf⟩ := s_bind hf
              obtain ⟨x8, -, hf⟩ := s_bind hf
              obtain ⟨q9, hh, hf⟩ := s_bind hf
              refine s_lz.tr (l_X8_isPart hh) ?_
              rcases s_ite hf with ⟨-, hf⟩ | ⟨-, hf⟩
              · cases hf
                exact s_le.rf
              · cases hf
                exact s_le.rf
theorem l_X8_isCases_s {x : sL} {z : sZ Int32} (hs : S_X8_isCases x = some z) : s_lz x.2.2 z := by
  obtain ⟨pc, vs, σ⟩ := x
  unfold S_X8_isCases at hs
  dsimp only at hs ⊢
  rcases s_ite hs with ⟨c, hs⟩ | ⟨-, hs⟩
  · subst c
    unfold U_X8_isCases_0 at hs
    obtain ⟨a0, g0, hs⟩ := s_bind hs
    obtain ⟨a1, g1, hs⟩ := s_bind hs
    obtain ⟨a2, g2, hs⟩ := s_bind hs
    obtain ⟨a3, g3, hs⟩ := s_bind hs
    obtain ⟨a4, g4, hs⟩ := s_bind hs
    obtain ⟨u9, ge, hs⟩ := s_bind hs
    exact l_X8_isCases_0 hs
  cases hs
theorem l_X8_isCases {v0 : Nat} {v1 : Int32} {v2 : Int32} {v3 : Int32} {v4 : Int32} {σ : sS} {q : Int32 × sS} (h : F_X8_isCases v0 v1 v2 v3 v4 σ = some q) : s_le σ q.2 := by
  unfold F_X8_isCases at h
  obtain ⟨-, -, h⟩ := s_bind h
  exact s_run_ind (V := fun x r => s_le x.2.2 r.2) (fun x z r hs hk => by
    have h9 := l_X8_isCases_s hs
    cases z with
    | inl y => exact s_le.tr h9 hk
    | inr q => cases hk; exact h9) h
theorem b_X8_isCases {v0 : Nat} {v1 : Int32} {v2 : Int32} {v3 : Int32} {v4 : Int32} {σ : sS} {q : Int32 × sS} (h : F_X8_isCases v0 v1 v2 v3 v4 σ = some q) : ∃ fs, σ.1 v0 = some (.inr (8, fs)) := by
  unfold F_X8_isCases at h
  obtain ⟨u, hu, -⟩ := s_bind h
  exact s_is_to hu
set_option maxRecDepth 100000 in
set_option maxHeartbeats 4000000 in
theorem v_X8_isCases_0 {G : sG} {d : Nat} {vs0 : List Value} {σ0 : sS} {v0 : Nat} {v1 : Int32} {v2 : Int32} {v3 : Int32} {v4 : Int32} {σ : sS} {z : sZ Int32} {r : Int32 × sS} (hf : T_X8_isCases_0 v0 v1 v2 v3 v4 σ = some z) (k : s_K G (d + 5) M_X8_isCases vs0 σ0 Y_X8_isCases e_I z r) : s_V G (d + 5) M_X8_isCases vs0 σ0 Y_X8_isCases (0, [.ref v0, .int v1, .int v2, .int v3, .int v4], σ) (e_I r) := by
  have le0 : s_le σ (e_I r).2 := s_lek hem_I (l_X8_isCases_0 hf) k
  refine ⟨le0, ?_⟩
  intro p e s m below meth c H locs cells slots ls X I hn1 hn2 hl
  have hn : cells + σ0.2.1 ≤ σ.2.1 ∧ slots + σ0.2.2.1 ≤ σ.2.2.1 := ⟨hn1, hn2⟩
  have hl : lv_has ls 8 [(0, .ref v0), (1, .int v1), (2, .int v2), (3, .int v3), (4, .int v4)] := hl
  have hx := X.1
  have hb : c.code = cX8_isCases := X.2.1
  have hown : s.vm.findClass RX8 = some m.cls := X.2.2.2.2.2.1
  have hts := X.2.2.2.2.2.2.1
  refine W.eq (g2 := F0 m 0 ls []) rfl ?_
  unfold T_X8_isCases_0 at hf
  obtain ⟨q1, h1, hf⟩ := s_bind hf
  obtain ⟨q2, h2, hf⟩ := s_bind hf
  obtain ⟨q3, h3, hf⟩ := s_bind hf
  have le4 : s_le q3.2 (e_I r).2 := by
    refine s_lek hem_I ?_ k
    rcases s_ite hf with ⟨-, hf⟩ | ⟨-, hf⟩
    · cases hf
      exact s_le.rf
    · rcases s_ite hf with ⟨-, hf⟩ | ⟨-, hf⟩
      · cases hf
        exact s_le.rf
      · rcases s_ite hf with ⟨-, hf⟩ | ⟨-, hf⟩
        · cases hf
          exact s_le.rf
        · obtain ⟨q4, hh, hf⟩ := s_bind hf
          refine s_lz.tr (l_X8_isRight hh) ?_
          rcases s_ite hf with ⟨-, hf⟩ | ⟨-, hf⟩
          · cases hf
            exact s_le.rf
          · obtain ⟨q5, hh, hf⟩ := s_bind hf
            refine s_lz.tr (l_X8_isRight hh) ?_
            rcases s_ite hf with ⟨-, hf⟩ | ⟨-, hf⟩
            · cases hf
              exact s_le.rf
            · obtain ⟨q6, hh, hf⟩ := s_bind hf
              refine s_lz.tr (l_X8_isPart hh) ?_
              rcases s_ite hf with ⟨-, hf⟩ | ⟨-, hf⟩
              · cases hf
                exact s_le.rf
              · obtain ⟨x7, -, hf⟩ := s_bind hf
                obtain ⟨x8, -, hf⟩ := s_bind hf
                obtain ⟨q9, hh, hf⟩ := s_bind hf
                refine s_lz.tr (l_X8_isPart hh) ?_
                rcases s_ite hf with ⟨-, hf⟩ | ⟨-, hf⟩
                · cases hf
                  exact s_le.rf
                · cases hf
                  exact s_le.rf
  have le5 := s_le.tr (l_X8_cutBy h3) le4
  have le6 := s_le.tr (l_X8_cutBy h2) le5
  refine lv_aload_n hx hb dX8_isCases_0 rfl (lv_at hl 0 rfl) ?_
  refine lv_iload_n hx hb dX8_isCases_1 rfl (lv_at hl 1 rfl) ?_
  refine lv_bipush (v := 14) hx hb dX8_isCases_2 (by decide) ?_
  refine r_callV (Y := M_X8_cutBy) (v := some (.int q1.1)) X I w_2059 my_X8_cutBy (by omega) (t_X8_cutBy (G := G) (d := d + 1) h1) (b_X8_cutBy h1) rfl rfl hl.1 rfl (Nat.le_of_ble_eq_true rfl) hn le6 dX8_isCases_4 (fun H locs cells slots I hn1 hn2 => ?_)
  have I : s_I G q1.2 s H locs := I
  have hn : cells + σ0.2.1 ≤ q1.2.2.1 ∧ slots + σ0.2.2.1 ≤ q1.2.2.2.1 := ⟨hn1, hn2⟩
  refine lv_istore (lv' := [(5, .int q1.1), (0, .ref v0), (1, .int v1), (2, .int v2), (3, .int v3), (4, .int v4)]) hx hb dX8_isCases_7 hl (by decide) rfl (fun ls hl => ?_)
  refine lv_aload_n hx hb dX8_isCases_9 rfl (lv_at hl 1 rfl) ?_
  refine lv_iload_n hx hb dX8_isCases_10 rfl (lv_at hl 3 rfl) ?_
  refine lv_bipush (v := 15) hx hb dX8_isCases_11 (by decide) ?_
  refine r_callV (Y := M_X8_cutBy) (v := some (.int q2.1)) X I w_2059 my_X8_cutBy (by omega) (t_X8_cutBy (G := G) (d := d + 1) h2) (b_X8_cutBy h2) rfl rfl hl.1 rfl (Nat.le_of_ble_eq_true rfl) hn le5 dX8_isCases_13 (fun H locs cells slots I hn1 hn2 => ?_)
  have I : s_I G q2.2 s H locs := I
  have hn : cells + σ0.2.1 ≤ q2.2.2.1 ∧ slots + σ0.2.2.1 ≤ q2.2.2.2.1 := ⟨hn1, hn2⟩
  refine lv_istore (lv' := [(6, .int q2.1), (5, .int q1.1), (0, .ref v0), (1, .int v1), (2, .int v2), (3, .int v3), (4, .int v4)]) hx hb dX8_isCases_16 hl (by decide) rfl (fun ls hl => ?_)
  refine lv_aload_n hx hb dX8_isCases_18 rfl (lv_at hl 2 rfl) ?_
  refine lv_iload_n hx hb dX8_isCases_19 rfl (lv_at hl 5 rfl) ?_
  refine lv_bipush (v := 15) hx hb dX8_isCases_20 (by decide) ?_
  refine r_callV (Y := M_X8_cutBy) (v := some (.int q3.1)) X I w_2059 my_X8_cutBy (by omega) (t_X8_cutBy (G := G) (d := d + 1) h3) (b_X8_cutBy h3) rfl rfl hl.1 rfl (Nat.le_of_ble_eq_true rfl) hn le4 dX8_isCases_22 (fun H locs cells slots I hn1 hn2 => ?_)
  have I : s_I G q3.2 s H locs := I
  have hn : cells + σ0.2.1 ≤ q3.2.2.1 ∧ slots + σ0.2.2.1 ≤ q3.2.2.2.1 := ⟨hn1, hn2⟩
  refine lv_istore (lv' := [(7, .int q3.1), (6, .int q2.1), (5, .int q1.1), (0, .ref v0), (1, .int v1), (2, .int v2), (3, .int v3), (4, .int v4)]) hx hb dX8_isCases_25 hl (by decide) rfl (fun ls hl => ?_)
  refine lv_iload hx hb dX8_isCases_27 (lv_at hl 2 rfl) ?_
  rcases s_ite hf with ⟨c7, hf⟩ | ⟨c7, hf⟩
  · refine lv_if_lt (tgt := 107) hx hb dX8_isCases_29 (by decide) (fun _ => ?_) (fun n => absurd c7 n)
    cases hf
    have k : _ = r := k
    subst k
    refine lv_iconst (v := 0) hx hb dX8_isCases_107 (by decide) ?_
    exact r_iret X I rfl rfl rfl hn dX8_isCases_108
  · refine lv_if_lt (tgt := 107) hx hb dX8_isCases_29 (by decide) (fun n => absurd n c7) (fun _ => ?_)
    refine lv_iload hx hb dX8_isCases_32 (lv_at hl 1 rfl) ?_
    rcases s_ite hf with ⟨c8, hf⟩ | ⟨c8, hf⟩
    · refine lv_if_lt (tgt := 107) hx hb dX8_isCases_34 (by decide) (fun _ => ?_) (fun n => absurd c8 n)
      cases hf
      have k : _ = r := k
      subst k
      refine lv_iconst (v := 0) hx hb dX8_isCases_107 (by decide) ?_
      exact r_iret X I rfl rfl rfl hn dX8_isCases_108
    · refine lv_if_lt (tgt := 107) hx hb dX8_isCases_34 (by decide) (fun n => absurd n c8) (fun _ => ?_)
      refine lv_iload hx hb dX8_isCases_37 (lv_at hl 0 rfl) ?_
      rcases s_ite hf with ⟨c9, hf⟩ | ⟨c9, hf⟩
      · refine lv_if_lt (tgt := 107) hx hb dX8_isCases_39 (by decide) (fun _ => ?_) (fun n => absurd c9 n)
        cases hf
        have k : _ = r := k
        subst k
        refine lv_iconst (v := 0) hx hb dX8_isCases_107 (by decide) ?_
        exact r_iret X I rfl rfl rfl hn dX8_isCases_108
      · refine lv_if_lt (tgt := 107) hx hb dX8_isCases_39 (by decide) (fun n => absurd n c9) (fun _ => ?_)
        obtain ⟨q4, h10, hf⟩ := s_bind hf
        have le11 : s_le q4.2 (e_I r).2 := by
          refine s_lek hem_I ?_ k
          rcases s_ite hf with ⟨-, hf⟩ | ⟨-, hf⟩
          · cases hf
            exact s_le.rf
          · obtain ⟨q5, hh, hf⟩ := s_bind hf
            refine s_lz.tr (l_X8_isRight hh) ?_
            rcases s_ite hf with ⟨-, hf⟩ | ⟨-, hf⟩
            · cases hf
              exact s_le.rf
            · obtain ⟨q6, hh, hf⟩ := s_bind hf
              refine s_lz.tr (l_X8_isPart hh) ?_
              rcases s_ite hf with ⟨-, hf⟩ | ⟨-, hf⟩
              · cases hf
                exact s_le.rf
              · obtain ⟨x7, -, hf⟩ := s_bind hf
                obtain ⟨x8, -, hf⟩ := s_bind hf
                obtain ⟨q9, hh, hf⟩ := s_bind hf
                refine s_lz.tr (l_X8_isPart hh) ?_
                rcases s_ite hf with ⟨-, hf⟩ | ⟨-, hf⟩
                · cases hf
                  exact s_le.rf
                · cases hf
                  exact s_le.rf
        refine lv_aload_n hx hb dX8_isCases_42 rfl (lv_at hl 3 rfl) ?_
        refine lv_iload_n hx hb dX8_isCases_43 rfl (lv_at hl 5 rfl) ?_
        refine lv_bipush (v := 15) hx hb dX8_isCases_44 (by decide) ?_
        refine lv_iload hx hb dX8_isCases_46 (lv_at hl 7 rfl) ?_
        refine r_callV (Y := M_X8_isRight) (v := some (.int q4.1)) X I w_2067 my_X8_isRight (by omega) (t_X8_isRight (G := G) (d := d + 0) h10) (b_X8_isRight h10) rfl rfl hl.1 rfl (Nat.le_of_ble_eq_true rfl) hn le11 dX8_isCases_48 (fun H locs cells slots I hn1 hn2 => ?_)
        have I : s_I G q4.2 s H locs := I
        have hn : cells + σ0.2.1 ≤ q4.2.2.1 ∧ slots + σ0.2.2.1 ≤ q4.2.2.2.1 := ⟨hn1, hn2⟩
        rcases s_ite hf with ⟨c12, hf⟩ | ⟨c12, hf⟩
        · refine lv_if_eq (tgt := 107) hx hb dX8_isCases_51 (by decide) (fun _ => ?_) (fun n => absurd c12 n)
          cases hf
          have k : _ = r := k
          subst k
          refine lv_iconst (v := 0) hx hb dX8_isCases_107 (by decide) ?_
          exact r_iret X I rfl rfl rfl hn dX8_isCases_108
        · refine lv_if_eq (tgt := 107) hx hb dX8_isCases_51 (by decide) (fun n => absurd n c12) (fun _ => ?_)
          obtain ⟨q5, h13, hf⟩ := s_bind hf
          have le14 : s_le q5.2 (e_I r).2 := by
            refine s_lek hem_I ?_ k
            rcases s_ite hf with ⟨-, hf⟩ | ⟨-, hf⟩
            · cases hf
              exact s_le.rf
            · obtain ⟨q6, hh, hf⟩ := s_bind hf
              refine s_lz.tr (l_X8_isPart hh) ?_
              rcases s_ite hf with ⟨-, hf⟩ | ⟨-, hf⟩
              · cases hf
                exact s_le.rf
              · obtain ⟨x7, -, hf⟩ := s_bind hf
                obtain ⟨x8, -, hf⟩ := s_bind hf
                obtain ⟨q9, hh, hf⟩ := s_bind hf
                refine s_lz.tr (l_X8_isPart hh) ?_
                rcases s_ite hf with ⟨-, hf⟩ | ⟨-, hf⟩
                · cases hf
                  exact s_le.rf
                · cases hf
                  exact s_le.rf
          refine lv_aload_n hx hb dX8_isCases_54 rfl (lv_at hl 3 rfl) ?_
          refine lv_iload_n hx hb dX8_isCases_55 rfl (lv_at hl 6 rfl) ?_
          refine lv_bipush (v := 15) hx hb dX8_isCases_56 (by decide) ?_
          refine lv_iload hx hb dX8_isCases_58 (lv_at hl 7 rfl) ?_
          refine r_callV (Y := M_X8_isRight) (v := some (.int q5.1)) X I w_2067 my_X8_isRight (by omega) (t_X8_isRight (G := G) (d := d + 0) h13) (b_X8_isRight h13) rfl rfl hl.1 rfl (Nat.le_of_ble_eq_true rfl) hn le14 dX8_isCases_60 (fun H locs cells slots I hn1 hn2 => ?_)
          have I : s_I G q5.2 s H locs := I
          have hn : cells + σ0.2.1 ≤ q5.2.2.1 ∧ slots + σ0.2.2.1 ≤ q5.2.2.2.1 := ⟨hn1, hn2⟩
          rcases s_ite hf with ⟨c15, hf⟩ | ⟨c15, hf⟩
          · refine lv_if_eq (tgt := 107) hx hb dX8_isCases_63 (by decide) (fun _ => ?_) (fun n => absurd c15 n)
            cases hf
            have k : _ = r := k
            subst k
            refine lv_iconst (v := 0) hx hb dX8_isCases_107 (by decide) ?_
            exact r_iret X I rfl rfl rfl hn dX8_isCases_108
          · refine lv_if_eq (tgt := 107) hx hb dX8_isCases_63 (by decide) (fun n => absurd n c15) (fun _ => ?_)
            obtain ⟨q6, h16, hf⟩ := s_bind hf
            have le17 : s_le q6.2 (e_I r).2 := by
              refine s_lek hem_I ?_ k
              rcases s_ite hf with ⟨-, hf⟩ | ⟨-, hf⟩
              · cases hf
                exact s_le.rf
              · obtain ⟨x7, -, hf⟩ := s_bind hf
                obtain ⟨x8, -, hf⟩ := s_bind hf
                obtain ⟨q9, hh, hf⟩ := s_bind hf
                refine s_lz.tr (l_X8_isPart hh) ?_
                rcases s_ite hf with ⟨-, hf⟩ | ⟨-, hf⟩
                · cases hf
                  exact s_le.rf
                · cases hf
                  exact s_le.rf
            refine lv_aload_n hx hb dX8_isCases_66 rfl (lv_at hl 3 rfl) ?_
            refine lv_iload_n hx hb dX8_isCases_67 rfl (lv_at hl 4 rfl) ?_
            refine lv_iconst (v := 1) hx hb dX8_isCases_68 (by decide) ?_
            refine lv_iload hx hb dX8_isCases_69 (lv_at hl 2 rfl) ?_
            refine lv_iconst (v := (-1)) hx hb dX8_isCases_71 (by decide) ?_
            refine lv_iload_n hx hb dX8_isCases_72 rfl (lv_at hl 5 rfl) ?_
            refine lv_iconst (v := 1) hx hb dX8_isCases_73 (by decide) ?_
            refine lv_iload hx hb dX8_isCases_74 (lv_at hl 1 rfl) ?_
            refine r_callV (Y := M_X8_isPart) (v := some (.int q6.1)) X I w_1928 my_X8_isPart (by omega) (t_X8_isPart (G := G) (d := d + 2) h16) (b_X8_isPart h16) rfl rfl hl.1 rfl (Nat.le_of_ble_eq_true rfl) hn le17 dX8_isCases_76 (fun H locs cells slots I hn1 hn2 => ?_)
            have I : s_I G q6.2 s H locs := I
            have hn : cells + σ0.2.1 ≤ q6.2.2.1 ∧ slots + σ0.2.2.1 ≤ q6.2.2.2.1 := ⟨hn1, hn2⟩
            rcases s_ite hf with ⟨c18, hf⟩ | ⟨c18, hf⟩
            · refine lv_if_eq (tgt := 107) hx hb dX8_isCases_79 (by decide) (fun _ => ?_) (fun n => absurd c18 n)
              cases hf
              have k : _ = r := k
              subst k
              refine lv_iconst (v := 0) hx hb dX8_isCases_107 (by decide) ?_
              exact r_iret X I rfl rfl rfl hn dX8_isCases_108
            · refine lv_if_eq (tgt := 107) hx hb dX8_isCases_79 (by decide) (fun n => absurd n c18) (fun _ => ?_)
              obtain ⟨x7, h19, hf⟩ := s_bind hf
              obtain ⟨x8, h20, hf⟩ := s_bind hf
              obtain ⟨q9, h21, hf⟩ := s_bind hf
              have le22 : s_le q9.2 (e_I r).2 := by
                refine s_lek hem_I ?_ k
                rcases s_ite hf with ⟨-, hf⟩ | ⟨-, hf⟩
                · cases hf
                  exact s_le.rf
                · cases hf
                  exact s_le.rf
              refine lv_aload_n hx hb dX8_isCases_82 rfl (lv_at hl 3 rfl) ?_
              refine lv_iload_n hx hb dX8_isCases_83 rfl (lv_at hl 4 rfl) ?_
              refine lv_iload hx hb dX8_isCases_84 (lv_at hl 2 rfl) ?_
              refine lv_aload_n hx hb dX8_isCases_86 rfl (lv_at hl 3 rfl) ?_
              refine r_gr X I fl_X8_20 h19 dX8_isCases_87 ?_
              refine lv_iload_n hx hb dX8_isCases_90 rfl (lv_at hl 4 rfl) ?_
              refine r_iald X I h20 dX8_isCases_91 ?_
              refine lv_iconst (v := (-1)) hx hb dX8_isCases_92 (by decide) ?_
              refine lv_iload_n hx hb dX8_isCases_93 rfl (lv_at hl 6 rfl) ?_
              refine lv_iconst (v := 1) hx hb dX8_isCases_94 (by decide) ?_
              refine lv_iload hx hb dX8_isCases_95 (lv_at hl 0 rfl) ?_
              refine r_callV (Y := M_X8_isPart) (v := some (.int q9.1)) X I w_1928 my_X8_isPart (by omega) (t_X8_isPart (G := G) (d := d + 2) h21) (b_X8_isPart h21) rfl rfl hl.1 rfl (Nat.le_of_ble_eq_true rfl) hn le22 dX8_isCases_97 (fun H locs cells slots I hn1 hn2 => ?_)
              have I : s_I G q9.2 s H locs := I
              have hn : cells + σ0.2.1 ≤ q9.2.2.1 ∧ slots + σ0.2.2.1 ≤ q9.2.2.2.1 := ⟨hn1, hn2⟩
              rcases s_ite hf with ⟨c23, hf⟩ | ⟨c23, hf⟩
              · refine lv_if_eq (tgt := 107) hx hb dX8_isCases_100 (by decide) (fun _ => ?_) (fun n => absurd c23 n)
                cases hf
                have k : _ = r := k
                subst k
                refine lv_iconst (v := 0) hx hb dX8_isCases_107 (by decide) ?_
                exact r_iret X I rfl rfl rfl hn dX8_isCases_108
              · refine lv_if_eq (tgt := 107) hx hb dX8_isCases_100 (by decide) (fun n => absurd n c23) (fun _ => ?_)
                cases hf
                have k : _ = r := k
                subst k
                refine lv_iconst (v := 1) hx hb dX8_isCases_103 (by decide) ?_
                refine lv_goto (tgt := 108) hx hb dX8_isCases_104 (by decide) ?_
                exact r_iret X I rfl rfl rfl hn dX8_isCases_108
theorem v_X8_isCases {G : sG} {d : Nat} {vs0 : List Value} {σ0 : sS} {x : sL} {z : sZ Int32} {r : Int32 × sS} (hs : S_X8_isCases x = some z) (k : s_K G (d + 5) M_X8_isCases vs0 σ0 Y_X8_isCases e_I z r) : s_V G (d + 5) M_X8_isCases vs0 σ0 Y_X8_isCases x (e_I r) := by
  obtain ⟨pc, vs, σ⟩ := x
  unfold S_X8_isCases at hs
  dsimp only at hs
  rcases s_ite hs with ⟨c, hs⟩ | ⟨-, hs⟩
  · subst c
    unfold U_X8_isCases_0 at hs
    obtain ⟨a0, g0, hs⟩ := s_bind hs
    obtain ⟨a1, g1, hs⟩ := s_bind hs
    obtain ⟨a2, g2, hs⟩ := s_bind hs
    obtain ⟨a3, g3, hs⟩ := s_bind hs
    obtain ⟨a4, g4, hs⟩ := s_bind hs
    obtain ⟨u9, ge, hs⟩ := s_bind hs
    rw [g_r_to g0, g_i_to g1, g_i_to g2, g_i_to g3, g_i_to g4, g_e_to ge]
    exact v_X8_isCases_0 hs k
  cases hs
theorem t_X8_isCases {G : sG} {d : Nat} {v0 : Nat} {v1 : Int32} {v2 : Int32} {v3 : Int32} {v4 : Int32} {σ : sS} {q : Int32 × sS} (h : F_X8_isCases v0 v1 v2 v3 v4 σ = some q) : s_T G (d + 5) M_X8_isCases [.ref v0, .int v1, .int v2, .int v3, .int v4] σ (e_I q) := by
  unfold F_X8_isCases at h
  obtain ⟨-, -, h⟩ := s_bind h
  exact s_ofV rfl (by decide) (Nat.le_of_ble_eq_true rfl) rfl rfl (s_run_ind (V := fun x r => s_V G (d + 5) M_X8_isCases [.ref v0, .int v1, .int v2, .int v3, .int v4] σ Y_X8_isCases x (e_I r)) (fun x z r hs hk => v_X8_isCases hs (by cases z <;> exact hk)) h)
/-! X8_isOf -/
noncomputable def T_X8_isOf_0 (v0 : Nat) (v1 : Int32) (v2 : Int32) (v3 : Int32) (v4 : Int32) (σ : sS) : Option (sZ Int32) :=
  (F_X8_at v0 v1 0 σ).bind fun q1 =>
  if q1.1 = v2 then ((s_fr q1.2 v0 8 4).bind fun x2 =>
  (s_ai q1.2 x2 v1).bind fun x3 =>
  (s_fr q1.2 v0 8 4).bind fun x4 =>
  (s_ai q1.2 x4 v3).bind fun x5 =>
  (F_X8_isPart v0 v1 1 x3 v4 v3 0 x5 q1.2).bind fun q6 =>
  if q6.1 = 0 then (some (.inr (0, q6.2)))
  else (some (.inr (1, q6.2))))
  else (some (.inr (0, q1.2)))
noncomputable def U_X8_isOf_0 (vs : List Value) (σ : sS) : Option (sZ Int32) := (g_r vs).bind fun a0 => (g_i a0.2).bind fun a1 => (g_i a1.2).bind fun a2 => (g_i a2.2).bind fun a3 => (g_i a3.2).bind fun a4 => (g_e a4.2).bind fun _ => T_X8_isOf_0 a0.1 a1.1 a2.1 a3.1 a4.1 σ
noncomputable def S_X8_isOf (x : sL) : Option (sZ Int32) := if x.1 = 0 then U_X8_isOf_0 x.2.1 x.2.2 else none
def Y_X8_isOf (pc : Nat) : List Nat := if pc = 0 then [0, 1, 2, 3, 4] else []
noncomputable def F_X8_isOf (v0 : Nat) (v1 : Int32) (v2 : Int32) (v3 : Int32) (v4 : Int32) (σ : sS) : Option (Int32 × sS) := (s_is σ v0 8).bind fun _ => s_run S_X8_isOf (0, [.ref v0, .int v1, .int v2, .int v3, .int v4], σ)
theorem l_X8_isOf_0 {v0 : Nat} {v1 : Int32} {v2 : Int32} {v3 : Int32} {v4 : Int32} {σ : sS} {z : sZ Int32} (hf : T_X8_isOf_0 v0 v1 v2 v3 v4 σ = some z) : s_lz σ z := by
  unfold T_X8_isOf_0 at hf
  obtain ⟨q1, hh, hf⟩ := s_bind hf
  refine s_lz.tr (l_X8_at hh) ?_
  rcases s_ite hf with ⟨-, hf⟩ | ⟨-, hf⟩
  · obtain ⟨x2, -, hf⟩ := s_bind hf
    obtain ⟨x3, -, hf⟩ := s_bind hf
    obtain ⟨x4, -, hf⟩ := s_bind hf
    obtain ⟨x5, -, hf⟩ := s_bind hf
    obtain ⟨q6, hh, hf⟩ := s_bind hf
    refine s_lz.tr (l_X8_isPart hh) ?_
    rcases s_ite hf with ⟨-, hf⟩ | ⟨-, hf⟩
    · cases hf
      exact s_le.rf
    · cases hf
      exact s_le.rf
  · cases hf
    exact s_le.rf
theorem l_X8_isOf_s {x : sL} {z : sZ Int32} (hs : S_X8_isOf x = some z) : s_lz x.2.2 z := by
  obtain ⟨pc, vs, σ⟩ := x
  unfold S_X8_isOf at hs
  dsimp only at hs ⊢
  rcases s_ite hs with ⟨c, hs⟩ | ⟨-, hs⟩
  · subst c
    unfold U_X8_isOf_0 at hs
    obtain ⟨a0, g0, hs⟩ := s_bind hs
    obtain ⟨a1, g1, hs⟩ := s_bind hs
    obtain ⟨a2, g2, hs⟩ := s_bind hs
    obtain ⟨a3, g3, hs⟩ := s_bind hs
    obtain ⟨a4, g4, hs⟩ := s_bind hs
    obtain ⟨u9, ge, hs⟩ := s_bind hs
    exact l_X8_isOf_0 hs
  cases hs
theorem l_X8_isOf {v0 : Nat} {v1 : Int32} {v2 : Int32} {v3 : Int32} {v4 : Int32} {σ : sS} {q : Int32 × sS} (h : F_X8_isOf v0 v1 v2 v3 v4 σ = some q) : s_le σ q.2 := by
  unfold F_X8_isOf at h
  obtain ⟨-, -, h⟩ := s_bind h
  exact s_run_ind (V := fun x r => s_le x.2.2 r.2) (fun x z r hs hk => by
    have h9 := l_X8_isOf_s hs
    cases z with
    | inl y => exact s_le.tr h9 hk
    | inr q => cases hk; exact h9) h
theorem b_X8_isOf {v0 : Nat} {v1 : Int32} {v2 : Int32} {v3 : Int32} {v4 : Int32} {σ : sS} {q : Int32 × sS} (h : F_X8_isOf v0 v1 v2 v3 v4 σ = some q) : ∃ fs, σ.1 v0 = some (.inr (8, fs)) := by
  unfold F_X8_isOf at h
  obtain ⟨u, hu, -⟩ := s_bind h
  exact s_is_to hu
set_option maxRecDepth 100000 in
set_option maxHeartbeats 4000000 in
theorem v_X8_isOf_0 {G : sG} {d : Nat} {vs0 : List Value} {σ0 : sS} {v0 : Nat} {v1 : Int32} {v2 : Int32} {v3 : Int32} {v4 : Int32} {σ : sS} {z : sZ Int32} {r : Int32 × sS} (hf : T_X8_isOf_0 v0 v1 v2 v3 v4 σ = some z) (k : s_K G (d + 3) M_X8_isOf vs0 σ0 Y_X8_isOf e_I z r) : s_V G (d + 3) M_X8_isOf vs0 σ0 Y_X8_isOf (0, [.ref v0, .int v1, .int v2, .int v3, .int v4], σ) (e_I r) := by
  have le0 : s_le σ (e_I r).2 := s_lek hem_I (l_X8_isOf_0 hf) k
  refine ⟨le0, ?_⟩
  intro p e s m below meth c H locs cells slots ls X I hn1 hn2 hl
  have hn : cells + σ0.2.1 ≤ σ.2.1 ∧ slots + σ0.2.2.1 ≤ σ.2.2.1 := ⟨hn1, hn2⟩
  have hl : lv_has ls 5 [(0, .ref v0), (1, .int v1), (2, .int v2), (3, .int v3), (4, .int v4)] := hl
  have hx := X.1
  have hb : c.code = cX8_isOf := X.2.1
  have hown : s.vm.findClass RX8 = some m.cls := X.2.2.2.2.2.1
  have hts := X.2.2.2.2.2.2.1
  refine W.eq (g2 := F0 m 0 ls []) rfl ?_
  unfold T_X8_isOf_0 at hf
  obtain ⟨q1, h1, hf⟩ := s_bind hf
  have le2 : s_le q1.2 (e_I r).2 := by
    refine s_lek hem_I ?_ k
    rcases s_ite hf with ⟨-, hf⟩ | ⟨-, hf⟩
    · obtain ⟨x2, -, hf⟩ := s_bind hf
      obtain ⟨x3, -, hf⟩ := s_bind hf
      obtain ⟨x4, -, hf⟩ := s_bind hf
      obtain ⟨x5, -, hf⟩ := s_bind hf
      obtain ⟨q6, hh, hf⟩ := s_bind hf
      refine s_lz.tr (l_X8_isPart hh) ?_
      rcases s_ite hf with ⟨-, hf⟩ | ⟨-, hf⟩
      · cases hf
        exact s_le.rf
      · cases hf
        exact s_le.rf
    · cases hf
      exact s_le.rf
  refine lv_aload_n hx hb dX8_isOf_0 rfl (lv_at hl 0 rfl) ?_
  refine lv_iload_n hx hb dX8_isOf_1 rfl (lv_at hl 1 rfl) ?_
  refine lv_iconst (v := 0) hx hb dX8_isOf_2 (by decide) ?_
  refine r_callV (Y := M_X8_at) (v := some (.int q1.1)) X I w_1901 my_X8_at (by omega) (t_X8_at (G := G) (d := d + 1) h1) (b_X8_at h1) rfl rfl hl.1 rfl (Nat.le_of_ble_eq_true rfl) hn le2 dX8_isOf_3 (fun H locs cells slots I hn1 hn2 => ?_)
  have I : s_I G q1.2 s H locs := I
  have hn : cells + σ0.2.1 ≤ q1.2.2.1 ∧ slots + σ0.2.2.1 ≤ q1.2.2.2.1 := ⟨hn1, hn2⟩
  refine lv_iload_n hx hb dX8_isOf_6 rfl (lv_at hl 2 rfl) ?_
  rcases s_ite hf with ⟨c3, hf⟩ | ⟨c3, hf⟩
  · refine lv_icmp_ne (tgt := 39) hx hb dX8_isOf_7 (by decide) (fun n => absurd c3 n) (fun _ => ?_)
    obtain ⟨x2, h4, hf⟩ := s_bind hf
    obtain ⟨x3, h5, hf⟩ := s_bind hf
    obtain ⟨x4, h6, hf⟩ := s_bind hf
    obtain ⟨x5, h7, hf⟩ := s_bind hf
    obtain ⟨q6, h8, hf⟩ := s_bind hf
    have le9 : s_le q6.2 (e_I r).2 := by
      refine s_lek hem_I ?_ k
      rcases s_ite hf with ⟨-, hf⟩ | ⟨-, hf⟩
      · cases hf
        exact s_le.rf
      · cases hf
        exact s_le.rf
    refine lv_aload_n hx hb dX8_isOf_10 rfl (lv_at hl 0 rfl) ?_
    refine lv_iload_n hx hb dX8_isOf_11 rfl (lv_at hl 1 rfl) ?_
    refine lv_iconst (v := 1) hx hb dX8_isOf_12 (by decide) ?_
    refine lv_aload_n hx hb dX8_isOf_13 rfl (lv_at hl 0 rfl) ?_
    refine r_gr X I fl_X8_20 h4 dX8_isOf_14 ?_
    refine lv_iload_n hx hb dX8_isOf_17 rfl (lv_at hl 1 rfl) ?_
    refine r_iald X I h5 dX8_isOf_18 ?_
    refine lv_iload hx hb dX8_isOf_19 (lv_at hl 4 rfl) ?_
    refine lv_iload_n hx hb dX8_isOf_21 rfl (lv_at hl 3 rfl) ?_
    refine lv_iconst (v := 0) hx hb dX8_isOf_22 (by decide) ?_
    refine lv_aload_n hx hb dX8_isOf_23 rfl (lv_at hl 0 rfl) ?_
    refine r_gr X I fl_X8_20 h6 dX8_isOf_24 ?_
    refine lv_iload_n hx hb dX8_isOf_27 rfl (lv_at hl 3 rfl) ?_
    refine r_iald X I h7 dX8_isOf_28 ?_
    refine r_callV (Y := M_X8_isPart) (v := some (.int q6.1)) X I w_1928 my_X8_isPart (by omega) (t_X8_isPart (G := G) (d := d + 0) h8) (b_X8_isPart h8) rfl rfl hl.1 rfl (Nat.le_of_ble_eq_true rfl) hn le9 dX8_isOf_29 (fun H locs cells slots I hn1 hn2 => ?_)
    have I : s_I G q6.2 s H locs := I
    have hn : cells + σ0.2.1 ≤ q6.2.2.1 ∧ slots + σ0.2.2.1 ≤ q6.2.2.2.1 := ⟨hn1, hn2⟩
    rcases s_ite hf with ⟨c10, hf⟩ | ⟨c10, hf⟩
    · refine lv_if_eq (tgt := 39) hx hb dX8_isOf_32 (by decide) (fun _ => ?_) (fun n => absurd c10 n)
      cases hf
      have k : _ = r := k
      subst k
      refine lv_iconst (v := 0) hx hb dX8_isOf_39 (by decide) ?_
      exact r_iret X I rfl rfl rfl hn dX8_isOf_40
    · refine lv_if_eq (tgt := 39) hx hb dX8_isOf_32 (by decide) (fun n => absurd n c10) (fun _ => ?_)
      cases hf
      have k : _ = r := k
      subst k
      refine lv_iconst (v := 1) hx hb dX8_isOf_35 (by decide) ?_
      refine lv_goto (tgt := 40) hx hb dX8_isOf_36 (by decide) ?_
      exact r_iret X I rfl rfl rfl hn dX8_isOf_40
  · refine lv_icmp_ne (tgt := 39) hx hb dX8_isOf_7 (by decide) (fun _ => ?_) (fun n => absurd n c3)
    cases hf
    have k : _ = r := k
    subst k
    refine lv_iconst (v := 0) hx hb dX8_isOf_39 (by decide) ?_
    exact r_iret X I rfl rfl rfl hn dX8_isOf_40
theorem v_X8_isOf {G : sG} {d : Nat} {vs0 : List Value} {σ0 : sS} {x : sL} {z : sZ Int32} {r : Int32 × sS} (hs : S_X8_isOf x = some z) (k : s_K G (d + 3) M_X8_isOf vs0 σ0 Y_X8_isOf e_I z r) : s_V G (d + 3) M_X8_isOf vs0 σ0 Y_X8_isOf x (e_I r) := by
  obtain ⟨pc, vs, σ⟩ := x
  unfold S_X8_isOf at hs
  dsimp only at hs
  rcases s_ite hs with ⟨c, hs⟩ | ⟨-, hs⟩
  · subst c
    unfold U_X8_isOf_0 at hs
    obtain ⟨a0, g0, hs⟩ := s_bind hs
    obtain ⟨a1, g1, hs⟩ := s_bind hs
    obtain ⟨a2, g2, hs⟩ := s_bind hs
    obtain ⟨a3, g3, hs⟩ := s_bind hs
    obtain ⟨a4, g4, hs⟩ := s_bind hs
    obtain ⟨u9, ge, hs⟩ := s_bind hs
    rw [g_r_to g0, g_i_to g1, g_i_to g2, g_i_to g3, g_i_to g4, g_e_to ge]
    exact v_X8_isOf_0 hs k
  cases hs
theorem t_X8_isOf {G : sG} {d : Nat} {v0 : Nat} {v1 : Int32} {v2 : Int32} {v3 : Int32} {v4 : Int32} {σ : sS} {q : Int32 × sS} (h : F_X8_isOf v0 v1 v2 v3 v4 σ = some q) : s_T G (d + 3) M_X8_isOf [.ref v0, .int v1, .int v2, .int v3, .int v4] σ (e_I q) := by
  unfold F_X8_isOf at h
  obtain ⟨-, -, h⟩ := s_bind h
  exact s_ofV rfl (by decide) (Nat.le_of_ble_eq_true rfl) rfl rfl (s_run_ind (V := fun x r => s_V G (d + 3) M_X8_isOf [.ref v0, .int v1, .int v2, .int v3, .int v4] σ Y_X8_isOf x (e_I r)) (fun x z r hs hk => v_X8_isOf hs (by cases z <;> exact hk)) h)
/-! X8_isOfSome -/
noncomputable def T_X8_isOfSome_0 (v0 : Nat) (v1 : Int32) (v2 : Int32) (v3 : Int32) (σ : sS) : Option (sZ Int32) :=
  some (.inl (6, [.ref v0, .int v1, .int v2, .int v3, .int 0, .int 0], σ))
noncomputable def U_X8_isOfSome_0 (vs : List Value) (σ : sS) : Option (sZ Int32) := (g_r vs).bind fun a0 => (g_i a0.2).bind fun a1 => (g_i a1.2).bind fun a2 => (g_i a2.2).bind fun a3 => (g_e a3.2).bind fun _ => T_X8_isOfSome_0 a0.1 a1.1 a2.1 a3.1 σ
noncomputable def T_X8_isOfSome_6 (v0 : Nat) (v1 : Int32) (v2 : Int32) (v3 : Int32) (v4 : Int32) (v5 : Int32) (σ : sS) : Option (sZ Int32) :=
  (F_X8_d v0 σ).bind fun q1 =>
  if q1.1 ≤ v5 then (if (v4 = 0 ∨ v4 = 1) then (some (.inr (v4, q1.2))) else none)
  else (if v4 = 0 then ((F_X8_isOf v0 v1 v2 v3 v5 q1.2).bind fun q2 =>
  if q2.1 = 0 then (some (.inl (37, [.ref v0, .int v1, .int v2, .int v3, .int v5, .int 0], q2.2)))
  else (some (.inl (32, [.ref v0, .int v1, .int v2, .int v3, .int v5], q2.2))))
  else (some (.inl (32, [.ref v0, .int v1, .int v2, .int v3, .int v5], q1.2))))
noncomputable def U_X8_isOfSome_6 (vs : List Value) (σ : sS) : Option (sZ Int32) := (g_r vs).bind fun a0 => (g_i a0.2).bind fun a1 => (g_i a1.2).bind fun a2 => (g_i a2.2).bind fun a3 => (g_i a3.2).bind fun a4 => (g_i a4.2).bind fun a5 => (g_e a5.2).bind fun _ => T_X8_isOfSome_6 a0.1 a1.1 a2.1 a3.1 a4.1 a5.1 σ
noncomputable def T_X8_isOfSome_32 (v0 : Nat) (v1 : Int32) (v2 : Int32) (v3 : Int32) (v5 : Int32) (σ : sS) : Option (sZ Int32) :=
  some (.inl (37, [.ref v0, .int v1, .int v2, .int v3, .int v5, .int 1], σ))
noncomputable def U_X8_isOfSome_32 (vs : List Value) (σ : sS) : Option (sZ Int32) := (g_r vs).bind fun a0 => (g_i a0.2).bind fun a1 => (g_i a1.2).bind fun a2 => (g_i a2.2).bind fun a3 => (g_i a3.2).bind fun a4 => (g_e a4.2).bind fun _ => T_X8_isOfSome_32 a0.1 a1.1 a2.1 a3.1 a4.1 σ
noncomputable def T_X8_isOfSome_37 (v0 : Nat) (v1 : Int32) (v2 : Int32) (v3 : Int32) (v5 : Int32) (w0 : Int32) (σ : sS) : Option (sZ Int32) :=
  some (.inl (6, [.ref v0, .int v1, .int v2, .int v3, .int w0, .int (v5 + 1)], σ))
noncomputable def U_X8_isOfSome_37 (vs : List Value) (σ : sS) : Option (sZ Int32) := (g_r vs).bind fun a0 => (g_i a0.2).bind fun a1 => (g_i a1.2).bind fun a2 => (g_i a2.2).bind fun a3 => (g_i a3.2).bind fun a4 => (g_i a4.2).bind fun a5 => (g_e a5.2).bind fun _ => T_X8_isOfSome_37 a0.1 a1.1 a2.1 a3.1 a4.1 a5.1 σ
noncomputable def S_X8_isOfSome (x : sL) : Option (sZ Int32) := if x.1 = 0 then U_X8_isOfSome_0 x.2.1 x.2.2 else if x.1 = 6 then U_X8_isOfSome_6 x.2.1 x.2.2 else if x.1 = 32 then U_X8_isOfSome_32 x.2.1 x.2.2 else if x.1 = 37 then U_X8_isOfSome_37 x.2.1 x.2.2 else none
def Y_X8_isOfSome (pc : Nat) : List Nat := if pc = 0 then [0, 1, 2, 3] else if pc = 6 then [0, 1, 2, 3, 4, 5] else if pc = 32 then [0, 1, 2, 3, 5] else if pc = 37 then [0, 1, 2, 3, 5] else []
noncomputable def F_X8_isOfSome (v0 : Nat) (v1 : Int32) (v2 : Int32) (v3 : Int32) (σ : sS) : Option (Int32 × sS) := (s_is σ v0 8).bind fun _ => s_run S_X8_isOfSome (0, [.ref v0, .int v1, .int v2, .int v3], σ)
theorem l_X8_isOfSome_0 {v0 : Nat} {v1 : Int32} {v2 : Int32} {v3 : Int32} {σ : sS} {z : sZ Int32} (hf : T_X8_isOfSome_0 v0 v1 v2 v3 σ = some z) : s_lz σ z := by
  unfold T_X8_isOfSome_0 at hf
  cases hf
  exact s_le.rf
theorem l_X8_isOfSome_6 {v0 : Nat} {v1 : Int32} {v2 : Int32} {v3 : Int32} {v4 : Int32} {v5 : Int32} {σ : sS} {z : sZ Int32} (hf : T_X8_isOfSome_6 v0 v1 v2 v3 v4 v5 σ = some z) : s_lz σ z := by
  unfold T_X8_isOfSome_6 at hf
  obtain ⟨q1, hh, hf⟩ := s_bind hf
  refine s_lz.tr (l_X8_d hh) ?_
  rcases s_ite hf with ⟨-, hf⟩ | ⟨-, hf⟩
  · rcases s_ite hf with ⟨-, hf⟩ | ⟨-, hf⟩
    · cases hf
      exact s_le.rf
    · cases hf
  · rcases s_ite hf with ⟨-, hf⟩ | ⟨-, hf⟩
    · obtain ⟨q2, hh, hf⟩ := s_bind hf
      refine s_lz.tr (l_X8_isOf hh) ?_
      rcases s_ite hf with ⟨-, hf⟩ | ⟨-, hf⟩
      · cases hf
        exact s_le.rf
      · cases hf
        exact s_le.rf
    · cases hf
      exact s_le.rf
theorem l_X8_isOfSome_32 {v0 : Nat} {v1 : Int32} {v2 : Int32} {v3 : Int32} {v5 : Int32} {σ : sS} {z : sZ Int32} (hf : T_X8_isOfSome_32 v0 v1 v2 v3 v5 σ = some z) : s_lz σ z := by
  unfold T_X8_isOfSome_32 at hf
  cases hf
  exact s_le.rf
theorem l_X8_isOfSome_37 {v0 : Nat} {v1 : Int32} {v2 : Int32} {v3 : Int32} {v5 : Int32} {w0 : Int32} {σ : sS} {z : sZ Int32} (hf : T_X8_isOfSome_37 v0 v1 v2 v3 v5 w0 σ = some z) : s_lz σ z := by
  unfold T_X8_isOfSome_37 at hf
  cases hf
  exact s_le.rf
theorem l_X8_isOfSome_s {x : sL} {z : sZ Int32} (hs : S_X8_isOfSome x = some z) : s_lz x.2.2 z := by
  obtain ⟨pc, vs, σ⟩ := x
  unfold S_X8_isOfSome at hs
  dsimp only at hs ⊢
  rcases s_ite hs with ⟨c, hs⟩ | ⟨-, hs⟩
  · subst c
    unfold U_X8_isOfSome_0 at hs
    obtain ⟨a0, g0, hs⟩ := s_bind hs
    obtain ⟨a1, g1, hs⟩ := s_bind hs
    obtain ⟨a2, g2, hs⟩ := s_bind hs
    obtain ⟨a3, g3, hs⟩ := s_bind hs
    obtain ⟨u9, ge, hs⟩ := s_bind hs
    exact l_X8_isOfSome_0 hs
  rcases s_ite hs with ⟨c, hs⟩ | ⟨-, hs⟩
  · subst c
    unfold U_X8_isOfSome_6 at hs
    obtain ⟨a0, g0, hs⟩ := s_bind hs
    obtain ⟨a1, g1, hs⟩ := s_bind hs
    obtain ⟨a2, g2, hs⟩ := s_bind hs
    obtain ⟨a3, g3, hs⟩ := s_bind hs
    obtain ⟨a4, g4, hs⟩ := s_bind hs
    obtain ⟨a5, g5, hs⟩ := s_bind hs
    obtain ⟨u9, ge, hs⟩ := s_bind hs
    exact l_X8_isOfSome_6 hs
  rcases s_ite hs with ⟨c, hs⟩ | ⟨-, hs⟩
  · subst c
    unfold U_X8_isOfSome_32 at hs
    obtain ⟨a0, g0, hs⟩ := s_bind hs
    obtain ⟨a1, g1, hs⟩ := s_bind hs
    obtain ⟨a2, g2, hs⟩ := s_bind hs
    obtain ⟨a3, g3, hs⟩ := s_bind hs
    obtain ⟨a4, g4, hs⟩ := s_bind hs
    obtain ⟨u9, ge, hs⟩ := s_bind hs
    exact l_X8_isOfSome_32 hs
  rcases s_ite hs with ⟨c, hs⟩ | ⟨-, hs⟩
  · subst c
    unfold U_X8_isOfSome_37 at hs
    obtain ⟨a0, g0, hs⟩ := s_bind hs
    obtain ⟨a1, g1, hs⟩ := s_bind hs
    obtain ⟨a2, g2, hs⟩ := s_bind hs
    obtain ⟨a3, g3, hs⟩ := s_bind hs
    obtain ⟨a4, g4, hs⟩ := s_bind hs
    obtain ⟨a5, g5, hs⟩ := s_bind hs
    obtain ⟨u9, ge, hs⟩ := s_bind hs
    exact l_X8_isOfSome_37 hs
  cases hs
theorem l_X8_isOfSome {v0 : Nat} {v1 : Int32} {v2 : Int32} {v3 : Int32} {σ : sS} {q : Int32 × sS} (h : F_X8_isOfSome v0 v1 v2 v3 σ = some q) : s_le σ q.2 := by
  unfold F_X8_isOfSome at h
  obtain ⟨-, -, h⟩ := s_bind h
  exact s_run_ind (V := fun x r => s_le x.2.2 r.2) (fun x z r hs hk => by
    have h9 := l_X8_isOfSome_s hs
    cases z with
    | inl y => exact s_le.tr h9 hk
    | inr q => cases hk; exact h9) h
theorem b_X8_isOfSome {v0 : Nat} {v1 : Int32} {v2 : Int32} {v3 : Int32} {σ : sS} {q : Int32 × sS} (h : F_X8_isOfSome v0 v1 v2 v3 σ = some q) : ∃ fs, σ.1 v0 = some (.inr (8, fs)) := by
  unfold F_X8_isOfSome at h
  obtain ⟨u, hu, -⟩ := s_bind h
  exact s_is_to hu
set_option maxRecDepth 100000 in
set_option maxHeartbeats 4000000 in
theorem v_X8_isOfSome_0 {G : sG} {d : Nat} {vs0 : List Value} {σ0 : sS} {v0 : Nat} {v1 : Int32} {v2 : Int32} {v3 : Int32} {σ : sS} {z : sZ Int32} {r : Int32 × sS} (hf : T_X8_isOfSome_0 v0 v1 v2 v3 σ = some z) (k : s_K G (d + 4) M_X8_isOfSome vs0 σ0 Y_X8_isOfSome e_I z r) : s_V G (d + 4) M_X8_isOfSome vs0 σ0 Y_X8_isOfSome (0, [.ref v0, .int v1, .int v2, .int v3], σ) (e_I r) := by
  have le0 : s_le σ (e_I r).2 := s_lek hem_I (l_X8_isOfSome_0 hf) k
  refine ⟨le0, ?_⟩
  intro p e s m below meth c H locs cells slots ls X I hn1 hn2 hl
  have hn : cells + σ0.2.1 ≤ σ.2.1 ∧ slots + σ0.2.2.1 ≤ σ.2.2.1 := ⟨hn1, hn2⟩
  have hl : lv_has ls 6 [(0, .ref v0), (1, .int v1), (2, .int v2), (3, .int v3)] := hl
  have hx := X.1
  have hb : c.code = cX8_isOfSome := X.2.1
  have hown : s.vm.findClass RX8 = some m.cls := X.2.2.2.2.2.1
  have hts := X.2.2.2.2.2.2.1
  refine W.eq (g2 := F0 m 0 ls []) rfl ?_
  unfold T_X8_isOfSome_0 at hf
  cases hf
  have k : s_V G (d + 4) M_X8_isOfSome vs0 σ0 Y_X8_isOfSome (6, [.ref v0, .int v1, .int v2, .int v3, .int 0, .int 0], σ) (e_I r) := k
  refine lv_iconst (v := 0) hx hb dX8_isOfSome_0 (by decide) ?_
  refine lv_istore (lv' := [(4, .int 0), (0, .ref v0), (1, .int v1), (2, .int v2), (3, .int v3)]) hx hb dX8_isOfSome_1 hl (by decide) rfl (fun ls hl => ?_)
  refine lv_iconst (v := 0) hx hb dX8_isOfSome_3 (by decide) ?_
  refine lv_istore (lv' := [(5, .int 0), (4, .int 0), (0, .ref v0), (1, .int v1), (2, .int v2), (3, .int v3)]) hx hb dX8_isOfSome_4 hl (by decide) rfl (fun ls hl => ?_)
  exact k.2 p e s m below meth c _ _ _ _ _ X I hn.1 hn.2 (lv_sub hl [2, 3, 4, 5, 1, 0] rfl)
set_option maxRecDepth 100000 in
set_option maxHeartbeats 4000000 in
theorem v_X8_isOfSome_6 {G : sG} {d : Nat} {vs0 : List Value} {σ0 : sS} {v0 : Nat} {v1 : Int32} {v2 : Int32} {v3 : Int32} {v4 : Int32} {v5 : Int32} {σ : sS} {z : sZ Int32} {r : Int32 × sS} (hf : T_X8_isOfSome_6 v0 v1 v2 v3 v4 v5 σ = some z) (k : s_K G (d + 4) M_X8_isOfSome vs0 σ0 Y_X8_isOfSome e_I z r) : s_V G (d + 4) M_X8_isOfSome vs0 σ0 Y_X8_isOfSome (6, [.ref v0, .int v1, .int v2, .int v3, .int v4, .int v5], σ) (e_I r) := by
  have le0 : s_le σ (e_I r).2 := s_lek hem_I (l_X8_isOfSome_6 hf) k
  refine ⟨le0, ?_⟩
  intro p e s m below meth c H locs cells slots ls X I hn1 hn2 hl
  have hn : cells + σ0.2.1 ≤ σ.2.1 ∧ slots + σ0.2.2.1 ≤ σ.2.2.1 := ⟨hn1, hn2⟩
  have hl : lv_has ls 6 [(0, .ref v0), (1, .int v1), (2, .int v2), (3, .int v3), (4, .int v4), (5, .int v5)] := hl
  have hx := X.1
  have hb : c.code = cX8_isOfSome := X.2.1
  have hown : s.vm.findClass RX8 = some m.cls := X.2.2.2.2.2.1
  have hts := X.2.2.2.2.2.2.1
  refine W.eq (g2 := F0 m 6 ls []) rfl ?_
  unfold T_X8_isOfSome_6 at hf
  obtain ⟨q1, h1, hf⟩ := s_bind hf
  have le2 : s_le q1.2 (e_I r).2 := by
    refine s_lek hem_I ?_ k
    rcases s_ite hf with ⟨-, hf⟩ | ⟨-, hf⟩
    · rcases s_ite hf with ⟨-, hf⟩ | ⟨-, hf⟩
      · cases hf
        exact s_le.rf
      · cases hf
    · rcases s_ite hf with ⟨-, hf⟩ | ⟨-, hf⟩
      · obtain ⟨q2, hh, hf⟩ := s_bind hf
        refine s_lz.tr (l_X8_isOf hh) ?_
        rcases s_ite hf with ⟨-, hf⟩ | ⟨-, hf⟩
        · cases hf
          exact s_le.rf
        · cases hf
          exact s_le.rf
      · cases hf
        exact s_le.rf
  refine lv_iload hx hb dX8_isOfSome_6 (lv_at hl 5 rfl) ?_
  refine lv_aload_n hx hb dX8_isOfSome_8 rfl (lv_at hl 0 rfl) ?_
  refine r_callV (Y := M_X8_d) (v := some (.int q1.1)) X I w_1889 my_X8_d (by omega) (t_X8_d (G := G) (d := d + 2) h1) (b_X8_d h1) rfl rfl hl.1 rfl (Nat.le_of_ble_eq_true rfl) hn le2 dX8_isOfSome_9 (fun H locs cells slots I hn1 hn2 => ?_)
  have I : s_I G q1.2 s H locs := I
  have hn : cells + σ0.2.1 ≤ q1.2.2.1 ∧ slots + σ0.2.2.1 ≤ q1.2.2.2.1 := ⟨hn1, hn2⟩
  rcases s_ite hf with ⟨c3, hf⟩ | ⟨c3, hf⟩
  · refine lv_icmp_ge (tgt := 45) hx hb dX8_isOfSome_12 (by decide) (fun _ => ?_) (fun n => absurd c3 n)
    refine lv_iload hx hb dX8_isOfSome_45 (lv_at hl 4 rfl) ?_
    rcases s_ite hf with ⟨hchk, hf⟩ | ⟨-, hf⟩
    · cases hf
      have k : _ = r := k
      subst k
      exact r_iret X I rfl (s_nb hchk) rfl hn dX8_isOfSome_47
    · cases hf
  · refine lv_icmp_ge (tgt := 45) hx hb dX8_isOfSome_12 (by decide) (fun n => absurd n c3) (fun _ => ?_)
    refine lv_iload hx hb dX8_isOfSome_15 (lv_at hl 4 rfl) ?_
    rcases s_ite hf with ⟨c4, hf⟩ | ⟨c4, hf⟩
    · refine lv_if_ne (tgt := 32) hx hb dX8_isOfSome_17 (by decide) (fun n => absurd c4 n) (fun _ => ?_)
      obtain ⟨q2, h5, hf⟩ := s_bind hf
      have le6 : s_le q2.2 (e_I r).2 := by
        refine s_lek hem_I ?_ k
        rcases s_ite hf with ⟨-, hf⟩ | ⟨-, hf⟩
        · cases hf
          exact s_le.rf
        · cases hf
          exact s_le.rf
      refine lv_aload_n hx hb dX8_isOfSome_20 rfl (lv_at hl 0 rfl) ?_
      refine lv_iload_n hx hb dX8_isOfSome_21 rfl (lv_at hl 1 rfl) ?_
      refine lv_iload_n hx hb dX8_isOfSome_22 rfl (lv_at hl 2 rfl) ?_
      refine lv_iload_n hx hb dX8_isOfSome_23 rfl (lv_at hl 3 rfl) ?_
      refine lv_iload hx hb dX8_isOfSome_24 (lv_at hl 5 rfl) ?_
      refine r_callV (Y := M_X8_isOf) (v := some (.int q2.1)) X I w_2083 my_X8_isOf (by omega) (t_X8_isOf (G := G) (d := d + 0) h5) (b_X8_isOf h5) rfl rfl hl.1 rfl (Nat.le_of_ble_eq_true rfl) hn le6 dX8_isOfSome_26 (fun H locs cells slots I hn1 hn2 => ?_)
      have I : s_I G q2.2 s H locs := I
      have hn : cells + σ0.2.1 ≤ q2.2.2.1 ∧ slots + σ0.2.2.1 ≤ q2.2.2.2.1 := ⟨hn1, hn2⟩
      rcases s_ite hf with ⟨c7, hf⟩ | ⟨c7, hf⟩
      · refine lv_if_eq (tgt := 36) hx hb dX8_isOfSome_29 (by decide) (fun _ => ?_) (fun n => absurd c7 n)
        cases hf
        have k : s_V G (d + 4) M_X8_isOfSome vs0 σ0 Y_X8_isOfSome (37, [.ref v0, .int v1, .int v2, .int v3, .int v5, .int 0], q2.2) (e_I r) := k
        refine lv_iconst (v := 0) hx hb dX8_isOfSome_36 (by decide) ?_
        exact k.2 p e s m below meth c _ _ _ _ _ X I hn.1 hn.2 (lv_sub hl [0, 1, 2, 3, 5] rfl)
      · refine lv_if_eq (tgt := 36) hx hb dX8_isOfSome_29 (by decide) (fun n => absurd n c7) (fun _ => ?_)
        cases hf
        have k : s_V G (d + 4) M_X8_isOfSome vs0 σ0 Y_X8_isOfSome (32, [.ref v0, .int v1, .int v2, .int v3, .int v5], q2.2) (e_I r) := k
        exact k.2 p e s m below meth c _ _ _ _ _ X I hn.1 hn.2 (lv_sub hl [0, 1, 2, 3, 5] rfl)
    · refine lv_if_ne (tgt := 32) hx hb dX8_isOfSome_17 (by decide) (fun _ => ?_) (fun n => absurd n c4)
      cases hf
      have k : s_V G (d + 4) M_X8_isOfSome vs0 σ0 Y_X8_isOfSome (32, [.ref v0, .int v1, .int v2, .int v3, .int v5], q1.2) (e_I r) := k
      exact k.2 p e s m below meth c _ _ _ _ _ X I hn.1 hn.2 (lv_sub hl [0, 1, 2, 3, 5] rfl)
set_option maxRecDepth 100000 in
set_option maxHeartbeats 4000000 in
theorem v_X8_isOfSome_32 {G : sG} {d : Nat} {vs0 : List Value} {σ0 : sS} {v0 : Nat} {v1 : Int32} {v2 : Int32} {v3 : Int32} {v5 : Int32} {σ : sS} {z : sZ Int32} {r : Int32 × sS} (hf : T_X8_isOfSome_32 v0 v1 v2 v3 v5 σ = some z) (k : s_K G (d + 4) M_X8_isOfSome vs0 σ0 Y_X8_isOfSome e_I z r) : s_V G (d + 4) M_X8_isOfSome vs0 σ0 Y_X8_isOfSome (32, [.ref v0, .int v1, .int v2, .int v3, .int v5], σ) (e_I r) := by
  have le0 : s_le σ (e_I r).2 := s_lek hem_I (l_X8_isOfSome_32 hf) k
  refine ⟨le0, ?_⟩
  intro p e s m below meth c H locs cells slots ls X I hn1 hn2 hl
  have hn : cells + σ0.2.1 ≤ σ.2.1 ∧ slots + σ0.2.2.1 ≤ σ.2.2.1 := ⟨hn1, hn2⟩
  have hl : lv_has ls 6 [(0, .ref v0), (1, .int v1), (2, .int v2), (3, .int v3), (5, .int v5)] := hl
  have hx := X.1
  have hb : c.code = cX8_isOfSome := X.2.1
  have hown : s.vm.findClass RX8 = some m.cls := X.2.2.2.2.2.1
  have hts := X.2.2.2.2.2.2.1
  refine W.eq (g2 := F0 m 32 ls []) rfl ?_
  unfold T_X8_isOfSome_32 at hf
  cases hf
  have k : s_V G (d + 4) M_X8_isOfSome vs0 σ0 Y_X8_isOfSome (37, [.ref v0, .int v1, .int v2, .int v3, .int v5, .int 1], σ) (e_I r) := k
  refine lv_iconst (v := 1) hx hb dX8_isOfSome_32 (by decide) ?_
  refine lv_goto (tgt := 37) hx hb dX8_isOfSome_33 (by decide) ?_
  exact k.2 p e s m below meth c _ _ _ _ _ X I hn.1 hn.2 (lv_sub hl [0, 1, 2, 3, 4] rfl)
set_option maxRecDepth 100000 in
set_option maxHeartbeats 4000000 in
theorem v_X8_isOfSome_37 {G : sG} {d : Nat} {vs0 : List Value} {σ0 : sS} {v0 : Nat} {v1 : Int32} {v2 : Int32} {v3 : Int32} {v5 : Int32} {w0 : Int32} {σ : sS} {z : sZ Int32} {r : Int32 × sS} (hf : T_X8_isOfSome_37 v0 v1 v2 v3 v5 w0 σ = some z) (k : s_K G (d + 4) M_X8_isOfSome vs0 σ0 Y_X8_isOfSome e_I z r) : s_V G (d + 4) M_X8_isOfSome vs0 σ0 Y_X8_isOfSome (37, [.ref v0, .int v1, .int v2, .int v3, .int v5, .int w0], σ) (e_I r) := by
  have le0 : s_le σ (e_I r).2 := s_lek hem_I (l_X8_isOfSome_37 hf) k
  refine ⟨le0, ?_⟩
  intro p e s m below meth c H locs cells slots ls X I hn1 hn2 hl
  have hn : cells + σ0.2.1 ≤ σ.2.1 ∧ slots + σ0.2.2.1 ≤ σ.2.2.1 := ⟨hn1, hn2⟩
  have hl : lv_has ls 6 [(0, .ref v0), (1, .int v1), (2, .int v2), (3, .int v3), (5, .int v5)] := hl
  have hx := X.1
  have hb : c.code = cX8_isOfSome := X.2.1
  have hown : s.vm.findClass RX8 = some m.cls := X.2.2.2.2.2.1
  have hts := X.2.2.2.2.2.2.1
  refine W.eq (g2 := F0 m 37 ls [.int w0]) rfl ?_
  unfold T_X8_isOfSome_37 at hf
  cases hf
  have k : s_V G (d + 4) M_X8_isOfSome vs0 σ0 Y_X8_isOfSome (6, [.ref v0, .int v1, .int v2, .int v3, .int w0, .int (v5 + 1)], σ) (e_I r) := k
  refine lv_istore (lv' := [(4, .int w0), (0, .ref v0), (1, .int v1), (2, .int v2), (3, .int v3), (5, .int v5)]) hx hb dX8_isOfSome_37 hl (by decide) rfl (fun ls hl => ?_)
  refine lv_iinc (v := (v5 + 1)) (lv' := [(5, .int (v5 + 1)), (4, .int w0), (0, .ref v0), (1, .int v1), (2, .int v2), (3, .int v3)]) hx hb dX8_isOfSome_39 hl (k := 5) rfl rfl (by decide) rfl (fun ls hl => ?_)
  refine lv_goto (tgt := 6) hx hb dX8_isOfSome_42 (by decide) ?_
  exact k.2 p e s m below meth c _ _ _ _ _ X I hn.1 hn.2 (lv_sub hl [2, 3, 4, 5, 1, 0] rfl)
theorem v_X8_isOfSome {G : sG} {d : Nat} {vs0 : List Value} {σ0 : sS} {x : sL} {z : sZ Int32} {r : Int32 × sS} (hs : S_X8_isOfSome x = some z) (k : s_K G (d + 4) M_X8_isOfSome vs0 σ0 Y_X8_isOfSome e_I z r) : s_V G (d + 4) M_X8_isOfSome vs0 σ0 Y_X8_isOfSome x (e_I r) := by
  obtain ⟨pc, vs, σ⟩ := x
  unfold S_X8_isOfSome at hs
  dsimp only at hs
  rcases s_ite hs with ⟨c, hs⟩ | ⟨-, hs⟩
  · subst c
    unfold U_X8_isOfSome_0 at hs
    obtain ⟨a0, g0, hs⟩ := s_bind hs
    obtain ⟨a1, g1, hs⟩ := s_bind hs
    obtain ⟨a2, g2, hs⟩ := s_bind hs
    obtain ⟨a3, g3, hs⟩ := s_bind hs
    obtain ⟨u9, ge, hs⟩ := s_bind hs
    rw [g_r_to g0, g_i_to g1, g_i_to g2, g_i_to g3, g_e_to ge]
    exact v_X8_isOfSome_0 hs k
  rcases s_ite hs with ⟨c, hs⟩ | ⟨-, hs⟩
  · subst c
    unfold U_X8_isOfSome_6 at hs
    obtain ⟨a0, g0, hs⟩ := s_bind hs
    obtain ⟨a1, g1, hs⟩ := s_bind hs
    obtain ⟨a2, g2, hs⟩ := s_bind hs
    obtain ⟨a3, g3, hs⟩ := s_bind hs
    obtain ⟨a4, g4, hs⟩ := s_bind hs
    obtain ⟨a5, g5, hs⟩ := s_bind hs
    obtain ⟨u9, ge, hs⟩ := s_bind hs
    rw [g_r_to g0, g_i_to g1, g_i_to g2, g_i_to g3, g_i_to g4, g_i_to g5, g_e_to ge]
    exact v_X8_isOfSome_6 hs k
  rcases s_ite hs with ⟨c, hs⟩ | ⟨-, hs⟩
  · subst c
    unfold U_X8_isOfSome_32 at hs
    obtain ⟨a0, g0, hs⟩ := s_bind hs
    obtain ⟨a1, g1, hs⟩ := s_bind hs
    obtain ⟨a2, g2, hs⟩ := s_bind hs
    obtain ⟨a3, g3, hs⟩ := s_bind hs
    obtain ⟨a4, g4, hs⟩ := s_bind hs
    obtain ⟨u9, ge, hs⟩ := s_bind hs
    rw [g_r_to g0, g_i_to g1, g_i_to g2, g_i_to g3, g_i_to g4, g_e_to ge]
    exact v_X8_isOfSome_32 hs k
  rcases s_ite hs with ⟨c, hs⟩ | ⟨-, hs⟩
  · subst c
    unfold U_X8_isOfSome_37 at hs
    obtain ⟨a0, g0, hs⟩ := s_bind hs
    obtain ⟨a1, g1, hs⟩ := s_bind hs
    obtain ⟨a2, g2, hs⟩ := s_bind hs
    obtain ⟨a3, g3, hs⟩ := s_bind hs
    obtain ⟨a4, g4, hs⟩ := s_bind hs
    obtain ⟨a5, g5, hs⟩ := s_bind hs
    obtain ⟨u9, ge, hs⟩ := s_bind hs
    rw [g_r_to g0, g_i_to g1, g_i_to g2, g_i_to g3, g_i_to g4, g_i_to g5, g_e_to ge]
    exact v_X8_isOfSome_37 hs k
  cases hs
theorem t_X8_isOfSome {G : sG} {d : Nat} {v0 : Nat} {v1 : Int32} {v2 : Int32} {v3 : Int32} {σ : sS} {q : Int32 × sS} (h : F_X8_isOfSome v0 v1 v2 v3 σ = some q) : s_T G (d + 4) M_X8_isOfSome [.ref v0, .int v1, .int v2, .int v3] σ (e_I q) := by
  unfold F_X8_isOfSome at h
  obtain ⟨-, -, h⟩ := s_bind h
  exact s_ofV rfl (by decide) (Nat.le_of_ble_eq_true rfl) rfl rfl (s_run_ind (V := fun x r => s_V G (d + 4) M_X8_isOfSome [.ref v0, .int v1, .int v2, .int v3] σ Y_X8_isOfSome x (e_I r)) (fun x z r hs hk => v_X8_isOfSome hs (by cases z <;> exact hk)) h)
/-! X8_isMinus -/
noncomputable def T_X8_isMinus_0 (v0 : Nat) (v1 : Int32) (v2 : Int32) (σ : sS) : Option (sZ Int32) :=
  (F_X8_at v0 v1 0 σ).bind fun q1 =>
  if q1.1 = 12 then ((s_fr q1.2 v0 8 4).bind fun x2 =>
  (s_ai q1.2 x2 v1).bind fun x3 =>
  (s_fr q1.2 v0 8 4).bind fun x4 =>
  (s_ai q1.2 x4 v2).bind fun x5 =>
  (F_X8_isPart v0 v1 1 x3 (-1) v2 0 x5 q1.2).bind fun q6 =>
  if q6.1 = 0 then (some (.inr (0, q6.2)))
  else (some (.inr (1, q6.2))))
  else (some (.inr (0, q1.2)))
noncomputable def U_X8_isMinus_0 (vs : List Value) (σ : sS) : Option (sZ Int32) := (g_r vs).bind fun a0 => (g_i a0.2).bind fun a1 => (g_i a1.2).bind fun a2 => (g_e a2.2).bind fun _ => T_X8_isMinus_0 a0.1 a1.1 a2.1 σ
noncomputable def S_X8_isMinus (x : sL) : Option (sZ Int32) := if x.1 = 0 then U_X8_isMinus_0 x.2.1 x.2.2 else none
def Y_X8_isMinus (pc : Nat) : List Nat := if pc = 0 then [0, 1, 2] else []
noncomputable def F_X8_isMinus (v0 : Nat) (v1 : Int32) (v2 : Int32) (σ : sS) : Option (Int32 × sS) := (s_is σ v0 8).bind fun _ => s_run S_X8_isMinus (0, [.ref v0, .int v1, .int v2], σ)
theorem l_X8_isMinus_0 {v0 : Nat} {v1 : Int32} {v2 : Int32} {σ : sS} {z : sZ Int32} (hf : T_X8_isMinus_0 v0 v1 v2 σ = some z) : s_lz σ z := by
  unfold T_X8_isMinus_0 at hf
  obtain ⟨q1, hh, hf⟩ := s_bind hf
  refine s_lz.tr (l_X8_at hh) ?_
  rcases s_ite hf with ⟨-, hf⟩ | ⟨-, hf⟩
  · obtain ⟨x2, -, hf⟩ := s_bind hf
    obtain ⟨x3, -, hf⟩ := s_bind hf
    obtain ⟨x4, -, hf⟩ := s_bind hf
    obtain ⟨x5, -, hf⟩ := s_bind hf
    obtain ⟨q6, hh, hf⟩ := s_bind hf
    refine s_lz.tr (l_X8_isPart hh) ?_
    rcases s_ite hf with ⟨-, hf⟩ | ⟨-, hf⟩
    · cases hf
      exact s_le.rf
    · cases hf
      exact s_le.rf
  · cases hf
    exact s_le.rf
theorem l_X8_isMinus_s {x : sL} {z : sZ Int32} (hs : S_X8_isMinus x = some z) : s_lz x.2.2 z := by
  obtain ⟨pc, vs, σ⟩ := x
  unfold S_X8_isMinus at hs
  dsimp only at hs ⊢
  rcases s_ite hs with ⟨c, hs⟩ | ⟨-, hs⟩
  · subst c
    unfold U_X8_isMinus_0 at hs
    obtain ⟨a0, g0, hs⟩ := s_bind hs
    obtain ⟨a1, g1, hs⟩ := s_bind hs
    obtain ⟨a2, g2, hs⟩ := s_bind hs
    obtain ⟨u9, ge, hs⟩ := s_bind hs
    exact l_X8_isMinus_0 hs
  cases hs
theorem l_X8_isMinus {v0 : Nat} {v1 : Int32} {v2 : Int32} {σ : sS} {q : Int32 × sS} (h : F_X8_isMinus v0 v1 v2 σ = some q) : s_le σ q.2 := by
  unfold F_X8_isMinus at h
  obtain ⟨-, -, h⟩ := s_bind h
  exact s_run_ind (V := fun x r => s_le x.2.2 r.2) (fun x z r hs hk => by
    have h9 := l_X8_isMinus_s hs
    cases z with
    | inl y => exact s_le.tr h9 hk
    | inr q => cases hk; exact h9) h
theorem b_X8_isMinus {v0 : Nat} {v1 : Int32} {v2 : Int32} {σ : sS} {q : Int32 × sS} (h : F_X8_isMinus v0 v1 v2 σ = some q) : ∃ fs, σ.1 v0 = some (.inr (8, fs)) := by
  unfold F_X8_isMinus at h
  obtain ⟨u, hu, -⟩ := s_bind h
  exact s_is_to hu
set_option maxRecDepth 100000 in
set_option maxHeartbeats 4000000 in
theorem v_X8_isMinus_0 {G : sG} {d : Nat} {vs0 : List Value} {σ0 : sS} {v0 : Nat} {v1 : Int32} {v2 : Int32} {σ : sS} {z : sZ Int32} {r : Int32 × sS} (hf : T_X8_isMinus_0 v0 v1 v2 σ = some z) (k : s_K G (d + 3) M_X8_isMinus vs0 σ0 Y_X8_isMinus e_I z r) : s_V G (d + 3) M_X8_isMinus vs0 σ0 Y_X8_isMinus (0, [.ref v0, .int v1, .int v2], σ) (e_I r) := by
  have le0 : s_le σ (e_I r).2 := s_lek hem_I (l_X8_isMinus_0 hf) k
  refine ⟨le0, ?_⟩
  intro p e s m below meth c H locs cells slots ls X I hn1 hn2 hl
  have hn : cells + σ0.2.1 ≤ σ.2.1 ∧ slots + σ0.2.2.1 ≤ σ.2.2.1 := ⟨hn1, hn2⟩
  have hl : lv_has ls 3 [(0, .ref v0), (1, .int v1), (2, .int v2)] := hl
  have hx := X.1
  have hb : c.code = cX8_isMinus := X.2.1
  have hown : s.vm.findClass RX8 = some m.cls := X.2.2.2.2.2.1
  have hts := X.2.2.2.2.2.2.1
  refine W.eq (g2 := F0 m 0 ls []) rfl ?_
  unfold T_X8_isMinus_0 at hf
  obtain ⟨q1, h1, hf⟩ := s_bind hf
  have le2 : s_le q1.2 (e_I r).2 := by
    refine s_lek hem_I ?_ k
    rcases s_ite hf with ⟨-, hf⟩ | ⟨-, hf⟩
    · obtain ⟨x2, -, hf⟩ := s_bind hf
      obtain ⟨x3, -, hf⟩ := s_bind hf
      obtain ⟨x4, -, hf⟩ := s_bind hf
      obtain ⟨x5, -, hf⟩ := s_bind hf
      obtain ⟨q6, hh, hf⟩ := s_bind hf
      refine s_lz.tr (l_X8_isPart hh) ?_
      rcases s_ite hf with ⟨-, hf⟩ | ⟨-, hf⟩
      · cases hf
        exact s_le.rf
      · cases hf
        exact s_le.rf
    · cases hf
      exact s_le.rf
  refine lv_aload_n hx hb dX8_isMinus_0 rfl (lv_at hl 0 rfl) ?_
  refine lv_iload_n hx hb dX8_isMinus_1 rfl (lv_at hl 1 rfl) ?_
  refine lv_iconst (v := 0) hx hb dX8_isMinus_2 (by decide) ?_
  refine r_callV (Y := M_X8_at) (v := some (.int q1.1)) X I w_1901 my_X8_at (by omega) (t_X8_at (G := G) (d := d + 1) h1) (b_X8_at h1) rfl rfl hl.1 rfl (Nat.le_of_ble_eq_true rfl) hn le2 dX8_isMinus_3 (fun H locs cells slots I hn1 hn2 => ?_)
  have I : s_I G q1.2 s H locs := I
  have hn : cells + σ0.2.1 ≤ q1.2.2.1 ∧ slots + σ0.2.2.1 ≤ q1.2.2.2.1 := ⟨hn1, hn2⟩
  refine lv_bipush (v := 12) hx hb dX8_isMinus_6 (by decide) ?_
  rcases s_ite hf with ⟨c3, hf⟩ | ⟨c3, hf⟩
  · refine lv_icmp_ne (tgt := 39) hx hb dX8_isMinus_8 (by decide) (fun n => absurd c3 n) (fun _ => ?_)
    obtain ⟨x2, h4, hf⟩ := s_bind hf
    obtain ⟨x3, h5, hf⟩ := s_bind hf
    obtain ⟨x4, h6, hf⟩ := s_bind hf
    obtain ⟨x5, h7, hf⟩ := s_bind hf
    obtain ⟨q6, h8, hf⟩ := s_bind hf
    have le9 : s_le q6.2 (e_I r).2 := by
      refine s_lek hem_I ?_ k
      rcases s_ite hf with ⟨-, hf⟩ | ⟨-, hf⟩
      · cases hf
        exact s_le.rf
      · cases hf
        exact s_le.rf
    refine lv_aload_n hx hb dX8_isMinus_11 rfl (lv_at hl 0 rfl) ?_
    refine lv_iload_n hx hb dX8_isMinus_12 rfl (lv_at hl 1 rfl) ?_
    refine lv_iconst (v := 1) hx hb dX8_isMinus_13 (by decide) ?_
    refine lv_aload_n hx hb dX8_isMinus_14 rfl (lv_at hl 0 rfl) ?_
    refine r_gr X I fl_X8_20 h4 dX8_isMinus_15 ?_
    refine lv_iload_n hx hb dX8_isMinus_18 rfl (lv_at hl 1 rfl) ?_
    refine r_iald X I h5 dX8_isMinus_19 ?_
    refine lv_iconst (v := (-1)) hx hb dX8_isMinus_20 (by decide) ?_
    refine lv_iload_n hx hb dX8_isMinus_21 rfl (lv_at hl 2 rfl) ?_
    refine lv_iconst (v := 0) hx hb dX8_isMinus_22 (by decide) ?_
    refine lv_aload_n hx hb dX8_isMinus_23 rfl (lv_at hl 0 rfl) ?_
    refine r_gr X I fl_X8_20 h6 dX8_isMinus_24 ?_
    refine lv_iload_n hx hb dX8_isMinus_27 rfl (lv_at hl 2 rfl) ?_
    refine r_iald X I h7 dX8_isMinus_28 ?_
    refine r_callV (Y := M_X8_isPart) (v := some (.int q6.1)) X I w_1928 my_X8_isPart (by omega) (t_X8_isPart (G := G) (d := d + 0) h8) (b_X8_isPart h8) rfl rfl hl.1 rfl (Nat.le_of_ble_eq_true rfl) hn le9 dX8_isMinus_29 (fun H locs cells slots I hn1 hn2 => ?_)
    have I : s_I G q6.2 s H locs := I
    have hn : cells + σ0.2.1 ≤ q6.2.2.1 ∧ slots + σ0.2.2.1 ≤ q6.2.2.2.1 := ⟨hn1, hn2⟩
    rcases s_ite hf with ⟨c10, hf⟩ | ⟨c10, hf⟩
    · refine lv_if_eq (tgt := 39) hx hb dX8_isMinus_32 (by decide) (fun _ => ?_) (fun n => absurd c10 n)
      cases hf
      have k : _ = r := k
      subst k
      refine lv_iconst (v := 0) hx hb dX8_isMinus_39 (by decide) ?_
      exact r_iret X I rfl rfl rfl hn dX8_isMinus_40
    · refine lv_if_eq (tgt := 39) hx hb dX8_isMinus_32 (by decide) (fun n => absurd n c10) (fun _ => ?_)
      cases hf
      have k : _ = r := k
      subst k
      refine lv_iconst (v := 1) hx hb dX8_isMinus_35 (by decide) ?_
      refine lv_goto (tgt := 40) hx hb dX8_isMinus_36 (by decide) ?_
      exact r_iret X I rfl rfl rfl hn dX8_isMinus_40
  · refine lv_icmp_ne (tgt := 39) hx hb dX8_isMinus_8 (by decide) (fun _ => ?_) (fun n => absurd n c3)
    cases hf
    have k : _ = r := k
    subst k
    refine lv_iconst (v := 0) hx hb dX8_isMinus_39 (by decide) ?_
    exact r_iret X I rfl rfl rfl hn dX8_isMinus_40
theorem v_X8_isMinus {G : sG} {d : Nat} {vs0 : List Value} {σ0 : sS} {x : sL} {z : sZ Int32} {r : Int32 × sS} (hs : S_X8_isMinus x = some z) (k : s_K G (d + 3) M_X8_isMinus vs0 σ0 Y_X8_isMinus e_I z r) : s_V G (d + 3) M_X8_isMinus vs0 σ0 Y_X8_isMinus x (e_I r) := by
  obtain ⟨pc, vs, σ⟩ := x
  unfold S_X8_isMinus at hs
  dsimp only at hs
  rcases s_ite hs with ⟨c, hs⟩ | ⟨-, hs⟩
  · subst c
    unfold U_X8_isMinus_0 at hs
    obtain ⟨a0, g0, hs⟩ := s_bind hs
    obtain ⟨a1, g1, hs⟩ := s_bind hs
    obtain ⟨a2, g2, hs⟩ := s_bind hs
    obtain ⟨u9, ge, hs⟩ := s_bind hs
    rw [g_r_to g0, g_i_to g1, g_i_to g2, g_e_to ge]
    exact v_X8_isMinus_0 hs k
  cases hs
theorem t_X8_isMinus {G : sG} {d : Nat} {v0 : Nat} {v1 : Int32} {v2 : Int32} {σ : sS} {q : Int32 × sS} (h : F_X8_isMinus v0 v1 v2 σ = some q) : s_T G (d + 3) M_X8_isMinus [.ref v0, .int v1, .int v2] σ (e_I q) := by
  unfold F_X8_isMinus at h
  obtain ⟨-, -, h⟩ := s_bind h
  exact s_ofV rfl (by decide) (Nat.le_of_ble_eq_true rfl) rfl rfl (s_run_ind (V := fun x r => s_V G (d + 3) M_X8_isMinus [.ref v0, .int v1, .int v2] σ Y_X8_isMinus x (e_I r)) (fun x z r hs hk => v_X8_isMinus hs (by cases z <;> exact hk)) h)
/-! X8_isHonest -/
noncomputable def T_X8_isHonest_0 (v0 : Nat) (v1 : Int32) (σ : sS) : Option (sZ Int32) :=
  (F_X8_ofLine v0 v1 2 σ).bind fun q1 =>
  (F_X8_ofLine v0 v1 1 q1.2).bind fun q2 =>
  (F_X8_ofLine v0 v1 0 q2.2).bind fun q3 =>
  (F_X8_hasRule v0 q3.1 q1.1 q3.2).bind fun q4 =>
  if q4.1 = 0 then (some (.inr (0, q4.2)))
  else ((F_X8_premises v0 v1 q4.2).bind fun q5 =>
  (F_X8_asked v0 q1.1 q5.2).bind fun q6 =>
  if q5.1 = q6.1 then ((F_X8_premise v0 v1 0 q6.2).bind fun q7 =>
  if (0 : Int32) ≤ q7.1 then ((F_X8_premise v0 v1 0 q7.2).bind fun q8 =>
  (F_X8_ofLine v0 q8.1 1 q8.2).bind fun q9 =>
  some (.inl (67, [.ref v0, .int v1, .int q1.1, .int q2.1, .int q9.1], q9.2)))
  else (some (.inl (67, [.ref v0, .int v1, .int q1.1, .int q2.1, .int (-1)], q7.2))))
  else (some (.inr (0, q6.2))))
noncomputable def U_X8_isHonest_0 (vs : List Value) (σ : sS) : Option (sZ Int32) := (g_r vs).bind fun a0 => (g_i a0.2).bind fun a1 => (g_e a1.2).bind fun _ => T_X8_isHonest_0 a0.1 a1.1 σ
noncomputable def T_X8_isHonest_67 (v0 : Nat) (v1 : Int32) (v2 : Int32) (v3 : Int32) (w0 : Int32) (σ : sS) : Option (sZ Int32) :=
  (F_X8_premise v0 v1 1 σ).bind fun q1 =>
  if (0 : Int32) ≤ q1.1 then ((F_X8_premise v0 v1 1 q1.2).bind fun q2 =>
  (F_X8_ofLine v0 q2.1 1 q2.2).bind fun q3 =>
  some (.inl (93, [.ref v0, .int v1, .int v2, .int v3, .int w0, .int q3.1], q3.2)))
  else (some (.inl (93, [.ref v0, .int v1, .int v2, .int v3, .int w0, .int (-1)], q1.2)))
noncomputable def U_X8_isHonest_67 (vs : List Value) (σ : sS) : Option (sZ Int32) := (g_r vs).bind fun a0 => (g_i a0.2).bind fun a1 => (g_i a1.2).bind fun a2 => (g_i a2.2).bind fun a3 => (g_i a3.2).bind fun a4 => (g_e a4.2).bind fun _ => T_X8_isHonest_67 a0.1 a1.1 a2.1 a3.1 a4.1 σ
noncomputable def T_X8_isHonest_93 (v0 : Nat) (v1 : Int32) (v2 : Int32) (v3 : Int32) (v4 : Int32) (w0 : Int32) (σ : sS) : Option (sZ Int32) :=
  (F_X8_premise v0 v1 2 σ).bind fun q1 =>
  if (0 : Int32) ≤ q1.1 then ((F_X8_premise v0 v1 2 q1.2).bind fun q2 =>
  (F_X8_ofLine v0 q2.1 1 q2.2).bind fun q3 =>
  some (.inl (119, [.ref v0, .int v1, .int v2, .int v3, .int v4, .int w0, .int q3.1], q3.2)))
  else (some (.inl (119, [.ref v0, .int v1, .int v2, .int v3, .int v4, .int w0, .int (-1)], q1.2)))
noncomputable def U_X8_isHonest_93 (vs : List Value) (σ : sS) : Option (sZ Int32) := (g_r vs).bind fun a0 => (g_i a0.2).bind fun a1 => (g_i a1.2).bind fun a2 => (g_i a2.2).bind fun a3 => (g_i a3.2).bind fun a4 => (g_i a4.2).bind fun a5 => (g_e a5.2).bind fun _ => T_X8_isHonest_93 a0.1 a1.1 a2.1 a3.1 a4.1 a5.1 σ
noncomputable def T_X8_isHonest_119 (v0 : Nat) (v1 : Int32) (v2 : Int32) (v3 : Int32) (v4 : Int32) (v5 : Int32) (w0 : Int32) (σ : sS) : Option (sZ Int32) :=
  if v2 = 0 then ((F_X8_ofLine v0 v1 3 σ).bind fun q1 =>
  (F_X8_beliefsOf v0 q1.1 q1.2).bind fun q2 =>
  (F_X8_isAmong v0 v3 q2.1 q2.2).bind fun q3 =>
  if (q3.1 = 0 ∨ q3.1 = 1) then (some (.inr (q3.1, q3.2))) else none)
  else if v2 = 1 then (some (.inr (1, σ)))
  else if v2 = 2 then ((F_X8_isLeft v0 v3 13 v4 σ).bind fun q4 =>
  if q4.1 = 0 then (some (.inr (0, q4.2)))
  else ((F_X8_isRight v0 v3 13 v5 q4.2).bind fun q5 =>
  if q5.1 = 0 then (some (.inr (0, q5.2)))
  else (some (.inr (1, q5.2)))))
  else if v2 = 3 then ((F_X8_isLeft v0 v4 13 v3 σ).bind fun q6 =>
  if (q6.1 = 0 ∨ q6.1 = 1) then (some (.inr (q6.1, q6.2))) else none)
  else if v2 = 4 then ((F_X8_isRight v0 v4 13 v3 σ).bind fun q7 =>
  if (q7.1 = 0 ∨ q7.1 = 1) then (some (.inr (q7.1, q7.2))) else none)
  else if v2 = 5 then ((F_X8_isLeft v0 v3 14 v4 σ).bind fun q8 =>
  if (q8.1 = 0 ∨ q8.1 = 1) then (some (.inr (q8.1, q8.2))) else none)
  else if v2 = 6 then ((F_X8_isRight v0 v3 14 v4 σ).bind fun q9 =>
  if (q9.1 = 0 ∨ q9.1 = 1) then (some (.inr (q9.1, q9.2))) else none)
  else if v2 = 7 then ((F_X8_isLeft v0 v5 15 v4 σ).bind fun q10 =>
  if q10.1 = 0 then (some (.inr (0, q10.2)))
  else ((F_X8_isRight v0 v5 15 v3 q10.2).bind fun q11 =>
  if q11.1 = 0 then (some (.inr (0, q11.2)))
  else (some (.inr (1, q11.2)))))
  else if v2 = 8 then ((F_X8_isTwice v0 v4 v3 σ).bind fun q12 =>
  if (q12.1 = 0 ∨ q12.1 = 1) then (some (.inr (q12.1, q12.2))) else none)
  else if v2 = 9 then ((F_X8_isCases v0 v4 v5 w0 v3 σ).bind fun q13 =>
  if (q13.1 = 0 ∨ q13.1 = 1) then (some (.inr (q13.1, q13.2))) else none)
  else if v2 = 10 then ((F_X8_premise v0 v1 0 σ).bind fun q14 =>
  (F_X8_ofLine v0 q14.1 2 q14.2).bind fun q15 =>
  if q15.1 = 1 then ((F_X8_isLeft v0 v3 15 v4 q15.2).bind fun q16 =>
  if q16.1 = 0 then (some (.inr (0, q16.2)))
  else ((F_X8_isRight v0 v3 15 v5 q16.2).bind fun q17 =>
  if q17.1 = 0 then (some (.inr (0, q17.2)))
  else (some (.inr (1, q17.2)))))
  else (some (.inr (0, q15.2))))
  else if v2 = 11 then ((F_X8_isOfSome v0 v4 16 v3 σ).bind fun q18 =>
  if (q18.1 = 0 ∨ q18.1 = 1) then (some (.inr (q18.1, q18.2))) else none)
  else if v2 = 12 then ((F_X8_isOf v0 v3 16 v4 0 σ).bind fun q19 =>
  if q19.1 = 0 then (some (.inr (0, q19.2)))
  else ((F_X8_d v0 q19.2).bind fun q20 =>
  if q20.1 < 2 then (some (.inl (424, [.ref v0, .int v3, .int w0], q20.2)))
  else ((F_X8_isOf v0 v3 16 v5 1 q20.2).bind fun q21 =>
  if q21.1 = 0 then (some (.inr (0, q21.2)))
  else (some (.inl (424, [.ref v0, .int v3, .int w0], q21.2))))))
  else if v2 = 13 then ((F_X8_isOfSome v0 v3 17 v4 σ).bind fun q22 =>
  if (q22.1 = 0 ∨ q22.1 = 1) then (some (.inr (q22.1, q22.2))) else none)
  else if v2 = 14 then ((F_X8_isMinus v0 v5 v4 σ).bind fun q23 =>
  if (q23.1 = 0 ∨ q23.1 = 1) then (some (.inr (q23.1, q23.2))) else none)
  else ((F_X8_premise v0 v1 0 σ).bind fun q24 =>
  (F_X8_ofLine v0 q24.1 0 q24.2).bind fun q25 =>
  (F_X8_ofLine v0 v1 0 q25.2).bind fun q26 =>
  if q25.1 = q26.1 then (some (.inr (0, q26.2)))
  else ((F_X8_isSame v0 v4 v3 q26.2).bind fun q27 =>
  if q27.1 = 0 then (some (.inr (0, q27.2)))
  else (some (.inr (1, q27.2)))))
noncomputable def U_X8_isHonest_119 (vs : List Value) (σ : sS) : Option (sZ Int32) := (g_r vs).bind fun a0 => (g_i a0.2).bind fun a1 => (g_i a1.2).bind fun a2 => (g_i a2.2).bind fun a3 => (g_i a3.2).bind fun a4 => (g_i a4.2).bind fun a5 => (g_i a5.2).bind fun a6 => (g_e a6.2).bind fun _ => T_X8_isHonest_119 a0.1 a1.1 a2.1 a3.1 a4.1 a5.1 a6.1 σ
noncomputable def T_X8_isHonest_424 (v0 : Nat) (v3 : Int32) (v6 : Int32) (σ : sS) : Option (sZ Int32) :=
  (F_X8_d v0 σ).bind fun q1 =>
  if q1.1 < 3 then (some (.inr (1, q1.2)))
  else ((F_X8_isOf v0 v3 16 v6 2 q1.2).bind fun q2 =>
  if q2.1 = 0 then (some (.inr (0, q2.2)))
  else (some (.inr (1, q2.2))))
noncomputable def U_X8_isHonest_424 (vs : List Value) (σ : sS) : Option (sZ Int32) := (g_r vs).bind fun a0 => (g_i a0.2).bind fun a1 => (g_i a1.2).bind fun a2 => (g_e a2.2).bind fun _ => T_X8_isHonest_424 a0.1 a1.1 a2.1 σ
noncomputable def S_X8_isHonest (x : sL) : Option (sZ Int32) := if x.1 = 0 then U_X8_isHonest_0 x.2.1 x.2.2 else if x.1 = 67 then U_X8_isHonest_67 x.2.1 x.2.2 else if x.1 = 93 then U_X8_isHonest_93 x.2.1 x.2.2 else if x.1 = 119 then U_X8_isHonest_119 x.2.1 x.2.2 else if x.1 = 424 then U_X8_isHonest_424 x.2.1 x.2.2 else none
def Y_X8_isHonest (pc : Nat) : List Nat := if pc = 0 then [0, 1] else if pc = 67 then [0, 1, 2, 3] else if pc = 93 then [0, 1, 2, 3, 4] else if pc = 119 then [0, 1, 2, 3, 4, 5] else if pc = 424 then [0, 3, 6] else []
noncomputable def F_X8_isHonest (v0 : Nat) (v1 : Int32) (σ : sS) : Option (Int32 × sS) := (s_is σ v0 8).bind fun _ => s_run S_X8_isHonest (0, [.ref v0, .int v1], σ)
theorem l_X8_isHonest_0 {v0 : Nat} {v1 : Int32} {σ : sS} {z : sZ Int32} (hf : T_X8_isHonest_0 v0 v1 σ = some z) : s_lz σ z := by
  unfold T_X8_isHonest_0 at hf
  obtain ⟨q1, hh, hf⟩ := s_bind hf
  refine s_lz.tr (l_X8_ofLine hh) ?_
  obtain ⟨q2, hh, hf⟩ := s_bind hf
  refine s_lz.tr (l_X8_ofLine hh) ?_
  obtain ⟨q3, hh, hf⟩ := s_bind hf
  refine s_lz.tr (l_X8_ofLine hh) ?_
  obtain ⟨q4, hh, hf⟩ := s_bind hf
  refine s_lz.tr (l_X8_hasRule hh) ?_
  rcases s_ite hf with ⟨-, hf⟩ | ⟨-, hf⟩
  · cases hf
    exact s_le.rf
  · obtain ⟨q5, hh, hf⟩ := s_bind hf
    refine s_lz.tr (l_X8_premises hh) ?_
    obtain ⟨q6, hh, hf⟩ := s_bind hf
    refine s_lz.tr (l_X8_asked hh) ?_
    rcases s_ite hf with ⟨-, hf⟩ | ⟨-, hf⟩
    · obtain ⟨q7, hh, hf⟩ := s_bind hf
      refine s_lz.tr (l_X8_premise hh) ?_
      rcases s_ite hf with ⟨-, hf⟩ | ⟨-, hf⟩
      · obtain ⟨q8, hh, hf⟩ := s_bind hf
        refine s_lz.tr (l_X8_premise hh) ?_
        obtain ⟨q9, hh, hf⟩ := s_bind hf
        refine s_lz.tr (l_X8_ofLine hh) ?_
        cases hf
        exact s_le.rf
      · cases hf
        exact s_le.rf
    · cases hf
      exact s_le.rf
theorem l_X8_isHonest_67 {v0 : Nat} {v1 : Int32} {v2 : Int32} {v3 : Int32} {w0 : Int32} {σ : sS} {z : sZ Int32} (hf : T_X8_isHonest_67 v0 v1 v2 v3 w0 σ = some z) : s_lz σ z := by
  unfold T_X8_isHonest_67 at hf
  obtain ⟨q1, hh, hf⟩ := s_bind hf
  refine s_lz.tr (l_X8_premise hh) ?_
  rcases s_ite hf with ⟨-, hf⟩ | ⟨-, hf⟩
  · obtain ⟨q2, hh, hf⟩ := s_bind hf
    refine s_lz.tr (l_X8_premise hh) ?_
    obtain ⟨q3, hh, hf⟩ := s_bind hf
    refine s_lz.tr (l_X8_ofLine hh) ?_
    cases hf
    exact s_le.rf
  · cases hf
    exact s_le.rf
theorem l_X8_isHonest_93 {v0 : Nat} {v1 : Int32} {v2 : Int32} {v3 : Int32} {v4 : Int32} {w0 : Int32} {σ : sS} {z : sZ Int32} (hf : T_X8_isHonest_93 v0 v1 v2 v3 v4 w0 σ = some z) : s_lz σ z := by
  unfold T_X8_isHonest_93 at hf
  obtain ⟨q1, hh, hf⟩ := s_bind hf
  refine s_lz.tr (l_X8_premise hh) ?_
  rcases s_ite hf with ⟨-, hf⟩ | ⟨-, hf⟩
  · obtain ⟨q2, hh, hf⟩ := s_bind hf
    refine s_lz.tr (l_X8_premise hh) ?_
    obtain ⟨q3, hh, hf⟩ := s_bind hf
    refine s_lz.tr (l_X8_ofLine hh) ?_
    cases hf
    exact s_le.rf
  · cases hf
    exact s_le.rf
theorem l_X8_isHonest_119 {v0 : Nat} {v1 : Int32} {v2 : Int32} {v3 : Int32} {v4 : Int32} {v5 : Int32} {w0 : Int32} {σ : sS} {z : sZ Int32} (hf : T_X8_isHonest_119 v0 v1 v2 v3 v4 v5 w0 σ = some z) : s_lz σ z := by
  unfold T_X8_isHonest_119 at hf
  rcases s_ite hf with ⟨-, hf⟩ | ⟨-, hf⟩
  · obtain ⟨q1, hh, hf⟩ := s_bind hf
    refine s_lz.tr (l_X8_ofLine hh) ?_
    obtain ⟨q2, hh, hf⟩ := s_bind hf
    refine s_lz.tr (l_X8_beliefsOf hh) ?_
    obtain ⟨q3, hh, hf⟩ := s_bind hf
    refine s_lz.tr (l_X8_isAmong hh) ?_
    rcases s_ite hf with ⟨-, hf⟩ | ⟨-, hf⟩
    · cases hf
      exact s_le.rf
    · cases hf
  rcases s_ite hf with ⟨-, hf⟩ | ⟨-, hf⟩
  · cases hf
    exact s_le.rf
  rcases s_ite hf with ⟨-, hf⟩ | ⟨-, hf⟩
  · obtain ⟨q4, hh, hf⟩ := s_bind hf
    refine s_lz.tr (l_X8_isLeft hh) ?_
    rcases s_ite hf with ⟨-, hf⟩ | ⟨-, hf⟩
    · cases hf
      exact s_le.rf
    · obtain ⟨q5, hh, hf⟩ := s_bind hf
      refine s_lz.tr (l_X8_isRight hh) ?_
      rcases s_ite hf with ⟨-, hf⟩ | ⟨-, hf⟩
      · cases hf
        exact s_le.rf
      · cases hf
        exact s_le.rf
  rcases s_ite hf with ⟨-, hf⟩ | ⟨-, hf⟩
  · obtain ⟨q6, hh, hf⟩ := s_bind hf
    refine s_lz.tr (l_X8_isLeft hh) ?_
    rcases s_ite hf with ⟨-, hf⟩ | ⟨-, hf⟩
    · cases hf
      exact s_le.rf
    · cases hf
  rcases s_ite hf with ⟨-, hf⟩ | ⟨-, hf⟩
  · obtain ⟨q7, hh, hf⟩ := s_bind hf
    refine s_lz.tr (l_X8_isRight hh) ?_
    rcases s_ite hf with ⟨-, hf⟩ | ⟨-, hf⟩
    · cases hf
      exact s_le.rf
    · cases hf
  rcases s_ite hf with ⟨-, hf⟩ | ⟨-, hf⟩
  · obtain ⟨q8, hh, hf⟩ := s_bind hf
    refine s_lz.tr (l_X8_isLeft hh) ?_
    rcases s_ite hf with ⟨-, hf⟩ | ⟨-, hf⟩
    · cases hf
      exact s_le.rf
    · cases hf
  rcases s_ite hf with ⟨-, hf⟩ | ⟨-, hf⟩
  · obtain ⟨q9, hh, hf⟩ := s_bind hf
    refine s_lz.tr (l_X8_isRight hh) ?_
    rcases s_ite hf with ⟨-, hf⟩ | ⟨-, hf⟩
    · cases hf
      exact s_le.rf
    · cases hf
  rcases s_ite hf with ⟨-, hf⟩ | ⟨-, hf⟩
  · obtain ⟨q10, hh, hf⟩ := s_bind hf
    refine s_lz.tr (l_X8_isLeft hh) ?_
    rcases s_ite hf with ⟨-, hf⟩ | ⟨-, hf⟩
    · cases hf
      exact s_le.rf
    · obtain ⟨q11, hh, hf⟩ := s_bind hf
      refine s_lz.tr (l_X8_isRight hh) ?_
      rcases s_ite hf with ⟨-, hf⟩ | ⟨-, hf⟩
      · cases hf
        exact s_le.rf
      · cases hf
        exact s_le.rf
  rcases s_ite hf with ⟨-, hf⟩ | ⟨-, hf⟩
  · obtain ⟨q12, hh, hf⟩ := s_bind hf
    refine s_lz.tr (l_X8_isTwice hh) ?_
    rcases s_ite hf with ⟨-, hf⟩ | ⟨-, hf⟩
    · cases hf
      exact s_le.rf
    · cases hf
  rcases s_ite hf with ⟨-, hf⟩ | ⟨-, hf⟩
  · obtain ⟨q13, hh, hf⟩ := s_bind hf
    refine s_lz.tr (l_X8_isCases hh) ?_
    rcases s_ite hf with ⟨-, hf⟩ | ⟨-, hf⟩
    · cases hf
      exact s_le.rf
    · cases hf
  rcases s_ite hf with ⟨-, hf⟩ | ⟨-, hf⟩
  · obtain ⟨q14, hh, hf⟩ := s_bind hf
    refine s_lz.tr (l_X8_premise hh) ?_
    obtain ⟨q15, hh, hf⟩ := s_bind hf
    refine s_lz.tr (l_X8_ofLine hh) ?_
    rcases s_ite hf with ⟨-, hf⟩ | ⟨-, hf⟩
    · obtain ⟨q16, hh, hf⟩ := s_bind hf
      refine s_lz.tr (l_X8_isLeft hh) ?_
      rcases s_ite hf with ⟨-, hf⟩ | ⟨-, hf⟩
      · cases hf
        exact s_le.rf
      · obtain ⟨q17, hh, hf⟩ := s_bind hf
        refine s_lz.tr (l_X8_isRight hh) ?_
        rcases s_ite hf with ⟨-, hf⟩ | ⟨-, hf⟩
        · cases hf
          exact s_le.rf
        · cases hf
          exact s_le.rf
    · cases hf
      exact s_le.rf
  rcases s_ite hf with ⟨-, hf⟩ | ⟨-, hf⟩
  · obtain ⟨q18, hh, hf⟩ := s_bind hf
    refine s_lz.tr (l_X8_isOfSome hh) ?_
    rcases s_ite hf with ⟨-, hf⟩ | ⟨-, hf⟩
    · cases hf
      exact s_le.rf
    · cases hf
  rcases s_ite hf with ⟨-, hf⟩ | ⟨-, hf⟩
  · obtain ⟨q19, hh, hf⟩ := s_bind hf
    refine s_lz.tr (l_X8_isOf hh) ?_
    rcases s_ite hf with ⟨-, hf⟩ | ⟨-, hf⟩
    · cases hf
      exact s_le.rf
    · obtain ⟨q20, hh, hf⟩ := s_bind hf
      refine s_lz.tr (l_X8_d hh) ?_
      rcases s_ite hf with ⟨-, hf⟩ | ⟨-, hf⟩
      · cases hf
        exact s_le.rf
      · obtain ⟨q21, hh, hf⟩ := s_bind hf
        refine s_lz.tr (l_X8_isOf hh) ?_
        rcases s_ite hf with ⟨-, hf⟩ | ⟨-, hf⟩
        · cases hf
          exact s_le.rf
        · cases hf
          exact s_le.rf
  rcases s_ite hf with ⟨-, hf⟩ | ⟨-, hf⟩
  · obtain ⟨q22, hh, hf⟩ := s_bind hf
    refine s_lz.tr (l_X8_isOfSome hh) ?_
    rcases s_ite hf with ⟨-, hf⟩ | ⟨-, hf⟩
    · cases hf
      exact s_le.rf
    · cases hf
  rcases s_ite hf with ⟨-, hf⟩ | ⟨-, hf⟩
  · obtain ⟨q23, hh, hf⟩ := s_bind hf
    refine s_lz.tr (l_X8_isMinus hh) ?_
    rcases s_ite hf with ⟨-, hf⟩ | ⟨-, hf⟩
    · cases hf
      exact s_le.rf
    · cases hf
  obtain ⟨q24, hh, hf⟩ := s_bind hf
  refine s_lz.tr (l_X8_premise hh) ?_
  obtain ⟨q25, hh, hf⟩ := s_bind hf
  refine s_lz.tr (l_X8_ofLine hh) ?_
  obtain ⟨q26, hh, hf⟩ := s_bind hf
  refine s_lz.tr (l_X8_ofLine hh) ?_
  rcases s_ite hf with ⟨-, hf⟩ | ⟨-, hf⟩
  · cases hf
    exact s_le.rf
  · obtain ⟨q27, hh, hf⟩ := s_bind hf
    refine s_lz.tr (l_X8_isSame hh) ?_
    rcases s_ite hf with ⟨-, hf⟩ | ⟨-, hf⟩
    · cases hf
      exact s_le.rf
    · cases hf
      exact s_le.rf
theorem l_X8_isHonest_424 {v0 : Nat} {v3 : Int32} {v6 : Int32} {σ : sS} {z : sZ Int32} (hf : T_X8_isHonest_424 v0 v3 v6 σ = some z) : s_lz σ z := by
  unfold T_X8_isHonest_424 at hf
  obtain ⟨q1, hh, hf⟩ := s_bind hf
  refine s_lz.tr (l_X8_d hh) ?_
  rcases s_ite hf with ⟨-, hf⟩ | ⟨-, hf⟩
  · cases hf
    exact s_le.rf
  · obtain ⟨q2, hh, hf⟩ := s_bind hf
    refine s_lz.tr (l_X8_isOf hh) ?_
    rcases s_ite hf with ⟨-, hf⟩ | ⟨-, hf⟩
    · cases hf
      exact s_le.rf
    · cases hf
      exact s_le.rf
theorem l_X8_isHonest_s {x : sL} {z : sZ Int32} (hs : S_X8_isHonest x = some z) : s_lz x.2.2 z := by
  obtain ⟨pc, vs, σ⟩ := x
  unfold S_X8_isHonest at hs
  dsimp only at hs ⊢
  rcases s_ite hs with ⟨c, hs⟩ | ⟨-, hs⟩
  · subst c
    unfold U_X8_isHonest_0 at hs
    obtain ⟨a0, g0, hs⟩ := s_bind hs
    obtain ⟨a1, g1, hs⟩ := s_bind hs
    obtain ⟨u9, ge, hs⟩ := s_bind hs
    exact l_X8_isHonest_0 hs
  rcases s_ite hs with ⟨c, hs⟩ | ⟨-, hs⟩
  · subst c
    unfold U_X8_isHonest_67 at hs
    obtain ⟨a0, g0, hs⟩ := s_bind hs
    obtain ⟨a1, g1, hs⟩ := s_bind hs
    obtain ⟨a2, g2, hs⟩ := s_bind hs
    obtain ⟨a3, g3, hs⟩ := s_bind hs
    obtain ⟨a4, g4, hs⟩ := s_bind hs
    obtain ⟨u9, ge, hs⟩ := s_bind hs
    exact l_X8_isHonest_67 hs
  rcases s_ite hs with ⟨c, hs⟩ | ⟨-, hs⟩
  · subst c
    unfold U_X8_isHonest_93 at hs
    obtain ⟨a0, g0, hs⟩ := s_bind hs
    obtain ⟨a1, g1, hs⟩ := s_bind hs
    obtain ⟨a2, g2, hs⟩ := s_bind hs
    obtain ⟨a3, g3, hs⟩ := s_bind hs
    obtain ⟨a4, g4, hs⟩ := s_bind hs
    obtain ⟨a5, g5, hs⟩ := s_bind hs
    obtain ⟨u9, ge, hs⟩ := s_bind hs
    exact l_X8_isHonest_93 hs
  rcases s_ite hs with ⟨c, hs⟩ | ⟨-, hs⟩
  · subst c
    unfold U_X8_isHonest_119 at hs
    obtain ⟨a0, g0, hs⟩ := s_bind hs
    obtain ⟨a1, g1, hs⟩ := s_bind hs
    obtain ⟨a2, g2, hs⟩ := s_bind hs
    obtain ⟨a3, g3, hs⟩ := s_bind hs
    obtain ⟨a4, g4, hs⟩ := s_bind hs
    obtain ⟨a5, g5, hs⟩ := s_bind hs
    obtain ⟨a6, g6, hs⟩ := s_bind hs
    obtain ⟨u9, ge, hs⟩ := s_bind hs
    exact l_X8_isHonest_119 hs
  rcases s_ite hs with ⟨c, hs⟩ | ⟨-, hs⟩
  · subst c
    unfold U_X8_isHonest_424 at hs
    obtain ⟨a0, g0, hs⟩ := s_bind hs
    obtain ⟨a1, g1, hs⟩ := s_bind hs
    obtain ⟨a2, g2, hs⟩ := s_bind hs
    obtain ⟨u9, ge, hs⟩ := s_bind hs
    exact l_X8_isHonest_424 hs
  cases hs
theorem l_X8_isHonest {v0 : Nat} {v1 : Int32} {σ : sS} {q : Int32 × sS} (h : F_X8_isHonest v0 v1 σ = some q) : s_le σ q.2 := by
  unfold F_X8_isHonest at h
  obtain ⟨-, -, h⟩ := s_bind h
  exact s_run_ind (V := fun x r => s_le x.2.2 r.2) (fun x z r hs hk => by
    have h9 := l_X8_isHonest_s hs
    cases z with
    | inl y => exact s_le.tr h9 hk
    | inr q => cases hk; exact h9) h
theorem b_X8_isHonest {v0 : Nat} {v1 : Int32} {σ : sS} {q : Int32 × sS} (h : F_X8_isHonest v0 v1 σ = some q) : ∃ fs, σ.1 v0 = some (.inr (8, fs)) := by
  unfold F_X8_isHonest at h
  obtain ⟨u, hu, -⟩ := s_bind h
  exact s_is_to hu
set_option maxRecDepth 100000 in
set_option maxHeartbeats 4000000 in
theorem v_X8_isHonest_0 {G : sG} {d : Nat} {vs0 : List Value} {σ0 : sS} {v0 : Nat} {v1 : Int32} {σ : sS} {z : sZ Int32} {r : Int32 × sS} (hf : T_X8_isHonest_0 v0 v1 σ = some z) (k : s_K G (d + 6) M_X8_isHonest vs0 σ0 Y_X8_isHonest e_I z r) : s_V G (d + 6) M_X8_isHonest vs0 σ0 Y_X8_isHonest (0, [.ref v0, .int v1], σ) (e_I r) := by
  have le0 : s_le σ (e_I r).2 := s_lek hem_I (l_X8_isHonest_0 hf) k
  refine ⟨le0, ?_⟩
  intro p e s m below meth c H locs cells slots ls X I hn1 hn2 hl
  have hn : cells + σ0.2.1 ≤ σ.2.1 ∧ slots + σ0.2.2.1 ≤ σ.2.2.1 := ⟨hn1, hn2⟩
  have hl : lv_has ls 7 [(0, .ref v0), (1, .int v1)] := hl
  have hx := X.1
  have hb : c.code = cX8_isHonest := X.2.1
  have hown : s.vm.findClass RX8 = some m.cls := X.2.2.2.2.2.1
  have hts := X.2.2.2.2.2.2.1
  refine W.eq (g2 := F0 m 0 ls []) rfl ?_
  unfold T_X8_isHonest_0 at hf
  obtain ⟨q1, h1, hf⟩ := s_bind hf
  obtain ⟨q2, h2, hf⟩ := s_bind hf
  obtain ⟨q3, h3, hf⟩ := s_bind hf
  obtain ⟨q4, h4, hf⟩ := s_bind hf
  have le5 : s_le q4.2 (e_I r).2 := by
    refine s_lek hem_I ?_ k
    rcases s_ite hf with ⟨-, hf⟩ | ⟨-, hf⟩
    · cases hf
      exact s_le.rf
    · obtain ⟨q5, hh, hf⟩ := s_bind hf
      refine s_lz.tr (l_X8_premises hh) ?_
      obtain ⟨q6, hh, hf⟩ := s_bind hf
      refine s_lz.tr (l_X8_asked hh) ?_
      rcases s_ite hf with ⟨-, hf⟩ | ⟨-, hf⟩
      · obtain ⟨q7, hh, hf⟩ := s_bind hf
        refine s_lz.tr (l_X8_premise hh) ?_
        rcases s_ite hf with ⟨-, hf⟩ | ⟨-, hf⟩
        · obtain ⟨q8, hh, hf⟩ := s_bind hf
          refine s_lz.tr (l_X8_premise hh) ?_
          obtain ⟨q9, hh, hf⟩ := s_bind hf
          refine s_lz.tr (l_X8_ofLine hh) ?_
          cases hf
          exact s_le.rf
        · cases hf
          exact s_le.rf
      · cases hf
        exact s_le.rf
  have le6 := s_le.tr (l_X8_hasRule h4) le5
  have le7 := s_le.tr (l_X8_ofLine h3) le6
  have le8 := s_le.tr (l_X8_ofLine h2) le7
  refine lv_aload_n hx hb dX8_isHonest_0 rfl (lv_at hl 0 rfl) ?_
  refine lv_iload_n hx hb dX8_isHonest_1 rfl (lv_at hl 1 rfl) ?_
  refine lv_iconst (v := 2) hx hb dX8_isHonest_2 (by decide) ?_
  refine r_callV (Y := M_X8_ofLine) (v := some (.int q1.1)) X I w_2015 my_X8_ofLine (by omega) (t_X8_ofLine (G := G) (d := d + 4) h1) (b_X8_ofLine h1) rfl rfl hl.1 rfl (Nat.le_of_ble_eq_true rfl) hn le8 dX8_isHonest_3 (fun H locs cells slots I hn1 hn2 => ?_)
  have I : s_I G q1.2 s H locs := I
  have hn : cells + σ0.2.1 ≤ q1.2.2.1 ∧ slots + σ0.2.2.1 ≤ q1.2.2.2.1 := ⟨hn1, hn2⟩
  refine lv_istore_n (lv' := [(2, .int q1.1), (0, .ref v0), (1, .int v1)]) hx hb dX8_isHonest_6 rfl hl (by decide) rfl (fun ls hl => ?_)
  refine lv_aload_n hx hb dX8_isHonest_7 rfl (lv_at hl 1 rfl) ?_
  refine lv_iload_n hx hb dX8_isHonest_8 rfl (lv_at hl 2 rfl) ?_
  refine lv_iconst (v := 1) hx hb dX8_isHonest_9 (by decide) ?_
  refine r_callV (Y := M_X8_ofLine) (v := some (.int q2.1)) X I w_2015 my_X8_ofLine (by omega) (t_X8_ofLine (G := G) (d := d + 4) h2) (b_X8_ofLine h2) rfl rfl hl.1 rfl (Nat.le_of_ble_eq_true rfl) hn le7 dX8_isHonest_10 (fun H locs cells slots I hn1 hn2 => ?_)
  have I : s_I G q2.2 s H locs := I
  have hn : cells + σ0.2.1 ≤ q2.2.2.1 ∧ slots + σ0.2.2.1 ≤ q2.2.2.2.1 := ⟨hn1, hn2⟩
  refine lv_istore_n (lv' := [(3, .int q2.1), (2, .int q1.1), (0, .ref v0), (1, .int v1)]) hx hb dX8_isHonest_13 rfl hl (by decide) rfl (fun ls hl => ?_)
  refine lv_aload_n hx hb dX8_isHonest_14 rfl (lv_at hl 2 rfl) ?_
  refine lv_aload_n hx hb dX8_isHonest_15 rfl (lv_at hl 2 rfl) ?_
  refine lv_iload_n hx hb dX8_isHonest_16 rfl (lv_at hl 3 rfl) ?_
  refine lv_iconst (v := 0) hx hb dX8_isHonest_17 (by decide) ?_
  refine r_callV (Y := M_X8_ofLine) (v := some (.int q3.1)) X I w_2015 my_X8_ofLine (by omega) (t_X8_ofLine (G := G) (d := d + 4) h3) (b_X8_ofLine h3) rfl rfl hl.1 rfl (Nat.le_of_ble_eq_true rfl) hn le6 dX8_isHonest_18 (fun H locs cells slots I hn1 hn2 => ?_)
  have I : s_I G q3.2 s H locs := I
  have hn : cells + σ0.2.1 ≤ q3.2.2.1 ∧ slots + σ0.2.2.1 ≤ q3.2.2.2.1 := ⟨hn1, hn2⟩
  refine lv_iload_n hx hb dX8_isHonest_21 rfl (lv_at hl 1 rfl) ?_
  refine r_callV (Y := M_X8_hasRule) (v := some (.int q4.1)) X I w_2035 my_X8_hasRule (by omega) (t_X8_hasRule (G := G) (d := d + 4) h4) (b_X8_hasRule h4) rfl rfl hl.1 rfl (Nat.le_of_ble_eq_true rfl) hn le5 dX8_isHonest_22 (fun H locs cells slots I hn1 hn2 => ?_)
  have I : s_I G q4.2 s H locs := I
  have hn : cells + σ0.2.1 ≤ q4.2.2.1 ∧ slots + σ0.2.2.1 ≤ q4.2.2.2.1 := ⟨hn1, hn2⟩
  rcases s_ite hf with ⟨c9, hf⟩ | ⟨c9, hf⟩
  · refine lv_if_eq (tgt := 41) hx hb dX8_isHonest_25 (by decide) (fun _ => ?_) (fun n => absurd c9 n)
    cases hf
    have k : _ = r := k
    subst k
    refine lv_iconst (v := 0) hx hb dX8_isHonest_41 (by decide) ?_
    exact r_iret X I rfl rfl rfl hn dX8_isHonest_42
  · refine lv_if_eq (tgt := 41) hx hb dX8_isHonest_25 (by decide) (fun n => absurd n c9) (fun _ => ?_)
    obtain ⟨q5, h10, hf⟩ := s_bind hf
    obtain ⟨q6, h11, hf⟩ := s_bind hf
    have le12 : s_le q6.2 (e_I r).2 := by
      refine s_lek hem_I ?_ k
      rcases s_ite hf with ⟨-, hf⟩ | ⟨-, hf⟩
      · obtain ⟨q7, hh, hf⟩ := s_bind hf
        refine s_lz.tr (l_X8_premise hh) ?_
        rcases s_ite hf with ⟨-, hf⟩ | ⟨-, hf⟩
        · obtain ⟨q8, hh, hf⟩ := s_bind hf
          refine s_lz.tr (l_X8_premise hh) ?_
          obtain ⟨q9, hh, hf⟩ := s_bind hf
          refine s_lz.tr (l_X8_ofLine hh) ?_
          cases hf
          exact s_le.rf
        · cases hf
          exact s_le.rf
      · cases hf
        exact s_le.rf
    have le13 := s_le.tr (l_X8_asked h11) le12
    refine lv_aload_n hx hb dX8_isHonest_28 rfl (lv_at hl 2 rfl) ?_
    refine lv_iload_n hx hb dX8_isHonest_29 rfl (lv_at hl 3 rfl) ?_
    refine r_callV (Y := M_X8_premises) (v := some (.int q5.1)) X I w_2039 my_X8_premises (by omega) (t_X8_premises (G := G) (d := d + 2) h10) (b_X8_premises h10) rfl rfl hl.1 rfl (Nat.le_of_ble_eq_true rfl) hn le13 dX8_isHonest_30 (fun H locs cells slots I hn1 hn2 => ?_)
    have I : s_I G q5.2 s H locs := I
    have hn : cells + σ0.2.1 ≤ q5.2.2.1 ∧ slots + σ0.2.2.1 ≤ q5.2.2.2.1 := ⟨hn1, hn2⟩
    refine lv_aload_n hx hb dX8_isHonest_33 rfl (lv_at hl 2 rfl) ?_
    refine lv_iload_n hx hb dX8_isHonest_34 rfl (lv_at hl 1 rfl) ?_
    refine r_callV (Y := M_X8_asked) (v := some (.int q6.1)) X I w_2047 my_X8_asked (by omega) (t_X8_asked (G := G) (d := d + 3) h11) (b_X8_asked h11) rfl rfl hl.1 rfl (Nat.le_of_ble_eq_true rfl) hn le12 dX8_isHonest_35 (fun H locs cells slots I hn1 hn2 => ?_)
    have I : s_I G q6.2 s H locs := I
    have hn : cells + σ0.2.1 ≤ q6.2.2.1 ∧ slots + σ0.2.2.1 ≤ q6.2.2.2.1 := ⟨hn1, hn2⟩
    rcases s_ite hf with ⟨c14, hf⟩ | ⟨c14, hf⟩
    · refine lv_icmp_eq (tgt := 43) hx hb dX8_isHonest_38 (by decide) (fun _ => ?_) (fun n => absurd c14 n)
      obtain ⟨q7, h15, hf⟩ := s_bind hf
      have le16 : s_le q7.2 (e_I r).2 := by
        refine s_lek hem_I ?_ k
        rcases s_ite hf with ⟨-, hf⟩ | ⟨-, hf⟩
        · obtain ⟨q8, hh, hf⟩ := s_bind hf
          refine s_lz.tr (l_X8_premise hh) ?_
          obtain ⟨q9, hh, hf⟩ := s_bind hf
          refine s_lz.tr (l_X8_ofLine hh) ?_
          cases hf
          exact s_le.rf
        · cases hf
          exact s_le.rf
      refine lv_aload_n hx hb dX8_isHonest_43 rfl (lv_at hl 2 rfl) ?_
      refine lv_iload_n hx hb dX8_isHonest_44 rfl (lv_at hl 3 rfl) ?_
      refine lv_iconst (v := 0) hx hb dX8_isHonest_45 (by decide) ?_
      refine r_callV (Y := M_X8_premise) (v := some (.int q7.1)) X I w_2043 my_X8_premise (by omega) (t_X8_premise (G := G) (d := d + 3) h15) (b_X8_premise h15) rfl rfl hl.1 rfl (Nat.le_of_ble_eq_true rfl) hn le16 dX8_isHonest_46 (fun H locs cells slots I hn1 hn2 => ?_)
      have I : s_I G q7.2 s H locs := I
      have hn : cells + σ0.2.1 ≤ q7.2.2.1 ∧ slots + σ0.2.2.1 ≤ q7.2.2.2.1 := ⟨hn1, hn2⟩
      rcases s_ite hf with ⟨c17, hf⟩ | ⟨c17, hf⟩
      · refine lv_if_ge (tgt := 56) hx hb dX8_isHonest_49 (by decide) (fun _ => ?_) (fun n => absurd c17 n)
        obtain ⟨q8, h18, hf⟩ := s_bind hf
        obtain ⟨q9, h19, hf⟩ := s_bind hf
        cases hf
        have k : s_V G (d + 6) M_X8_isHonest vs0 σ0 Y_X8_isHonest (67, [.ref v0, .int v1, .int q1.1, .int q2.1, .int q9.1], q9.2) (e_I r) := k
        have le20 : s_le q9.2 (e_I r).2 := k.1
        have le21 := s_le.tr (l_X8_ofLine h19) le20
        refine lv_aload_n hx hb dX8_isHonest_56 rfl (lv_at hl 2 rfl) ?_
        refine lv_aload_n hx hb dX8_isHonest_57 rfl (lv_at hl 2 rfl) ?_
        refine lv_iload_n hx hb dX8_isHonest_58 rfl (lv_at hl 3 rfl) ?_
        refine lv_iconst (v := 0) hx hb dX8_isHonest_59 (by decide) ?_
        refine r_callV (Y := M_X8_premise) (v := some (.int q8.1)) X I w_2043 my_X8_premise (by omega) (t_X8_premise (G := G) (d := d + 3) h18) (b_X8_premise h18) rfl rfl hl.1 rfl (Nat.le_of_ble_eq_true rfl) hn le21 dX8_isHonest_60 (fun H locs cells slots I hn1 hn2 => ?_)
        have I : s_I G q8.2 s H locs := I
        have hn : cells + σ0.2.1 ≤ q8.2.2.1 ∧ slots + σ0.2.2.1 ≤ q8.2.2.2.1 := ⟨hn1, hn2⟩
        refine lv_iconst (v := 1) hx hb dX8_isHonest_63 (by decide) ?_
        refine r_callV (Y := M_X8_ofLine) (v := some (.int q9.1)) X I w_2015 my_X8_ofLine (by omega) (t_X8_ofLine (G := G) (d := d + 4) h19) (b_X8_ofLine h19) rfl rfl hl.1 rfl (Nat.le_of_ble_eq_true rfl) hn le20 dX8_isHonest_64 (fun H locs cells slots I hn1 hn2 => ?_)
        have I : s_I G q9.2 s H locs := I
        have hn : cells + σ0.2.1 ≤ q9.2.2.1 ∧ slots + σ0.2.2.1 ≤ q9.2.2.2.1 := ⟨hn1, hn2⟩
        exact k.2 p e s m below meth c _ _ _ _ _ X I hn.1 hn.2 (lv_sub hl [2, 3, 1, 0] rfl)
      · refine lv_if_ge (tgt := 56) hx hb dX8_isHonest_49 (by decide) (fun n => absurd n c17) (fun _ => ?_)
        cases hf
        have k : s_V G (d + 6) M_X8_isHonest vs0 σ0 Y_X8_isHonest (67, [.ref v0, .int v1, .int q1.1, .int q2.1, .int (-1)], q7.2) (e_I r) := k
        refine lv_iconst (v := (-1)) hx hb dX8_isHonest_52 (by decide) ?_
        refine lv_goto (tgt := 67) hx hb dX8_isHonest_53 (by decide) ?_
        exact k.2 p e s m below meth c _ _ _ _ _ X I hn.1 hn.2 (lv_sub hl [2, 3, 1, 0] rfl)
    · refine lv_icmp_eq (tgt := 43) hx hb dX8_isHonest_38 (by decide) (fun n => absurd n c14) (fun _ => ?_)
      cases hf
      have k : _ = r := k
      subst k
      refine lv_iconst (v := 0) hx hb dX8_isHonest_41 (by decide) ?_
      exact r_iret X I rfl rfl rfl hn dX8_isHonest_42
set_option maxRecDepth 100000 in
set_option maxHeartbeats 4000000 in
theorem v_X8_isHonest_67 {G : sG} {d : Nat} {vs0 : List Value} {σ0 : sS} {v0 : Nat} {v1 : Int32} {v2 : Int32} {v3 : Int32} {w0 : Int32} {σ : sS} {z : sZ Int32} {r : Int32 × sS} (hf : T_X8_isHonest_67 v0 v1 v2 v3 w0 σ = some z) (k : s_K G (d + 6) M_X8_isHonest vs0 σ0 Y_X8_isHonest e_I z r) : s_V G (d + 6) M_X8_isHonest vs0 σ0 Y_X8_isHonest (67, [.ref v0, .int v1, .int v2, .int v3, .int w0], σ) (e_I r) := by
  have le0 : s_le σ (e_I r).2 := s_lek hem_I (l_X8_isHonest_67 hf) k
  refine ⟨le0, ?_⟩
  intro p e s m below meth c H locs cells slots ls X I hn1 hn2 hl
  have hn : cells + σ0.2.1 ≤ σ.2.1 ∧ slots + σ0.2.2.1 ≤ σ.2.2.1 := ⟨hn1, hn2⟩
  have hl : lv_has ls 7 [(0, .ref v0), (1, .int v1), (2, .int v2), (3, .int v3)] := hl
  have hx := X.1
  have hb : c.code = cX8_isHonest := X.2.1
  have hown : s.vm.findClass RX8 = some m.cls := X.2.2.2.2.2.1
  have hts := X.2.2.2.2.2.2.1
  refine W.eq (g2 := F0 m 67 ls [.int w0]) rfl ?_
  unfold T_X8_isHonest_67 at hf
  obtain ⟨q1, h1, hf⟩ := s_bind hf
  have le2 : s_le q1.2 (e_I r).2 := by
    refine s_lek hem_I ?_ k
    rcases s_ite hf with ⟨-, hf⟩ | ⟨-, hf⟩
    · obtain ⟨q2, hh, hf⟩ := s_bind hf
      refine s_lz.tr (l_X8_premise hh) ?_
      obtain ⟨q3, hh, hf⟩ := s_bind hf
      refine s_lz.tr (l_X8_ofLine hh) ?_
      cases hf
      exact s_le.rf
    · cases hf
      exact s_le.rf
  refine lv_istore (lv' := [(4, .int w0), (0, .ref v0), (1, .int v1), (2, .int v2), (3, .int v3)]) hx hb dX8_isHonest_67 hl (by decide) rfl (fun ls hl => ?_)
  refine lv_aload_n hx hb dX8_isHonest_69 rfl (lv_at hl 1 rfl) ?_
  refine lv_iload_n hx hb dX8_isHonest_70 rfl (lv_at hl 2 rfl) ?_
  refine lv_iconst (v := 1) hx hb dX8_isHonest_71 (by decide) ?_
  refine r_callV (Y := M_X8_premise) (v := some (.int q1.1)) X I w_2043 my_X8_premise (by omega) (t_X8_premise (G := G) (d := d + 3) h1) (b_X8_premise h1) rfl rfl hl.1 rfl (Nat.le_of_ble_eq_true rfl) hn le2 dX8_isHonest_72 (fun H locs cells slots I hn1 hn2 => ?_)
  have I : s_I G q1.2 s H locs := I
  have hn : cells + σ0.2.1 ≤ q1.2.2.1 ∧ slots + σ0.2.2.1 ≤ q1.2.2.2.1 := ⟨hn1, hn2⟩
  rcases s_ite hf with ⟨c3, hf⟩ | ⟨c3, hf⟩
  · refine lv_if_ge (tgt := 82) hx hb dX8_isHonest_75 (by decide) (fun _ => ?_) (fun n => absurd c3 n)
    obtain ⟨q2, h4, hf⟩ := s_bind hf
    obtain ⟨q3, h5, hf⟩ := s_bind hf
    cases hf
    have k : s_V G (d + 6) M_X8_isHonest vs0 σ0 Y_X8_isHonest (93, [.ref v0, .int v1, .int v2, .int v3, .int w0, .int q3.1], q3.2) (e_I r) := k
    have le6 : s_le q3.2 (e_I r).2 := k.1
    have le7 := s_le.tr (l_X8_ofLine h5) le6
    refine lv_aload_n hx hb dX8_isHonest_82 rfl (lv_at hl 1 rfl) ?_
    refine lv_aload_n hx hb dX8_isHonest_83 rfl (lv_at hl 1 rfl) ?_
    refine lv_iload_n hx hb dX8_isHonest_84 rfl (lv_at hl 2 rfl) ?_
    refine lv_iconst (v := 1) hx hb dX8_isHonest_85 (by decide) ?_
    refine r_callV (Y := M_X8_premise) (v := some (.int q2.1)) X I w_2043 my_X8_premise (by omega) (t_X8_premise (G := G) (d := d + 3) h4) (b_X8_premise h4) rfl rfl hl.1 rfl (Nat.le_of_ble_eq_true rfl) hn le7 dX8_isHonest_86 (fun H locs cells slots I hn1 hn2 => ?_)
    have I : s_I G q2.2 s H locs := I
    have hn : cells + σ0.2.1 ≤ q2.2.2.1 ∧ slots + σ0.2.2.1 ≤ q2.2.2.2.1 := ⟨hn1, hn2⟩
    refine lv_iconst (v := 1) hx hb dX8_isHonest_89 (by decide) ?_
    refine r_callV (Y := M_X8_ofLine) (v := some (.int q3.1)) X I w_2015 my_X8_ofLine (by omega) (t_X8_ofLine (G := G) (d := d + 4) h5) (b_X8_ofLine h5) rfl rfl hl.1 rfl (Nat.le_of_ble_eq_true rfl) hn le6 dX8_isHonest_90 (fun H locs cells slots I hn1 hn2 => ?_)
    have I : s_I G q3.2 s H locs := I
    have hn : cells + σ0.2.1 ≤ q3.2.2.1 ∧ slots + σ0.2.2.1 ≤ q3.2.2.2.1 := ⟨hn1, hn2⟩
    exact k.2 p e s m below meth c _ _ _ _ _ X I hn.1 hn.2 (lv_sub hl [1, 2, 3, 4, 0] rfl)
  · refine lv_if_ge (tgt := 82) hx hb dX8_isHonest_75 (by decide) (fun n => absurd n c3) (fun _ => ?_)
    cases hf
    have k : s_V G (d + 6) M_X8_isHonest vs0 σ0 Y_X8_isHonest (93, [.ref v0, .int v1, .int v2, .int v3, .int w0, .int (-1)], q1.2) (e_I r) := k
    refine lv_iconst (v := (-1)) hx hb dX8_isHonest_78 (by decide) ?_
    refine lv_goto (tgt := 93) hx hb dX8_isHonest_79 (by decide) ?_
    exact k.2 p e s m below meth c _ _ _ _ _ X I hn.1 hn.2 (lv_sub hl [1, 2, 3, 4, 0] rfl)
set_option maxRecDepth 100000 in
set_option maxHeartbeats 4000000 in
theorem v_X8_isHonest_93 {G : sG} {d : Nat} {vs0 : List Value} {σ0 : sS} {v0 : Nat} {v1 : Int32} {v2 : Int32} {v3 : Int32} {v4 : Int32} {w0 : Int32} {σ : sS} {z : sZ Int32} {r : Int32 × sS} (hf : T_X8_isHonest_93 v0 v1 v2 v3 v4 w0 σ = some z) (k : s_K G (d + 6) M_X8_isHonest vs0 σ0 Y_X8_isHonest e_I z r) : s_V G (d + 6) M_X8_isHonest vs0 σ0 Y_X8_isHonest (93, [.ref v0, .int v1, .int v2, .int v3, .int v4, .int w0], σ) (e_I r) := by
  have le0 : s_le σ (e_I r).2 := s_lek hem_I (l_X8_isHonest_93 hf) k
  refine ⟨le0, ?_⟩
  intro p e s m below meth c H locs cells slots ls X I hn1 hn2 hl
  have hn : cells + σ0.2.1 ≤ σ.2.1 ∧ slots + σ0.2.2.1 ≤ σ.2.2.1 := ⟨hn1, hn2⟩
  have hl : lv_has ls 7 [(0, .ref v0), (1, .int v1), (2, .int v2), (3, .int v3), (4, .int v4)] := hl
  have hx := X.1
  have hb : c.code = cX8_isHonest := X.2.1
  have hown : s.vm.findClass RX8 = some m.cls := X.2.2.2.2.2.1
  have hts := X.2.2.2.2.2.2.1
  refine W.eq (g2 := F0 m 93 ls [.int w0]) rfl ?_
  unfold T_X8_isHonest_93 at hf
  obtain ⟨q1, h1, hf⟩ := s_bind hf
  have le2 : s_le q1.2 (e_I r).2 := by
    refine s_lek hem_I ?_ k
    rcases s_ite hf with ⟨-, hf⟩ | ⟨-, hf⟩
    · obtain ⟨q2, hh, hf⟩ := s_bind hf
      refine s_lz.tr (l_X8_premise hh) ?_
      obtain ⟨q3, hh, hf⟩ := s_bind hf
      refine s_lz.tr (l_X8_ofLine hh) ?_
      cases hf
      exact s_le.rf
    · cases hf
      exact s_le.rf
  refine lv_istore (lv' := [(5, .int w0), (0, .ref v0), (1, .int v1), (2, .int v2), (3, .int v3), (4, .int v4)]) hx hb dX8_isHonest_93 hl (by decide) rfl (fun ls hl => ?_)
  refine lv_aload_n hx hb dX8_isHonest_95 rfl (lv_at hl 1 rfl) ?_
  refine lv_iload_n hx hb dX8_isHonest_96 rfl (lv_at hl 2 rfl) ?_
  refine lv_iconst (v := 2) hx hb dX8_isHonest_97 (by decide) ?_
  refine r_callV (Y := M_X8_premise) (v := some (.int q1.1)) X I w_2043 my_X8_premise (by omega) (t_X8_premise (G := G) (d := d + 3) h1) (b_X8_premise h1) rfl rfl hl.1 rfl (Nat.le_of_ble_eq_true rfl) hn le2 dX8_isHonest_98 (fun H locs cells slots I hn1 hn2 => ?_)
  have I : s_I G q1.2 s H locs := I
  have hn : cells + σ0.2.1 ≤ q1.2.2.1 ∧ slots + σ0.2.2.1 ≤ q1.2.2.2.1 := ⟨hn1, hn2⟩
  rcases s_ite hf with ⟨c3, hf⟩ | ⟨c3, hf⟩
  · refine lv_if_ge (tgt := 108) hx hb dX8_isHonest_101 (by decide) (fun _ => ?_) (fun n => absurd c3 n)
    obtain ⟨q2, h4, hf⟩ := s_bind hf
    obtain ⟨q3, h5, hf⟩ := s_bind hf
    cases hf
    have k : s_V G (d + 6) M_X8_isHonest vs0 σ0 Y_X8_isHonest (119, [.ref v0, .int v1, .int v2, .int v3, .int v4, .int w0, .int q3.1], q3.2) (e_I r) := k
    have le6 : s_le q3.2 (e_I r).2 := k.1
    have le7 := s_le.tr (l_X8_ofLine h5) le6
    refine lv_aload_n hx hb dX8_isHonest_108 rfl (lv_at hl 1 rfl) ?_
    refine lv_aload_n hx hb dX8_isHonest_109 rfl (lv_at hl 1 rfl) ?_
    refine lv_iload_n hx hb dX8_isHonest_110 rfl (lv_at hl 2 rfl) ?_
    refine lv_iconst (v := 2) hx hb dX8_isHonest_111 (by decide) ?_
    refine r_callV (Y := M_X8_premise) (v := some (.int q2.1)) X I w_2043 my_X8_premise (by omega) (t_X8_premise (G := G) (d := d + 3) h4) (b_X8_premise h4) rfl rfl hl.1 rfl (Nat.le_of_ble_eq_true rfl) hn le7 dX8_isHonest_112 (fun H locs cells slots I hn1 hn2 => ?_)
    have I : s_I G q2.2 s H locs := I
    have hn : cells + σ0.2.1 ≤ q2.2.2.1 ∧ slots + σ0.2.2.1 ≤ q2.2.2.2.1 := ⟨hn1, hn2⟩
    refine lv_iconst (v := 1) hx hb dX8_isHonest_115 (by decide) ?_
    refine r_callV (Y := M_X8_ofLine) (v := some (.int q3.1)) X I w_2015 my_X8_ofLine (by omega) (t_X8_ofLine (G := G) (d := d + 4) h5) (b_X8_ofLine h5) rfl rfl hl.1 rfl (Nat.le_of_ble_eq_true rfl) hn le6 dX8_isHonest_116 (fun H locs cells slots I hn1 hn2 => ?_)
    have I : s_I G q3.2 s H locs := I
    have hn : cells + σ0.2.1 ≤ q3.2.2.1 ∧ slots + σ0.2.2.1 ≤ q3.2.2.2.1 := ⟨hn1, hn2⟩
    exact k.2 p e s m below meth c _ _ _ _ _ X I hn.1 hn.2 (lv_sub hl [1, 2, 3, 4, 5, 0] rfl)
  · refine lv_if_ge (tgt := 108) hx hb dX8_isHonest_101 (by decide) (fun n => absurd n c3) (fun _ => ?_)
    cases hf
    have k : s_V G (d + 6) M_X8_isHonest vs0 σ0 Y_X8_isHonest (119, [.ref v0, .int v1, .int v2, .int v3, .int v4, .int w0, .int (-1)], q1.2) (e_I r) := k
    refine lv_iconst (v := (-1)) hx hb dX8_isHonest_104 (by decide) ?_
    refine lv_goto (tgt := 119) hx hb dX8_isHonest_105 (by decide) ?_
    exact k.2 p e s m below meth c _ _ _ _ _ X I hn.1 hn.2 (lv_sub hl [1, 2, 3, 4, 5, 0] rfl)
set_option maxRecDepth 100000 in
set_option maxHeartbeats 4000000 in
theorem v_X8_isHonest_119 {G : sG} {d : Nat} {vs0 : List Value} {σ0 : sS} {v0 : Nat} {v1 : Int32} {v2 : Int32} {v3 : Int32} {v4 : Int32} {v5 : Int32} {w0 : Int32} {σ : sS} {z : sZ Int32} {r : Int32 × sS} (hf : T_X8_isHonest_119 v0 v1 v2 v3 v4 v5 w0 σ = some z) (k : s_K G (d + 6) M_X8_isHonest vs0 σ0 Y_X8_isHonest e_I z r) : s_V G (d + 6) M_X8_isHonest vs0 σ0 Y_X8_isHonest (119, [.ref v0, .int v1, .int v2, .int v3, .int v4, .int v5, .int w0], σ) (e_I r) := by
  have le0 : s_le σ (e_I r).2 := s_lek hem_I (l_X8_isHonest_119 hf) k
  refine ⟨le0, ?_⟩
  intro p e s m below meth c H locs cells slots ls X I hn1 hn2 hl
  have hn : cells + σ0.2.1 ≤ σ.2.1 ∧ slots + σ0.2.2.1 ≤ σ.2.2.1 := ⟨hn1, hn2⟩
  have hl : lv_has ls 7 [(0, .ref v0), (1, .int v1), (2, .int v2), (3, .int v3), (4, .int v4), (5, .int v5)] := hl
  have hx := X.1
  have hb : c.code = cX8_isHonest := X.2.1
  have hown : s.vm.findClass RX8 = some m.cls := X.2.2.2.2.2.1
  have hts := X.2.2.2.2.2.2.1
  refine W.eq (g2 := F0 m 119 ls [.int w0]) rfl ?_
  unfold T_X8_isHonest_119 at hf
  refine lv_istore (lv' := [(6, .int w0), (0, .ref v0), (1, .int v1), (2, .int v2), (3, .int v3), (4, .int v4), (5, .int v5)]) hx hb dX8_isHonest_119 hl (by decide) rfl (fun ls hl => ?_)
  refine lv_iload_n hx hb dX8_isHonest_121 rfl (lv_at hl 3 rfl) ?_
  rcases s_ite hf with ⟨c1, hf⟩ | ⟨c1, hf⟩
  · refine lv_tableIn (tgt := 196) (off := 74) hx hb dX8_isHonest_122 (by rw [c1]; decide) (by rw [c1]; decide) (by rw [c1]; rfl) (by decide) ?_
    obtain ⟨q1, h2, hf⟩ := s_bind hf
    obtain ⟨q2, h3, hf⟩ := s_bind hf
    obtain ⟨q3, h4, hf⟩ := s_bind hf
    have le5 : s_le q3.2 (e_I r).2 := by
      refine s_lek hem_I ?_ k
      rcases s_ite hf with ⟨-, hf⟩ | ⟨-, hf⟩
      · cases hf
        exact s_le.rf
      · cases hf
    have le6 := s_le.tr (l_X8_isAmong h4) le5
    have le7 := s_le.tr (l_X8_beliefsOf h3) le6
    refine lv_aload_n hx hb dX8_isHonest_196 rfl (lv_at hl 1 rfl) ?_
    refine lv_iload_n hx hb dX8_isHonest_197 rfl (lv_at hl 4 rfl) ?_
    refine lv_aload_n hx hb dX8_isHonest_198 rfl (lv_at hl 1 rfl) ?_
    refine lv_aload_n hx hb dX8_isHonest_199 rfl (lv_at hl 1 rfl) ?_
    refine lv_iload_n hx hb dX8_isHonest_200 rfl (lv_at hl 2 rfl) ?_
    refine lv_iconst (v := 3) hx hb dX8_isHonest_201 (by decide) ?_
    refine r_callV (Y := M_X8_ofLine) (v := some (.int q1.1)) X I w_2015 my_X8_ofLine (by omega) (t_X8_ofLine (G := G) (d := d + 4) h2) (b_X8_ofLine h2) rfl rfl hl.1 rfl (Nat.le_of_ble_eq_true rfl) hn le7 dX8_isHonest_202 (fun H locs cells slots I hn1 hn2 => ?_)
    have I : s_I G q1.2 s H locs := I
    have hn : cells + σ0.2.1 ≤ q1.2.2.1 ∧ slots + σ0.2.2.1 ≤ q1.2.2.2.1 := ⟨hn1, hn2⟩
    refine r_callV (Y := M_X8_beliefsOf) (v := some (.int q2.1)) X I w_1987 my_X8_beliefsOf (by omega) (t_X8_beliefsOf (G := G) (d := d + 4) h3) (b_X8_beliefsOf h3) rfl rfl hl.1 rfl (Nat.le_of_ble_eq_true rfl) hn le6 dX8_isHonest_205 (fun H locs cells slots I hn1 hn2 => ?_)
    have I : s_I G q2.2 s H locs := I
    have hn : cells + σ0.2.1 ≤ q2.2.2.1 ∧ slots + σ0.2.2.1 ≤ q2.2.2.2.1 := ⟨hn1, hn2⟩
    refine r_callV (Y := M_X8_isAmong) (v := some (.int q3.1)) X I w_2051 my_X8_isAmong (by omega) (t_X8_isAmong (G := G) (d := d + 1) h4) (b_X8_isAmong h4) rfl rfl hl.1 rfl (Nat.le_of_ble_eq_true rfl) hn le5 dX8_isHonest_208 (fun H locs cells slots I hn1 hn2 => ?_)
    have I : s_I G q3.2 s H locs := I
    have hn : cells + σ0.2.1 ≤ q3.2.2.1 ∧ slots + σ0.2.2.1 ≤ q3.2.2.2.1 := ⟨hn1, hn2⟩
    rcases s_ite hf with ⟨hchk, hf⟩ | ⟨-, hf⟩
    · cases hf
      have k : _ = r := k
      subst k
      exact r_iret X I rfl (s_nb hchk) rfl hn dX8_isHonest_211
    · cases hf
  rcases s_ite hf with ⟨c8, hf⟩ | ⟨c8, hf⟩
  · refine lv_tableIn (tgt := 212) (off := 90) hx hb dX8_isHonest_122 (by rw [c8]; decide) (by rw [c8]; decide) (by rw [c8]; rfl) (by decide) ?_
    cases hf
    have k : _ = r := k
    subst k
    refine lv_iconst (v := 1) hx hb dX8_isHonest_212 (by decide) ?_
    exact r_iret X I rfl rfl rfl hn dX8_isHonest_213
  rcases s_ite hf with ⟨c9, hf⟩ | ⟨c9, hf⟩
  · refine lv_tableIn (tgt := 214) (off := 92) hx hb dX8_isHonest_122 (by rw [c9]; decide) (by rw [c9]; decide) (by rw [c9]; rfl) (by decide) ?_
    obtain ⟨q4, h10, hf⟩ := s_bind hf
    have le11 : s_le q4.2 (e_I r).2 := by
      refine s_lek hem_I ?_ k
      rcases s_ite hf with ⟨-, hf⟩ | ⟨-, hf⟩
      · cases hf
        exact s_le.rf
      · obtain ⟨q5, hh, hf⟩ := s_bind hf
        refine s_lz.tr (l_X8_isRight hh) ?_
        rcases s_ite hf with ⟨-, hf⟩ | ⟨-, hf⟩
        · cases hf
          exact s_le.rf
        · cases hf
          exact s_le.rf
    refine lv_aload_n hx hb dX8_isHonest_214 rfl (lv_at hl 1 rfl) ?_
    refine lv_iload_n hx hb dX8_isHonest_215 rfl (lv_at hl 4 rfl) ?_
    refine lv_bipush (v := 13) hx hb dX8_isHonest_216 (by decide) ?_
    refine lv_iload hx hb dX8_isHonest_218 (lv_at hl 5 rfl) ?_
    refine r_callV (Y := M_X8_isLeft) (v := some (.int q4.1)) X I w_2055 my_X8_isLeft (by omega) (t_X8_isLeft (G := G) (d := d + 1) h10) (b_X8_isLeft h10) rfl rfl hl.1 rfl (Nat.le_of_ble_eq_true rfl) hn le11 dX8_isHonest_220 (fun H locs cells slots I hn1 hn2 => ?_)
    have I : s_I G q4.2 s H locs := I
    have hn : cells + σ0.2.1 ≤ q4.2.2.1 ∧ slots + σ0.2.2.1 ≤ q4.2.2.2.1 := ⟨hn1, hn2⟩
    rcases s_ite hf with ⟨c12, hf⟩ | ⟨c12, hf⟩
    · refine lv_if_eq (tgt := 242) hx hb dX8_isHonest_223 (by decide) (fun _ => ?_) (fun n => absurd c12 n)
      cases hf
      have k : _ = r := k
      subst k
      refine lv_iconst (v := 0) hx hb dX8_isHonest_242 (by decide) ?_
      exact r_iret X I rfl rfl rfl hn dX8_isHonest_243
    · refine lv_if_eq (tgt := 242) hx hb dX8_isHonest_223 (by decide) (fun n => absurd n c12) (fun _ => ?_)
      obtain ⟨q5, h13, hf⟩ := s_bind hf
      have le14 : s_le q5.2 (e_I r).2 := by
        refine s_lek hem_I ?_ k
        rcases s_ite hf with ⟨-, hf⟩ | ⟨-, hf⟩
        · cases hf
          exact s_le.rf
        · cases hf
          exact s_le.rf
      refine lv_aload_n hx hb dX8_isHonest_226 rfl (lv_at hl 1 rfl) ?_
      refine lv_iload_n hx hb dX8_isHonest_227 rfl (lv_at hl 4 rfl) ?_
      refine lv_bipush (v := 13) hx hb dX8_isHonest_228 (by decide) ?_
      refine lv_iload hx hb dX8_isHonest_230 (lv_at hl 6 rfl) ?_
      refine r_callV (Y := M_X8_isRight) (v := some (.int q5.1)) X I w_2067 my_X8_isRight (by omega) (t_X8_isRight (G := G) (d := d + 1) h13) (b_X8_isRight h13) rfl rfl hl.1 rfl (Nat.le_of_ble_eq_true rfl) hn le14 dX8_isHonest_232 (fun H locs cells slots I hn1 hn2 => ?_)
      have I : s_I G q5.2 s H locs := I
      have hn : cells + σ0.2.1 ≤ q5.2.2.1 ∧ slots + σ0.2.2.1 ≤ q5.2.2.2.1 := ⟨hn1, hn2⟩
      rcases s_ite hf with ⟨c15, hf⟩ | ⟨c15, hf⟩
      · refine lv_if_eq (tgt := 242) hx hb dX8_isHonest_235 (by decide) (fun _ => ?_) (fun n => absurd c15 n)
        cases hf
        have k : _ = r := k
        subst k
        refine lv_iconst (v := 0) hx hb dX8_isHonest_242 (by decide) ?_
        exact r_iret X I rfl rfl rfl hn dX8_isHonest_243
      · refine lv_if_eq (tgt := 242) hx hb dX8_isHonest_235 (by decide) (fun n => absurd n c15) (fun _ => ?_)
        cases hf
        have k : _ = r := k
        subst k
        refine lv_iconst (v := 1) hx hb dX8_isHonest_238 (by decide) ?_
        refine lv_goto (tgt := 243) hx hb dX8_isHonest_239 (by decide) ?_
        exact r_iret X I rfl rfl rfl hn dX8_isHonest_243
  rcases s_ite hf with ⟨c16, hf⟩ | ⟨c16, hf⟩
  · refine lv_tableIn (tgt := 244) (off := 122) hx hb dX8_isHonest_122 (by rw [c16]; decide) (by rw [c16]; decide) (by rw [c16]; rfl) (by decide) ?_
    obtain ⟨q6, h17, hf⟩ := s_bind hf
    have le18 : s_le q6.2 (e_I r).2 := by
      refine s_lek hem_I ?_ k
      rcases s_ite hf with ⟨-, hf⟩ | ⟨-, hf⟩
      · cases hf
        exact s_le.rf
      · cases hf
    refine lv_aload_n hx hb dX8_isHonest_244 rfl (lv_at hl 1 rfl) ?_
    refine lv_iload hx hb dX8_isHonest_245 (lv_at hl 5 rfl) ?_
    refine lv_bipush (v := 13) hx hb dX8_isHonest_247 (by decide) ?_
    refine lv_iload_n hx hb dX8_isHonest_249 rfl (lv_at hl 4 rfl) ?_
    refine r_callV (Y := M_X8_isLeft) (v := some (.int q6.1)) X I w_2055 my_X8_isLeft (by omega) (t_X8_isLeft (G := G) (d := d + 1) h17) (b_X8_isLeft h17) rfl rfl hl.1 rfl (Nat.le_of_ble_eq_true rfl) hn le18 dX8_isHonest_250 (fun H locs cells slots I hn1 hn2 => ?_)
    have I : s_I G q6.2 s H locs := I
    have hn : cells + σ0.2.1 ≤ q6.2.2.1 ∧ slots + σ0.2.2.1 ≤ q6.2.2.2.1 := ⟨hn1, hn2⟩
    rcases s_ite hf with ⟨hchk, hf⟩ | ⟨-, hf⟩
    · cases hf
      have k : _ = r := k
      subst k
      exact r_iret X I rfl (s_nb hchk) rfl hn dX8_isHonest_253
    · cases hf
  rcases s_ite hf with ⟨c19, hf⟩ | ⟨c19, hf⟩
  · refine lv_tableIn (tgt := 254) (off := 132) hx hb dX8_isHonest_122 (by rw [c19]; decide) (by rw [c19]; decide) (by rw [c19]; rfl) (by decide) ?_
    obtain ⟨q7, h20, hf⟩ := s_bind hf
    have le21 : s_le q7.2 (e_I r).2 := by
      refine s_lek hem_I ?_ k
      rcases s_ite hf with ⟨-, hf⟩ | ⟨-, hf⟩
      · cases hf
        exact s_le.rf
      · cases hf
    refine lv_aload_n hx hb dX8_isHonest_254 rfl (lv_at hl 1 rfl) ?_
    refine lv_iload hx hb dX8_isHonest_255 (lv_at hl 5 rfl) ?_
    refine lv_bipush (v := 13) hx hb dX8_isHonest_257 (by decide) ?_
    refine lv_iload_n hx hb dX8_isHonest_259 rfl (lv_at hl 4 rfl) ?_
    refine r_callV (Y := M_X8_isRight) (v := some (.int q7.1)) X I w_2067 my_X8_isRight (by omega) (t_X8_isRight (G := G) (d := d + 1) h20) (b_X8_isRight h20) rfl rfl hl.1 rfl (Nat.le_of_ble_eq_true rfl) hn le21 dX8_isHonest_260 (fun H locs cells slots I hn1 hn2 => ?_)
    have I : s_I G q7.2 s H locs := I
    have hn : cells + σ0.2.1 ≤ q7.2.2.1 ∧ slots + σ0.2.2.1 ≤ q7.2.2.2.1 := ⟨hn1, hn2⟩
    rcases s_ite hf with ⟨hchk, hf⟩ | ⟨-, hf⟩
    · cases hf
      have k : _ = r := k
      subst k
      exact r_iret X I rfl (s_nb hchk) rfl hn dX8_isHonest_263
    · cases hf
  rcases s_ite hf with ⟨c22, hf⟩ | ⟨c22, hf⟩
  · refine lv_tableIn (tgt := 264) (off := 142) hx hb dX8_isHonest_122 (by rw [c22]; decide) (by rw [c22]; decide) (by rw [c22]; rfl) (by decide) ?_
    obtain ⟨q8, h23, hf⟩ := s_bind hf
    have le24 : s_le q8.2 (e_I r).2 := by
      refine s_lek hem_I ?_ k
      rcases s_ite hf with ⟨-, hf⟩ | ⟨-, hf⟩
      · cases hf
        exact s_le.rf
      · cases hf
    refine lv_aload_n hx hb dX8_isHonest_264 rfl (lv_at hl 1 rfl) ?_
    refine lv_iload_n hx hb dX8_isHonest_265 rfl (lv_at hl 4 rfl) ?_
    refine lv_bipush (v := 14) hx hb dX8_isHonest_266 (by decide) ?_
    refine lv_iload hx hb dX8_isHonest_268 (lv_at hl 5 rfl) ?_
    refine r_callV (Y := M_X8_isLeft) (v := some (.int q8.1)) X I w_2055 my_X8_isLeft (by omega) (t_X8_isLeft (G := G) (d := d + 1) h23) (b_X8_isLeft h23) rfl rfl hl.1 rfl (Nat.le_of_ble_eq_true rfl) hn le24 dX8_isHonest_270 (fun H locs cells slots I hn1 hn2 => ?_)
    have I : s_I G q8.2 s H locs := I
    have hn : cells + σ0.2.1 ≤ q8.2.2.1 ∧ slots + σ0.2.2.1 ≤ q8.2.2.2.1 := ⟨hn1, hn2⟩
    rcases s_ite hf with ⟨hchk, hf⟩ | ⟨-, hf⟩
    · cases hf
      have k : _ = r := k
      subst k
      exact r_iret X I rfl (s_nb hchk) rfl hn dX8_isHonest_273
    · cases hf
  rcases s_ite hf with ⟨c25, hf⟩ | ⟨c25, hf⟩
  · refine lv_tableIn (tgt := 274) (off := 152) hx hb dX8_isHonest_122 (by rw [c25]; decide) (by rw [c25]; decide) (by rw [c25]; rfl) (by decide) ?_
    obtain ⟨q9, h26, hf⟩ := s_bind hf
    have le27 : s_le q9.2 (e_I r).2 := by
      refine s_lek hem_I ?_ k
      rcases s_ite hf with ⟨-, hf⟩ | ⟨-, hf⟩
      · cases hf
        exact s_le.rf
      · cases hf
    refine lv_aload_n hx hb dX8_isHonest_274 rfl (lv_at hl 1 rfl) ?_
    refine lv_iload_n hx hb dX8_isHonest_275 rfl (lv_at hl 4 rfl) ?_
    refine lv_bipush (v := 14) hx hb dX8_isHonest_276 (by decide) ?_
    refine lv_iload hx hb dX8_isHonest_278 (lv_at hl 5 rfl) ?_
    refine r_callV (Y := M_X8_isRight) (v := some (.int q9.1)) X I w_2067 my_X8_isRight (by omega) (t_X8_isRight (G := G) (d := d + 1) h26) (b_X8_isRight h26) rfl rfl hl.1 rfl (Nat.le_of_ble_eq_true rfl) hn le27 dX8_isHonest_280 (fun H locs cells slots I hn1 hn2 => ?_)
    have I : s_I G q9.2 s H locs := I
    have hn : cells + σ0.2.1 ≤ q9.2.2.1 ∧ slots + σ0.2.2.1 ≤ q9.2.2.2.1 := ⟨hn1, hn2⟩
    rcases s_ite hf with ⟨hchk, hf⟩ | ⟨-, hf⟩
    · cases hf
      have k : _ = r := k
      subst k
      exact r_iret X I rfl (s_nb hchk) rfl hn dX8_isHonest_283
    · cases hf
  rcases s_ite hf with ⟨c28, hf⟩ | ⟨c28, hf⟩
  · refine lv_tableIn (tgt := 284) (off := 162) hx hb dX8_isHonest_122 (by rw [c28]; decide) (by rw [c28]; decide) (by rw [c28]; rfl) (by decide) ?_
    obtain ⟨q10, h29, hf⟩ := s_bind hf
    have le30 : s_le q10.2 (e_I r).2 := by
      refine s_lek hem_I ?_ k
      rcases s_ite hf with ⟨-, hf⟩ | ⟨-, hf⟩
      · cases hf
        exact s_le.rf
      · obtain ⟨q11, hh, hf⟩ := s_bind hf
        refine s_lz.tr (l_X8_isRight hh) ?_
        rcases s_ite hf with ⟨-, hf⟩ | ⟨-, hf⟩
        · cases hf
          exact s_le.rf
        · cases hf
          exact s_le.rf
    refine lv_aload_n hx hb dX8_isHonest_284 rfl (lv_at hl 1 rfl) ?_
    refine lv_iload hx hb dX8_isHonest_285 (lv_at hl 6 rfl) ?_
    refine lv_bipush (v := 15) hx hb dX8_isHonest_287 (by decide) ?_
    refine lv_iload hx hb dX8_isHonest_289 (lv_at hl 5 rfl) ?_
    refine r_callV (Y := M_X8_isLeft) (v := some (.int q10.1)) X I w_2055 my_X8_isLeft (by omega) (t_X8_isLeft (G := G) (d := d + 1) h29) (b_X8_isLeft h29) rfl rfl hl.1 rfl (Nat.le_of_ble_eq_true rfl) hn le30 dX8_isHonest_291 (fun H locs cells slots I hn1 hn2 => ?_)
    have I : s_I G q10.2 s H locs := I
    have hn : cells + σ0.2.1 ≤ q10.2.2.1 ∧ slots + σ0.2.2.1 ≤ q10.2.2.2.1 := ⟨hn1, hn2⟩
    rcases s_ite hf with ⟨c31, hf⟩ | ⟨c31, hf⟩
    · refine lv_if_eq (tgt := 313) hx hb dX8_isHonest_294 (by decide) (fun _ => ?_) (fun n => absurd c31 n)
      cases hf
      have k : _ = r := k
      subst k
      refine lv_iconst (v := 0) hx hb dX8_isHonest_313 (by decide) ?_
      exact r_iret X I rfl rfl rfl hn dX8_isHonest_314
    · refine lv_if_eq (tgt := 313) hx hb dX8_isHonest_294 (by decide) (fun n => absurd n c31) (fun _ => ?_)
      obtain ⟨q11, h32, hf⟩ := s_bind hf
      have le33 : s_le q11.2 (e_I r).2 := by
        refine s_lek hem_I ?_ k
        rcases s_ite hf with ⟨-, hf⟩ | ⟨-, hf⟩
        · cases hf
          exact s_le.rf
        · cases hf
          exact s_le.rf
      refine lv_aload_n hx hb dX8_isHonest_297 rfl (lv_at hl 1 rfl) ?_
      refine lv_iload hx hb dX8_isHonest_298 (lv_at hl 6 rfl) ?_
      refine lv_bipush (v := 15) hx hb dX8_isHonest_300 (by decide) ?_
      refine lv_iload_n hx hb dX8_isHonest_302 rfl (lv_at hl 4 rfl) ?_
      refine r_callV (Y := M_X8_isRight) (v := some (.int q11.1)) X I w_2067 my_X8_isRight (by omega) (t_X8_isRight (G := G) (d := d + 1) h32) (b_X8_isRight h32) rfl rfl hl.1 rfl (Nat.le_of_ble_eq_true rfl) hn le33 dX8_isHonest_303 (fun H locs cells slots I hn1 hn2 => ?_)
      have I : s_I G q11.2 s H locs := I
      have hn : cells + σ0.2.1 ≤ q11.2.2.1 ∧ slots + σ0.2.2.1 ≤ q11.2.2.2.1 := ⟨hn1, hn2⟩
      rcases s_ite hf with ⟨c34, hf⟩ | ⟨c34, hf⟩
      · refine lv_if_eq (tgt := 313) hx hb dX8_isHonest_306 (by decide) (fun _ => ?_) (fun n => absurd c34 n)
        cases hf
        have k : _ = r := k
        subst k
        refine lv_iconst (v := 0) hx hb dX8_isHonest_313 (by decide) ?_
        exact r_iret X I rfl rfl rfl hn dX8_isHonest_314
      · refine lv_if_eq (tgt := 313) hx hb dX8_isHonest_306 (by decide) (fun n => absurd n c34) (fun _ => ?_)
        cases hf
        have k : _ = r := k
        subst k
        refine lv_iconst (v := 1) hx hb dX8_isHonest_309 (by decide) ?_
        refine lv_goto (tgt := 314) hx hb dX8_isHonest_310 (by decide) ?_
        exact r_iret X I rfl rfl rfl hn dX8_isHonest_314
  rcases s_ite hf with ⟨c35, hf⟩ | ⟨c35, hf⟩
  · refine lv_tableIn (tgt := 315) (off := 193) hx hb dX8_isHonest_122 (by rw [c35]; decide) (by rw [c35]; decide) (by rw [c35]; rfl) (by decide) ?_
    obtain ⟨q12, h36, hf⟩ := s_bind hf
    have le37 : s_le q12.2 (e_I r).2 := by
      refine s_lek hem_I ?_ k
      rcases s_ite hf with ⟨-, hf⟩ | ⟨-, hf⟩
      · cases hf
        exact s_le.rf
      · cases hf
    refine lv_aload_n hx hb dX8_isHonest_315 rfl (lv_at hl 1 rfl) ?_
    refine lv_iload hx hb dX8_isHonest_316 (lv_at hl 5 rfl) ?_
    refine lv_iload_n hx hb dX8_isHonest_318 rfl (lv_at hl 4 rfl) ?_
    refine r_callV (Y := M_X8_isTwice) (v := some (.int q12.1)) X I w_2071 my_X8_isTwice (by omega) (t_X8_isTwice (G := G) (d := d + 2) h36) (b_X8_isTwice h36) rfl rfl hl.1 rfl (Nat.le_of_ble_eq_true rfl) hn le37 dX8_isHonest_319 (fun H locs cells slots I hn1 hn2 => ?_)
    have I : s_I G q12.2 s H locs := I
    have hn : cells + σ0.2.1 ≤ q12.2.2.1 ∧ slots + σ0.2.2.1 ≤ q12.2.2.2.1 := ⟨hn1, hn2⟩
    rcases s_ite hf with ⟨hchk, hf⟩ | ⟨-, hf⟩
    · cases hf
      have k : _ = r := k
      subst k
      exact r_iret X I rfl (s_nb hchk) rfl hn dX8_isHonest_322
    · cases hf
  rcases s_ite hf with ⟨c38, hf⟩ | ⟨c38, hf⟩
  · refine lv_tableIn (tgt := 323) (off := 201) hx hb dX8_isHonest_122 (by rw [c38]; decide) (by rw [c38]; decide) (by rw [c38]; rfl) (by decide) ?_
    obtain ⟨q13, h39, hf⟩ := s_bind hf
    have le40 : s_le q13.2 (e_I r).2 := by
      refine s_lek hem_I ?_ k
      rcases s_ite hf with ⟨-, hf⟩ | ⟨-, hf⟩
      · cases hf
        exact s_le.rf
      · cases hf
    refine lv_aload_n hx hb dX8_isHonest_323 rfl (lv_at hl 1 rfl) ?_
    refine lv_iload hx hb dX8_isHonest_324 (lv_at hl 5 rfl) ?_
    refine lv_iload hx hb dX8_isHonest_326 (lv_at hl 6 rfl) ?_
    refine lv_iload hx hb dX8_isHonest_328 (lv_at hl 0 rfl) ?_
    refine lv_iload_n hx hb dX8_isHonest_330 rfl (lv_at hl 4 rfl) ?_
    refine r_callV (Y := M_X8_isCases) (v := some (.int q13.1)) X I w_2075 my_X8_isCases (by omega) (t_X8_isCases (G := G) (d := d + 0) h39) (b_X8_isCases h39) rfl rfl hl.1 rfl (Nat.le_of_ble_eq_true rfl) hn le40 dX8_isHonest_331 (fun H locs cells slots I hn1 hn2 => ?_)
    have I : s_I G q13.2 s H locs := I
    have hn : cells + σ0.2.1 ≤ q13.2.2.1 ∧ slots + σ0.2.2.1 ≤ q13.2.2.2.1 := ⟨hn1, hn2⟩
    rcases s_ite hf with ⟨hchk, hf⟩ | ⟨-, hf⟩
    · cases hf
      have k : _ = r := k
      subst k
      exact r_iret X I rfl (s_nb hchk) rfl hn dX8_isHonest_334
    · cases hf
  rcases s_ite hf with ⟨c41, hf⟩ | ⟨c41, hf⟩
  · refine lv_tableIn (tgt := 335) (off := 213) hx hb dX8_isHonest_122 (by rw [c41]; decide) (by rw [c41]; decide) (by rw [c41]; rfl) (by decide) ?_
    obtain ⟨q14, h42, hf⟩ := s_bind hf
    obtain ⟨q15, h43, hf⟩ := s_bind hf
    have le44 : s_le q15.2 (e_I r).2 := by
      refine s_lek hem_I ?_ k
      rcases s_ite hf with ⟨-, hf⟩ | ⟨-, hf⟩
      · obtain ⟨q16, hh, hf⟩ := s_bind hf
        refine s_lz.tr (l_X8_isLeft hh) ?_
        rcases s_ite hf with ⟨-, hf⟩ | ⟨-, hf⟩
        · cases hf
          exact s_le.rf
        · obtain ⟨q17, hh, hf⟩ := s_bind hf
          refine s_lz.tr (l_X8_isRight hh) ?_
          rcases s_ite hf with ⟨-, hf⟩ | ⟨-, hf⟩
          · cases hf
            exact s_le.rf
          · cases hf
            exact s_le.rf
      · cases hf
        exact s_le.rf
    have le45 := s_le.tr (l_X8_ofLine h43) le44
    refine lv_aload_n hx hb dX8_isHonest_335 rfl (lv_at hl 1 rfl) ?_
    refine lv_aload_n hx hb dX8_isHonest_336 rfl (lv_at hl 1 rfl) ?_
    refine lv_iload_n hx hb dX8_isHonest_337 rfl (lv_at hl 2 rfl) ?_
    refine lv_iconst (v := 0) hx hb dX8_isHonest_338 (by decide) ?_
    refine r_callV (Y := M_X8_premise) (v := some (.int q14.1)) X I w_2043 my_X8_premise (by omega) (t_X8_premise (G := G) (d := d + 3) h42) (b_X8_premise h42) rfl rfl hl.1 rfl (Nat.le_of_ble_eq_true rfl) hn le45 dX8_isHonest_339 (fun H locs cells slots I hn1 hn2 => ?_)
    have I : s_I G q14.2 s H locs := I
    have hn : cells + σ0.2.1 ≤ q14.2.2.1 ∧ slots + σ0.2.2.1 ≤ q14.2.2.2.1 := ⟨hn1, hn2⟩
    refine lv_iconst (v := 2) hx hb dX8_isHonest_342 (by decide) ?_
    refine r_callV (Y := M_X8_ofLine) (v := some (.int q15.1)) X I w_2015 my_X8_ofLine (by omega) (t_X8_ofLine (G := G) (d := d + 4) h43) (b_X8_ofLine h43) rfl rfl hl.1 rfl (Nat.le_of_ble_eq_true rfl) hn le44 dX8_isHonest_343 (fun H locs cells slots I hn1 hn2 => ?_)
    have I : s_I G q15.2 s H locs := I
    have hn : cells + σ0.2.1 ≤ q15.2.2.1 ∧ slots + σ0.2.2.1 ≤ q15.2.2.2.1 := ⟨hn1, hn2⟩
    refine lv_iconst (v := 1) hx hb dX8_isHonest_346 (by decide) ?_
    rcases s_ite hf with ⟨c46, hf⟩ | ⟨c46, hf⟩
    · refine lv_icmp_ne (tgt := 378) hx hb dX8_isHonest_347 (by decide) (fun n => absurd c46 n) (fun _ => ?_)
      obtain ⟨q16, h47, hf⟩ := s_bind hf
      have le48 : s_le q16.2 (e_I r).2 := by
        refine s_lek hem_I ?_ k
        rcases s_ite hf with ⟨-, hf⟩ | ⟨-, hf⟩
        · cases hf
          exact s_le.rf
        · obtain ⟨q17, hh, hf⟩ := s_bind hf
          refine s_lz.tr (l_X8_isRight hh) ?_
          rcases s_ite hf with ⟨-, hf⟩ | ⟨-, hf⟩
          · cases hf
            exact s_le.rf
          · cases hf
            exact s_le.rf
      refine lv_aload_n hx hb dX8_isHonest_350 rfl (lv_at hl 1 rfl) ?_
      refine lv_iload_n hx hb dX8_isHonest_351 rfl (lv_at hl 4 rfl) ?_
      refine lv_bipush (v := 15) hx hb dX8_isHonest_352 (by decide) ?_
      refine lv_iload hx hb dX8_isHonest_354 (lv_at hl 5 rfl) ?_
      refine r_callV (Y := M_X8_isLeft) (v := some (.int q16.1)) X I w_2055 my_X8_isLeft (by omega) (t_X8_isLeft (G := G) (d := d + 1) h47) (b_X8_isLeft h47) rfl rfl hl.1 rfl (Nat.le_of_ble_eq_true rfl) hn le48 dX8_isHonest_356 (fun H locs cells slots I hn1 hn2 => ?_)
      have I : s_I G q16.2 s H locs := I
      have hn : cells + σ0.2.1 ≤ q16.2.2.1 ∧ slots + σ0.2.2.1 ≤ q16.2.2.2.1 := ⟨hn1, hn2⟩
      rcases s_ite hf with ⟨c49, hf⟩ | ⟨c49, hf⟩
      · refine lv_if_eq (tgt := 378) hx hb dX8_isHonest_359 (by decide) (fun _ => ?_) (fun n => absurd c49 n)
        cases hf
        have k : _ = r := k
        subst k
        refine lv_iconst (v := 0) hx hb dX8_isHonest_378 (by decide) ?_
        exact r_iret X I rfl rfl rfl hn dX8_isHonest_379
      · refine lv_if_eq (tgt := 378) hx hb dX8_isHonest_359 (by decide) (fun n => absurd n c49) (fun _ => ?_)
        obtain ⟨q17, h50, hf⟩ := s_bind hf
        have le51 : s_le q17.2 (e_I r).2 := by
          refine s_lek hem_I ?_ k
          rcases s_ite hf with ⟨-, hf⟩ | ⟨-, hf⟩
          · cases hf
            exact s_le.rf
          · cases hf
            exact s_le.rf
        refine lv_aload_n hx hb dX8_isHonest_362 rfl (lv_at hl 1 rfl) ?_
        refine lv_iload_n hx hb dX8_isHonest_363 rfl (lv_at hl 4 rfl) ?_
        refine lv_bipush (v := 15) hx hb dX8_isHonest_364 (by decide) ?_
        refine lv_iload hx hb dX8_isHonest_366 (lv_at hl 6 rfl) ?_
        refine r_callV (Y := M_X8_isRight) (v := some (.int q17.1)) X I w_2067 my_X8_isRight (by omega) (t_X8_isRight (G := G) (d := d + 1) h50) (b_X8_isRight h50) rfl rfl hl.1 rfl (Nat.le_of_ble_eq_true rfl) hn le51 dX8_isHonest_368 (fun H locs cells slots I hn1 hn2 => ?_)
        have I : s_I G q17.2 s H locs := I
        have hn : cells + σ0.2.1 ≤ q17.2.2.1 ∧ slots + σ0.2.2.1 ≤ q17.2.2.2.1 := ⟨hn1, hn2⟩
        rcases s_ite hf with ⟨c52, hf⟩ | ⟨c52, hf⟩
        · refine lv_if_eq (tgt := 378) hx hb dX8_isHonest_371 (by decide) (fun _ => ?_) (fun n => absurd c52 n)
          cases hf
          have k : _ = r := k
          subst k
          refine lv_iconst (v := 0) hx hb dX8_isHonest_378 (by decide) ?_
          exact r_iret X I rfl rfl rfl hn dX8_isHonest_379
        · refine lv_if_eq (tgt := 378) hx hb dX8_isHonest_371 (by decide) (fun n => absurd n c52) (fun _ => ?_)
          cases hf
          have k : _ = r := k
          subst k
          refine lv_iconst (v := 1) hx hb dX8_isHonest_374 (by decide) ?_
          refine lv_goto (tgt := 379) hx hb dX8_isHonest_375 (by decide) ?_
          exact r_iret X I rfl rfl rfl hn dX8_isHonest_379
    · refine lv_icmp_ne (tgt := 378) hx hb dX8_isHonest_347 (by decide) (fun _ => ?_) (fun n => absurd n c46)
      cases hf
      have k : _ = r := k
      subst k
      refine lv_iconst (v := 0) hx hb dX8_isHonest_378 (by decide) ?_
      exact r_iret X I rfl rfl rfl hn dX8_isHonest_379
  rcases s_ite hf with ⟨c53, hf⟩ | ⟨c53, hf⟩
  · refine lv_tableIn (tgt := 380) (off := 258) hx hb dX8_isHonest_122 (by rw [c53]; decide) (by rw [c53]; decide) (by rw [c53]; rfl) (by decide) ?_
    obtain ⟨q18, h54, hf⟩ := s_bind hf
    have le55 : s_le q18.2 (e_I r).2 := by
      refine s_lek hem_I ?_ k
      rcases s_ite hf with ⟨-, hf⟩ | ⟨-, hf⟩
      · cases hf
        exact s_le.rf
      · cases hf
    refine lv_aload_n hx hb dX8_isHonest_380 rfl (lv_at hl 1 rfl) ?_
    refine lv_iload hx hb dX8_isHonest_381 (lv_at hl 5 rfl) ?_
    refine lv_bipush (v := 16) hx hb dX8_isHonest_383 (by decide) ?_
    refine lv_iload_n hx hb dX8_isHonest_385 rfl (lv_at hl 4 rfl) ?_
    refine r_callV (Y := M_X8_isOfSome) (v := some (.int q18.1)) X I w_2079 my_X8_isOfSome (by omega) (t_X8_isOfSome (G := G) (d := d + 1) h54) (b_X8_isOfSome h54) rfl rfl hl.1 rfl (Nat.le_of_ble_eq_true rfl) hn le55 dX8_isHonest_386 (fun H locs cells slots I hn1 hn2 => ?_)
    have I : s_I G q18.2 s H locs := I
    have hn : cells + σ0.2.1 ≤ q18.2.2.1 ∧ slots + σ0.2.2.1 ≤ q18.2.2.2.1 := ⟨hn1, hn2⟩
    rcases s_ite hf with ⟨hchk, hf⟩ | ⟨-, hf⟩
    · cases hf
      have k : _ = r := k
      subst k
      exact r_iret X I rfl (s_nb hchk) rfl hn dX8_isHonest_389
    · cases hf
  rcases s_ite hf with ⟨c56, hf⟩ | ⟨c56, hf⟩
  · refine lv_tableIn (tgt := 390) (off := 268) hx hb dX8_isHonest_122 (by rw [c56]; decide) (by rw [c56]; decide) (by rw [c56]; rfl) (by decide) ?_
    obtain ⟨q19, h57, hf⟩ := s_bind hf
    have le58 : s_le q19.2 (e_I r).2 := by
      refine s_lek hem_I ?_ k
      rcases s_ite hf with ⟨-, hf⟩ | ⟨-, hf⟩
      · cases hf
        exact s_le.rf
      · obtain ⟨q20, hh, hf⟩ := s_bind hf
        refine s_lz.tr (l_X8_d hh) ?_
        rcases s_ite hf with ⟨-, hf⟩ | ⟨-, hf⟩
        · cases hf
          exact s_le.rf
        · obtain ⟨q21, hh, hf⟩ := s_bind hf
          refine s_lz.tr (l_X8_isOf hh) ?_
          rcases s_ite hf with ⟨-, hf⟩ | ⟨-, hf⟩
          · cases hf
            exact s_le.rf
          · cases hf
            exact s_le.rf
    refine lv_aload_n hx hb dX8_isHonest_390 rfl (lv_at hl 1 rfl) ?_
    refine lv_iload_n hx hb dX8_isHonest_391 rfl (lv_at hl 4 rfl) ?_
    refine lv_bipush (v := 16) hx hb dX8_isHonest_392 (by decide) ?_
    refine lv_iload hx hb dX8_isHonest_394 (lv_at hl 5 rfl) ?_
    refine lv_iconst (v := 0) hx hb dX8_isHonest_396 (by decide) ?_
    refine r_callV (Y := M_X8_isOf) (v := some (.int q19.1)) X I w_2083 my_X8_isOf (by omega) (t_X8_isOf (G := G) (d := d + 2) h57) (b_X8_isOf h57) rfl rfl hl.1 rfl (Nat.le_of_ble_eq_true rfl) hn le58 dX8_isHonest_397 (fun H locs cells slots I hn1 hn2 => ?_)
    have I : s_I G q19.2 s H locs := I
    have hn : cells + σ0.2.1 ≤ q19.2.2.1 ∧ slots + σ0.2.2.1 ≤ q19.2.2.2.1 := ⟨hn1, hn2⟩
    rcases s_ite hf with ⟨c59, hf⟩ | ⟨c59, hf⟩
    · refine lv_if_eq (tgt := 449) hx hb dX8_isHonest_400 (by decide) (fun _ => ?_) (fun n => absurd c59 n)
      cases hf
      have k : _ = r := k
      subst k
      refine lv_iconst (v := 0) hx hb dX8_isHonest_449 (by decide) ?_
      exact r_iret X I rfl rfl rfl hn dX8_isHonest_450
    · refine lv_if_eq (tgt := 449) hx hb dX8_isHonest_400 (by decide) (fun n => absurd n c59) (fun _ => ?_)
      obtain ⟨q20, h60, hf⟩ := s_bind hf
      have le61 : s_le q20.2 (e_I r).2 := by
        refine s_lek hem_I ?_ k
        rcases s_ite hf with ⟨-, hf⟩ | ⟨-, hf⟩
        · cases hf
          exact s_le.rf
        · obtain ⟨q21, hh, hf⟩ := s_bind hf
          refine s_lz.tr (l_X8_isOf hh) ?_
          rcases s_ite hf with ⟨-, hf⟩ | ⟨-, hf⟩
          · cases hf
            exact s_le.rf
          · cases hf
            exact s_le.rf
      refine lv_aload_n hx hb dX8_isHonest_403 rfl (lv_at hl 1 rfl) ?_
      refine r_callV (Y := M_X8_d) (v := some (.int q20.1)) X I w_1889 my_X8_d (by omega) (t_X8_d (G := G) (d := d + 4) h60) (b_X8_d h60) rfl rfl hl.1 rfl (Nat.le_of_ble_eq_true rfl) hn le61 dX8_isHonest_404 (fun H locs cells slots I hn1 hn2 => ?_)
      have I : s_I G q20.2 s H locs := I
      have hn : cells + σ0.2.1 ≤ q20.2.2.1 ∧ slots + σ0.2.2.1 ≤ q20.2.2.2.1 := ⟨hn1, hn2⟩
      refine lv_iconst (v := 2) hx hb dX8_isHonest_407 (by decide) ?_
      rcases s_ite hf with ⟨c62, hf⟩ | ⟨c62, hf⟩
      · refine lv_icmp_lt (tgt := 424) hx hb dX8_isHonest_408 (by decide) (fun _ => ?_) (fun n => absurd c62 n)
        cases hf
        have k : s_V G (d + 6) M_X8_isHonest vs0 σ0 Y_X8_isHonest (424, [.ref v0, .int v3, .int w0], q20.2) (e_I r) := k
        exact k.2 p e s m below meth c _ _ _ _ _ X I hn.1 hn.2 (lv_sub hl [1, 4, 0] rfl)
      · refine lv_icmp_lt (tgt := 424) hx hb dX8_isHonest_408 (by decide) (fun n => absurd n c62) (fun _ => ?_)
        obtain ⟨q21, h63, hf⟩ := s_bind hf
        have le64 : s_le q21.2 (e_I r).2 := by
          refine s_lek hem_I ?_ k
          rcases s_ite hf with ⟨-, hf⟩ | ⟨-, hf⟩
          · cases hf
            exact s_le.rf
          · cases hf
            exact s_le.rf
        refine lv_aload_n hx hb dX8_isHonest_411 rfl (lv_at hl 1 rfl) ?_
        refine lv_iload_n hx hb dX8_isHonest_412 rfl (lv_at hl 4 rfl) ?_
        refine lv_bipush (v := 16) hx hb dX8_isHonest_413 (by decide) ?_
        refine lv_iload hx hb dX8_isHonest_415 (lv_at hl 6 rfl) ?_
        refine lv_iconst (v := 1) hx hb dX8_isHonest_417 (by decide) ?_
        refine r_callV (Y := M_X8_isOf) (v := some (.int q21.1)) X I w_2083 my_X8_isOf (by omega) (t_X8_isOf (G := G) (d := d + 2) h63) (b_X8_isOf h63) rfl rfl hl.1 rfl (Nat.le_of_ble_eq_true rfl) hn le64 dX8_isHonest_418 (fun H locs cells slots I hn1 hn2 => ?_)
        have I : s_I G q21.2 s H locs := I
        have hn : cells + σ0.2.1 ≤ q21.2.2.1 ∧ slots + σ0.2.2.1 ≤ q21.2.2.2.1 := ⟨hn1, hn2⟩
        rcases s_ite hf with ⟨c65, hf⟩ | ⟨c65, hf⟩
        · refine lv_if_eq (tgt := 449) hx hb dX8_isHonest_421 (by decide) (fun _ => ?_) (fun n => absurd c65 n)
          cases hf
          have k : _ = r := k
          subst k
          refine lv_iconst (v := 0) hx hb dX8_isHonest_449 (by decide) ?_
          exact r_iret X I rfl rfl rfl hn dX8_isHonest_450
        · refine lv_if_eq (tgt := 449) hx hb dX8_isHonest_421 (by decide) (fun n => absurd n c65) (fun _ => ?_)
          cases hf
          have k : s_V G (d + 6) M_X8_isHonest vs0 σ0 Y_X8_isHonest (424, [.ref v0, .int v3, .int w0], q21.2) (e_I r) := k
          exact k.2 p e s m below meth c _ _ _ _ _ X I hn.1 hn.2 (lv_sub hl [1, 4, 0] rfl)
  rcases s_ite hf with ⟨c66, hf⟩ | ⟨c66, hf⟩
  · refine lv_tableIn (tgt := 451) (off := 329) hx hb dX8_isHonest_122 (by rw [c66]; decide) (by rw [c66]; decide) (by rw [c66]; rfl) (by decide) ?_
    obtain ⟨q22, h67, hf⟩ := s_bind hf
    have le68 : s_le q22.2 (e_I r).2 := by
      refine s_lek hem_I ?_ k
      rcases s_ite hf with ⟨-, hf⟩ | ⟨-, hf⟩
      · cases hf
        exact s_le.rf
      · cases hf
    refine lv_aload_n hx hb dX8_isHonest_451 rfl (lv_at hl 1 rfl) ?_
    refine lv_iload_n hx hb dX8_isHonest_452 rfl (lv_at hl 4 rfl) ?_
    refine lv_bipush (v := 17) hx hb dX8_isHonest_453 (by decide) ?_
    refine lv_iload hx hb dX8_isHonest_455 (lv_at hl 5 rfl) ?_
    refine r_callV (Y := M_X8_isOfSome) (v := some (.int q22.1)) X I w_2079 my_X8_isOfSome (by omega) (t_X8_isOfSome (G := G) (d := d + 1) h67) (b_X8_isOfSome h67) rfl rfl hl.1 rfl (Nat.le_of_ble_eq_true rfl) hn le68 dX8_isHonest_457 (fun H locs cells slots I hn1 hn2 => ?_)
    have I : s_I G q22.2 s H locs := I
    have hn : cells + σ0.2.1 ≤ q22.2.2.1 ∧ slots + σ0.2.2.1 ≤ q22.2.2.2.1 := ⟨hn1, hn2⟩
    rcases s_ite hf with ⟨hchk, hf⟩ | ⟨-, hf⟩
    · cases hf
      have k : _ = r := k
      subst k
      exact r_iret X I rfl (s_nb hchk) rfl hn dX8_isHonest_460
    · cases hf
  rcases s_ite hf with ⟨c69, hf⟩ | ⟨c69, hf⟩
  · refine lv_tableIn (tgt := 461) (off := 339) hx hb dX8_isHonest_122 (by rw [c69]; decide) (by rw [c69]; decide) (by rw [c69]; rfl) (by decide) ?_
    obtain ⟨q23, h70, hf⟩ := s_bind hf
    have le71 : s_le q23.2 (e_I r).2 := by
      refine s_lek hem_I ?_ k
      rcases s_ite hf with ⟨-, hf⟩ | ⟨-, hf⟩
      · cases hf
        exact s_le.rf
      · cases hf
    refine lv_aload_n hx hb dX8_isHonest_461 rfl (lv_at hl 1 rfl) ?_
    refine lv_iload hx hb dX8_isHonest_462 (lv_at hl 6 rfl) ?_
    refine lv_iload hx hb dX8_isHonest_464 (lv_at hl 5 rfl) ?_
    refine r_callV (Y := M_X8_isMinus) (v := some (.int q23.1)) X I w_2087 my_X8_isMinus (by omega) (t_X8_isMinus (G := G) (d := d + 2) h70) (b_X8_isMinus h70) rfl rfl hl.1 rfl (Nat.le_of_ble_eq_true rfl) hn le71 dX8_isHonest_466 (fun H locs cells slots I hn1 hn2 => ?_)
    have I : s_I G q23.2 s H locs := I
    have hn : cells + σ0.2.1 ≤ q23.2.2.1 ∧ slots + σ0.2.2.1 ≤ q23.2.2.2.1 := ⟨hn1, hn2⟩
    rcases s_ite hf with ⟨hchk, hf⟩ | ⟨-, hf⟩
    · cases hf
      have k : _ = r := k
      subst k
      exact r_iret X I rfl (s_nb hchk) rfl hn dX8_isHonest_469
    · cases hf
  refine lv_tableOut (tgt := 470) hx hb dX8_isHonest_122 (by
      have tc1 := lv_neT (a := 0) c1 (by decide)
      have tc8 := lv_neT (a := 1) c8 (by decide)
      have tc9 := lv_neT (a := 2) c9 (by decide)
      have tc16 := lv_neT (a := 3) c16 (by decide)
      have tc19 := lv_neT (a := 4) c19 (by decide)
      have tc22 := lv_neT (a := 5) c22 (by decide)
      have tc25 := lv_neT (a := 6) c25 (by decide)
      have tc28 := lv_neT (a := 7) c28 (by decide)
      have tc35 := lv_neT (a := 8) c35 (by decide)
      have tc38 := lv_neT (a := 9) c38 (by decide)
      have tc41 := lv_neT (a := 10) c41 (by decide)
      have tc53 := lv_neT (a := 11) c53 (by decide)
      have tc56 := lv_neT (a := 12) c56 (by decide)
      have tc66 := lv_neT (a := 13) c66 (by decide)
      have tc69 := lv_neT (a := 14) c69 (by decide)
      omega) (by decide) ?_
  obtain ⟨q24, h72, hf⟩ := s_bind hf
  obtain ⟨q25, h73, hf⟩ := s_bind hf
  obtain ⟨q26, h74, hf⟩ := s_bind hf
  have le75 : s_le q26.2 (e_I r).2 := by
    refine s_lek hem_I ?_ k
    rcases s_ite hf with ⟨-, hf⟩ | ⟨-, hf⟩
    · cases hf
      exact s_le.rf
    · obtain ⟨q27, hh, hf⟩ := s_bind hf
      refine s_lz.tr (l_X8_isSame hh) ?_
      rcases s_ite hf with ⟨-, hf⟩ | ⟨-, hf⟩
      · cases hf
        exact s_le.rf
      · cases hf
        exact s_le.rf
  have le76 := s_le.tr (l_X8_ofLine h74) le75
  have le77 := s_le.tr (l_X8_ofLine h73) le76
  refine lv_aload_n hx hb dX8_isHonest_470 rfl (lv_at hl 1 rfl) ?_
  refine lv_aload_n hx hb dX8_isHonest_471 rfl (lv_at hl 1 rfl) ?_
  refine lv_iload_n hx hb dX8_isHonest_472 rfl (lv_at hl 2 rfl) ?_
  refine lv_iconst (v := 0) hx hb dX8_isHonest_473 (by decide) ?_
  refine r_callV (Y := M_X8_premise) (v := some (.int q24.1)) X I w_2043 my_X8_premise (by omega) (t_X8_premise (G := G) (d := d + 3) h72) (b_X8_premise h72) rfl rfl hl.1 rfl (Nat.le_of_ble_eq_true rfl) hn le77 dX8_isHonest_474 (fun H locs cells slots I hn1 hn2 => ?_)
  have I : s_I G q24.2 s H locs := I
  have hn : cells + σ0.2.1 ≤ q24.2.2.1 ∧ slots + σ0.2.2.1 ≤ q24.2.2.2.1 := ⟨hn1, hn2⟩
  refine lv_iconst (v := 0) hx hb dX8_isHonest_477 (by decide) ?_
  refine r_callV (Y := M_X8_ofLine) (v := some (.int q25.1)) X I w_2015 my_X8_ofLine (by omega) (t_X8_ofLine (G := G) (d := d + 4) h73) (b_X8_ofLine h73) rfl rfl hl.1 rfl (Nat.le_of_ble_eq_true rfl) hn le76 dX8_isHonest_478 (fun H locs cells slots I hn1 hn2 => ?_)
  have I : s_I G q25.2 s H locs := I
  have hn : cells + σ0.2.1 ≤ q25.2.2.1 ∧ slots + σ0.2.2.1 ≤ q25.2.2.2.1 := ⟨hn1, hn2⟩
  refine lv_aload_n hx hb dX8_isHonest_481 rfl (lv_at hl 1 rfl) ?_
  refine lv_iload_n hx hb dX8_isHonest_482 rfl (lv_at hl 2 rfl) ?_
  refine lv_iconst (v := 0) hx hb dX8_isHonest_483 (by decide) ?_
  refine r_callV (Y := M_X8_ofLine) (v := some (.int q26.1)) X I w_2015 my_X8_ofLine (by omega) (t_X8_ofLine (G := G) (d := d + 4) h74) (b_X8_ofLine h74) rfl rfl hl.1 rfl (Nat.le_of_ble_eq_true rfl) hn le75 dX8_isHonest_484 (fun H locs cells slots I hn1 hn2 => ?_)
  have I : s_I G q26.2 s H locs := I
  have hn : cells + σ0.2.1 ≤ q26.2.2.1 ∧ slots + σ0.2.2.1 ≤ q26.2.2.2.1 := ⟨hn1, hn2⟩
  rcases s_ite hf with ⟨c78, hf⟩ | ⟨c78, hf⟩
  · refine lv_icmp_eq (tgt := 504) hx hb dX8_isHonest_487 (by decide) (fun _ => ?_) (fun n => absurd c78 n)
    cases hf
    have k : _ = r := k
    subst k
    refine lv_iconst (v := 0) hx hb dX8_isHonest_504 (by decide) ?_
    exact r_iret X I rfl rfl rfl hn dX8_isHonest_505
  · refine lv_icmp_eq (tgt := 504) hx hb dX8_isHonest_487 (by decide) (fun n => absurd n c78) (fun _ => ?_)
    obtain ⟨q27, h79, hf⟩ := s_bind hf
    have le80 : s_le q27.2 (e_I r).2 := by
      refine s_lek hem_I ?_ k
      rcases s_ite hf with ⟨-, hf⟩ | ⟨-, hf⟩
      · cases hf
        exact s_le.rf
      · cases hf
        exact s_le.rf
    refine lv_aload_n hx hb dX8_isHonest_490 rfl (lv_at hl 1 rfl) ?_
    refine lv_iload hx hb dX8_isHonest_491 (lv_at hl 5 rfl) ?_
    refine lv_iload_n hx hb dX8_isHonest_493 rfl (lv_at hl 4 rfl) ?_
    refine r_callV (Y := M_X8_isSame) (v := some (.int q27.1)) X I w_1924 my_X8_isSame (by omega) (t_X8_isSame (G := G) (d := d + 2) h79) (b_X8_isSame h79) rfl rfl hl.1 rfl (Nat.le_of_ble_eq_true rfl) hn le80 dX8_isHonest_494 (fun H locs cells slots I hn1 hn2 => ?_)
    have I : s_I G q27.2 s H locs := I
    have hn : cells + σ0.2.1 ≤ q27.2.2.1 ∧ slots + σ0.2.2.1 ≤ q27.2.2.2.1 := ⟨hn1, hn2⟩
    rcases s_ite hf with ⟨c81, hf⟩ | ⟨c81, hf⟩
    · refine lv_if_eq (tgt := 504) hx hb dX8_isHonest_497 (by decide) (fun _ => ?_) (fun n => absurd c81 n)
      cases hf
      have k : _ = r := k
      subst k
      refine lv_iconst (v := 0) hx hb dX8_isHonest_504 (by decide) ?_
      exact r_iret X I rfl rfl rfl hn dX8_isHonest_505
    · refine lv_if_eq (tgt := 504) hx hb dX8_isHonest_497 (by decide) (fun n => absurd n c81) (fun _ => ?_)
      cases hf
      have k : _ = r := k
      subst k
      refine lv_iconst (v := 1) hx hb dX8_isHonest_500 (by decide) ?_
      refine lv_goto (tgt := 505) hx hb dX8_isHonest_501 (by decide) ?_
      exact r_iret X I rfl rfl rfl hn dX8_isHonest_505
set_option maxRecDepth 100000 in
set_option maxHeartbeats 4000000 in
theorem v_X8_isHonest_424 {G : sG} {d : Nat} {vs0 : List Value} {σ0 : sS} {v0 : Nat} {v3 : Int32} {v6 : Int32} {σ : sS} {z : sZ Int32} {r : Int32 × sS} (hf : T_X8_isHonest_424 v0 v3 v6 σ = some z) (k : s_K G (d + 6) M_X8_isHonest vs0 σ0 Y_X8_isHonest e_I z r) : s_V G (d + 6) M_X8_isHonest vs0 σ0 Y_X8_isHonest (424, [.ref v0, .int v3, .int v6], σ) (e_I r) := by
  have le0 : s_le σ (e_I r).2 := s_lek hem_I (l_X8_isHonest_424 hf) k
  refine ⟨le0, ?_⟩
  intro p e s m below meth c H locs cells slots ls X I hn1 hn2 hl
  have hn : cells + σ0.2.1 ≤ σ.2.1 ∧ slots + σ0.2.2.1 ≤ σ.2.2.1 := ⟨hn1, hn2⟩
  have hl : lv_has ls 7 [(0, .ref v0), (3, .int v3), (6, .int v6)] := hl
  have hx := X.1
  have hb : c.code = cX8_isHonest := X.2.1
  have hown : s.vm.findClass RX8 = some m.cls := X.2.2.2.2.2.1
  have hts := X.2.2.2.2.2.2.1
  refine W.eq (g2 := F0 m 424 ls []) rfl ?_
  unfold T_X8_isHonest_424 at hf
  obtain ⟨q1, h1, hf⟩ := s_bind hf
  have le2 : s_le q1.2 (e_I r).2 := by
    refine s_lek hem_I ?_ k
    rcases s_ite hf with ⟨-, hf⟩ | ⟨-, hf⟩
    · cases hf
      exact s_le.rf
    · obtain ⟨q2, hh, hf⟩ := s_bind hf
      refine s_lz.tr (l_X8_isOf hh) ?_
      rcases s_ite hf with ⟨-, hf⟩ | ⟨-, hf⟩
      · cases hf
        exact s_le.rf
      · cases hf
        exact s_le.rf
  refine lv_aload_n hx hb dX8_isHonest_424 rfl (lv_at hl 0 rfl) ?_
  refine r_callV (Y := M_X8_d) (v := some (.int q1.1)) X I w_1889 my_X8_d (by omega) (t_X8_d (G := G) (d := d + 4) h1) (b_X8_d h1) rfl rfl hl.1 rfl (Nat.le_of_ble_eq_true rfl) hn le2 dX8_isHonest_425 (fun H locs cells slots I hn1 hn2 => ?_)
  have I : s_I G q1.2 s H locs := I
  have hn : cells + σ0.2.1 ≤ q1.2.2.1 ∧ slots + σ0.2.2.1 ≤ q1.2.2.2.1 := ⟨hn1, hn2⟩
  refine lv_iconst (v := 3) hx hb dX8_isHonest_428 (by decide) ?_
  rcases s_ite hf with ⟨c3, hf⟩ | ⟨c3, hf⟩
  · refine lv_icmp_lt (tgt := 445) hx hb dX8_isHonest_429 (by decide) (fun _ => ?_) (fun n => absurd c3 n)
    cases hf
    have k : _ = r := k
    subst k
    refine lv_iconst (v := 1) hx hb dX8_isHonest_445 (by decide) ?_
    refine lv_goto (tgt := 450) hx hb dX8_isHonest_446 (by decide) ?_
    exact r_iret X I rfl rfl rfl hn dX8_isHonest_450
  · refine lv_icmp_lt (tgt := 445) hx hb dX8_isHonest_429 (by decide) (fun n => absurd n c3) (fun _ => ?_)
    obtain ⟨q2, h4, hf⟩ := s_bind hf
    have le5 : s_le q2.2 (e_I r).2 := by
      refine s_lek hem_I ?_ k
      rcases s_ite hf with ⟨-, hf⟩ | ⟨-, hf⟩
      · cases hf
        exact s_le.rf
      · cases hf
        exact s_le.rf
    refine lv_aload_n hx hb dX8_isHonest_432 rfl (lv_at hl 0 rfl) ?_
    refine lv_iload_n hx hb dX8_isHonest_433 rfl (lv_at hl 1 rfl) ?_
    refine lv_bipush (v := 16) hx hb dX8_isHonest_434 (by decide) ?_
    refine lv_iload hx hb dX8_isHonest_436 (lv_at hl 2 rfl) ?_
    refine lv_iconst (v := 2) hx hb dX8_isHonest_438 (by decide) ?_
    refine r_callV (Y := M_X8_isOf) (v := some (.int q2.1)) X I w_2083 my_X8_isOf (by omega) (t_X8_isOf (G := G) (d := d + 2) h4) (b_X8_isOf h4) rfl rfl hl.1 rfl (Nat.le_of_ble_eq_true rfl) hn le5 dX8_isHonest_439 (fun H locs cells slots I hn1 hn2 => ?_)
    have I : s_I G q2.2 s H locs := I
    have hn : cells + σ0.2.1 ≤ q2.2.2.1 ∧ slots + σ0.2.2.1 ≤ q2.2.2.2.1 := ⟨hn1, hn2⟩
    rcases s_ite hf with ⟨c6, hf⟩ | ⟨c6, hf⟩
    · refine lv_if_eq (tgt := 449) hx hb dX8_isHonest_442 (by decide) (fun _ => ?_) (fun n => absurd c6 n)
      cases hf
      have k : _ = r := k
      subst k
      refine lv_iconst (v := 0) hx hb dX8_isHonest_449 (by decide) ?_
      exact r_iret X I rfl rfl rfl hn dX8_isHonest_450
    · refine lv_if_eq (tgt := 449) hx hb dX8_isHonest_442 (by decide) (fun n => absurd n c6) (fun _ => ?_)
      cases hf
      have k : _ = r := k
      subst k
      refine lv_iconst (v := 1) hx hb dX8_isHonest_445 (by decide) ?_
      refine lv_goto (tgt := 450) hx hb dX8_isHonest_446 (by decide) ?_
      exact r_iret X I rfl rfl rfl hn dX8_isHonest_450
theorem v_X8_isHonest {G : sG} {d : Nat} {vs0 : List Value} {σ0 : sS} {x : sL} {z : sZ Int32} {r : Int32 × sS} (hs : S_X8_isHonest x = some z) (k : s_K G (d + 6) M_X8_isHonest vs0 σ0 Y_X8_isHonest e_I z r) : s_V G (d + 6) M_X8_isHonest vs0 σ0 Y_X8_isHonest x (e_I r) := by
  obtain ⟨pc, vs, σ⟩ := x
  unfold S_X8_isHonest at hs
  dsimp only at hs
  rcases s_ite hs with ⟨c, hs⟩ | ⟨-, hs⟩
  · subst c
    unfold U_X8_isHonest_0 at hs
    obtain ⟨a0, g0, hs⟩ := s_bind hs
    obtain ⟨a1, g1, hs⟩ := s_bind hs
    obtain ⟨u9, ge, hs⟩ := s_bind hs
    rw [g_r_to g0, g_i_to g1, g_e_to ge]
    exact v_X8_isHonest_0 hs k
  rcases s_ite hs with ⟨c, hs⟩ | ⟨-, hs⟩
  · subst c
    unfold U_X8_isHonest_67 at hs
    obtain ⟨a0, g0, hs⟩ := s_bind hs
    obtain ⟨a1, g1, hs⟩ := s_bind hs
    obtain ⟨a2, g2, hs⟩ := s_bind hs
    obtain ⟨a3, g3, hs⟩ := s_bind hs
    obtain ⟨a4, g4, hs⟩ := s_bind hs
    obtain ⟨u9, ge, hs⟩ := s_bind hs
    rw [g_r_to g0, g_i_to g1, g_i_to g2, g_i_to g3, g_i_to g4, g_e_to ge]
    exact v_X8_isHonest_67 hs k
  rcases s_ite hs with ⟨c, hs⟩ | ⟨-, hs⟩
  · subst c
    unfold U_X8_isHonest_93 at hs
    obtain ⟨a0, g0, hs⟩ := s_bind hs
    obtain ⟨a1, g1, hs⟩ := s_bind hs
    obtain ⟨a2, g2, hs⟩ := s_bind hs
    obtain ⟨a3, g3, hs⟩ := s_bind hs
    obtain ⟨a4, g4, hs⟩ := s_bind hs
    obtain ⟨a5, g5, hs⟩ := s_bind hs
    obtain ⟨u9, ge, hs⟩ := s_bind hs
    rw [g_r_to g0, g_i_to g1, g_i_to g2, g_i_to g3, g_i_to g4, g_i_to g5, g_e_to ge]
    exact v_X8_isHonest_93 hs k
  rcases s_ite hs with ⟨c, hs⟩ | ⟨-, hs⟩
  · subst c
    unfold U_X8_isHonest_119 at hs
    obtain ⟨a0, g0, hs⟩ := s_bind hs
    obtain ⟨a1, g1, hs⟩ := s_bind hs
    obtain ⟨a2, g2, hs⟩ := s_bind hs
    obtain ⟨a3, g3, hs⟩ := s_bind hs
    obtain ⟨a4, g4, hs⟩ := s_bind hs
    obtain ⟨a5, g5, hs⟩ := s_bind hs
    obtain ⟨a6, g6, hs⟩ := s_bind hs
    obtain ⟨u9, ge, hs⟩ := s_bind hs
    rw [g_r_to g0, g_i_to g1, g_i_to g2, g_i_to g3, g_i_to g4, g_i_to g5, g_i_to g6, g_e_to ge]
    exact v_X8_isHonest_119 hs k
  rcases s_ite hs with ⟨c, hs⟩ | ⟨-, hs⟩
  · subst c
    unfold U_X8_isHonest_424 at hs
    obtain ⟨a0, g0, hs⟩ := s_bind hs
    obtain ⟨a1, g1, hs⟩ := s_bind hs
    obtain ⟨a2, g2, hs⟩ := s_bind hs
    obtain ⟨u9, ge, hs⟩ := s_bind hs
    rw [g_r_to g0, g_i_to g1, g_i_to g2, g_e_to ge]
    exact v_X8_isHonest_424 hs k
  cases hs
theorem t_X8_isHonest {G : sG} {d : Nat} {v0 : Nat} {v1 : Int32} {σ : sS} {q : Int32 × sS} (h : F_X8_isHonest v0 v1 σ = some q) : s_T G (d + 6) M_X8_isHonest [.ref v0, .int v1] σ (e_I q) := by
  unfold F_X8_isHonest at h
  obtain ⟨-, -, h⟩ := s_bind h
  exact s_ofV rfl (by decide) (Nat.le_of_ble_eq_true rfl) rfl rfl (s_run_ind (V := fun x r => s_V G (d + 6) M_X8_isHonest [.ref v0, .int v1] σ Y_X8_isHonest x (e_I r)) (fun x z r hs hk => v_X8_isHonest hs (by cases z <;> exact hk)) h)
