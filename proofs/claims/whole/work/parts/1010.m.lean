/-! X5_isLetter -/
noncomputable def T_X5_isLetter_0 (v0 : Nat) (v1 : Int32) (σ : sS) : Option (sZ Int32) :=
  (F_X5_byteAt v0 v1 σ).bind fun q1 =>
  if q1.1 < 97 then (some (.inr (0, q1.2)))
  else (if (122 : Int32) < q1.1 then (some (.inr (0, q1.2)))
  else (some (.inr (1, q1.2))))
noncomputable def U_X5_isLetter_0 (vs : List Value) (σ : sS) : Option (sZ Int32) := (g_r vs).bind fun a0 => (g_i a0.2).bind fun a1 => (g_e a1.2).bind fun _ => T_X5_isLetter_0 a0.1 a1.1 σ
noncomputable def S_X5_isLetter (x : sL) : Option (sZ Int32) := if x.1 = 0 then U_X5_isLetter_0 x.2.1 x.2.2 else none
def Y_X5_isLetter (pc : Nat) : List Nat := if pc = 0 then [0, 1] else []
noncomputable def F_X5_isLetter (v0 : Nat) (v1 : Int32) (σ : sS) : Option (Int32 × sS) := (s_is σ v0 5).bind fun _ => s_run S_X5_isLetter (0, [.ref v0, .int v1], σ)
theorem l_X5_isLetter_0 {v0 : Nat} {v1 : Int32} {σ : sS} {z : sZ Int32} (hf : T_X5_isLetter_0 v0 v1 σ = some z) : s_lz σ z := by
  unfold T_X5_isLetter_0 at hf
  obtain ⟨q1, hh, hf⟩ := s_bind hf
  refine s_lz.tr (l_X5_byteAt hh) ?_
  rcases s_ite hf with ⟨-, hf⟩ | ⟨-, hf⟩
  · cases hf
    exact s_le.rf
  · rcases s_ite hf with ⟨-, hf⟩ | ⟨-, hf⟩
    · cases hf
      exact s_le.rf
    · cases hf
      exact s_le.rf
theorem l_X5_isLetter_s {x : sL} {z : sZ Int32} (hs : S_X5_isLetter x = some z) : s_lz x.2.2 z := by
  obtain ⟨pc, vs, σ⟩ := x
  unfold S_X5_isLetter at hs
  dsimp only at hs ⊢
  rcases s_ite hs with ⟨c, hs⟩ | ⟨-, hs⟩
  · subst c
    unfold U_X5_isLetter_0 at hs
    obtain ⟨a0, g0, hs⟩ := s_bind hs
    obtain ⟨a1, g1, hs⟩ := s_bind hs
    obtain ⟨u9, ge, hs⟩ := s_bind hs
    exact l_X5_isLetter_0 hs
  cases hs
theorem l_X5_isLetter {v0 : Nat} {v1 : Int32} {σ : sS} {q : Int32 × sS} (h : F_X5_isLetter v0 v1 σ = some q) : s_le σ q.2 := by
  unfold F_X5_isLetter at h
  obtain ⟨-, -, h⟩ := s_bind h
  exact s_run_ind (V := fun x r => s_le x.2.2 r.2) (fun x z r hs hk => by
    have h9 := l_X5_isLetter_s hs
    cases z with
    | inl y => exact s_le.tr h9 hk
    | inr q => cases hk; exact h9) h
theorem b_X5_isLetter {v0 : Nat} {v1 : Int32} {σ : sS} {q : Int32 × sS} (h : F_X5_isLetter v0 v1 σ = some q) : ∃ fs, σ.1 v0 = some (.inr (5, fs)) := by
  unfold F_X5_isLetter at h
  obtain ⟨u, hu, -⟩ := s_bind h
  exact s_is_to hu
set_option maxRecDepth 100000 in
set_option maxHeartbeats 4000000 in
theorem v_X5_isLetter_0 {G : sG} {d : Nat} {vs0 : List Value} {σ0 : sS} {v0 : Nat} {v1 : Int32} {σ : sS} {z : sZ Int32} {r : Int32 × sS} (hf : T_X5_isLetter_0 v0 v1 σ = some z) (k : s_K G (d + 2) M_X5_isLetter vs0 σ0 Y_X5_isLetter e_I z r) : s_V G (d + 2) M_X5_isLetter vs0 σ0 Y_X5_isLetter (0, [.ref v0, .int v1], σ) (e_I r) := by
  have le0 : s_le σ (e_I r).2 := s_lek hem_I (l_X5_isLetter_0 hf) k
  refine ⟨le0, ?_⟩
  intro p e s m below meth c H locs cells slots ls X I hn1 hn2 hl
  have hn : cells + σ0.2.1 ≤ σ.2.1 ∧ slots + σ0.2.2.1 ≤ σ.2.2.1 := ⟨hn1, hn2⟩
  have hl : lv_has ls 3 [(0, .ref v0), (1, .int v1)] := hl
  have hx := X.1
  have hb : c.code = cX5_isLetter := X.2.1
  have hown : s.vm.findClass RX5 = some m.cls := X.2.2.2.2.2.1
  have hts := X.2.2.2.2.2.2.1
  refine W.eq (g2 := F0 m 0 ls []) rfl ?_
  unfold T_X5_isLetter_0 at hf
  obtain ⟨q1, h1, hf⟩ := s_bind hf
  have le2 : s_le q1.2 (e_I r).2 := by
    refine s_lek hem_I ?_ k
    rcases s_ite hf with ⟨-, hf⟩ | ⟨-, hf⟩
    · cases hf
      exact s_le.rf
    · rcases s_ite hf with ⟨-, hf⟩ | ⟨-, hf⟩
      · cases hf
        exact s_le.rf
      · cases hf
        exact s_le.rf
  refine lv_aload_n hx hb dX5_isLetter_0 rfl (lv_at hl 0 rfl) ?_
  refine lv_iload_n hx hb dX5_isLetter_1 rfl (lv_at hl 1 rfl) ?_
  refine r_callV (Y := M_X5_byteAt) (v := some (.int q1.1)) X I w_721 my_X5_byteAt (by omega) (t_X5_byteAt (G := G) (d := d + 0) h1) (b_X5_byteAt h1) rfl rfl hl.1 rfl (Nat.le_of_ble_eq_true rfl) hn le2 dX5_isLetter_2 (fun H locs cells slots I hn1 hn2 => ?_)
  have I : s_I G q1.2 s H locs := I
  have hn : cells + σ0.2.1 ≤ q1.2.2.1 ∧ slots + σ0.2.2.1 ≤ q1.2.2.2.1 := ⟨hn1, hn2⟩
  refine lv_istore_n (lv' := [(2, .int q1.1), (0, .ref v0), (1, .int v1)]) hx hb dX5_isLetter_5 rfl hl (by decide) rfl (fun ls hl => ?_)
  refine lv_iload_n hx hb dX5_isLetter_6 rfl (lv_at hl 0 rfl) ?_
  refine lv_bipush (v := 97) hx hb dX5_isLetter_7 (by decide) ?_
  rcases s_ite hf with ⟨c3, hf⟩ | ⟨c3, hf⟩
  · refine lv_icmp_lt (tgt := 22) hx hb dX5_isLetter_9 (by decide) (fun _ => ?_) (fun n => absurd c3 n)
    cases hf
    have k : _ = r := k
    subst k
    refine lv_iconst (v := 0) hx hb dX5_isLetter_22 (by decide) ?_
    exact r_iret X I rfl rfl rfl hn dX5_isLetter_23
  · refine lv_icmp_lt (tgt := 22) hx hb dX5_isLetter_9 (by decide) (fun n => absurd n c3) (fun _ => ?_)
    refine lv_iload_n hx hb dX5_isLetter_12 rfl (lv_at hl 0 rfl) ?_
    refine lv_bipush (v := 122) hx hb dX5_isLetter_13 (by decide) ?_
    rcases s_ite hf with ⟨c4, hf⟩ | ⟨c4, hf⟩
    · refine lv_icmp_gt (tgt := 22) hx hb dX5_isLetter_15 (by decide) (fun _ => ?_) (fun n => absurd c4 n)
      cases hf
      have k : _ = r := k
      subst k
      refine lv_iconst (v := 0) hx hb dX5_isLetter_22 (by decide) ?_
      exact r_iret X I rfl rfl rfl hn dX5_isLetter_23
    · refine lv_icmp_gt (tgt := 22) hx hb dX5_isLetter_15 (by decide) (fun n => absurd n c4) (fun _ => ?_)
      cases hf
      have k : _ = r := k
      subst k
      refine lv_iconst (v := 1) hx hb dX5_isLetter_18 (by decide) ?_
      refine lv_goto (tgt := 23) hx hb dX5_isLetter_19 (by decide) ?_
      exact r_iret X I rfl rfl rfl hn dX5_isLetter_23
theorem v_X5_isLetter {G : sG} {d : Nat} {vs0 : List Value} {σ0 : sS} {x : sL} {z : sZ Int32} {r : Int32 × sS} (hs : S_X5_isLetter x = some z) (k : s_K G (d + 2) M_X5_isLetter vs0 σ0 Y_X5_isLetter e_I z r) : s_V G (d + 2) M_X5_isLetter vs0 σ0 Y_X5_isLetter x (e_I r) := by
  obtain ⟨pc, vs, σ⟩ := x
  unfold S_X5_isLetter at hs
  dsimp only at hs
  rcases s_ite hs with ⟨c, hs⟩ | ⟨-, hs⟩
  · subst c
    unfold U_X5_isLetter_0 at hs
    obtain ⟨a0, g0, hs⟩ := s_bind hs
    obtain ⟨a1, g1, hs⟩ := s_bind hs
    obtain ⟨u9, ge, hs⟩ := s_bind hs
    rw [g_r_to g0, g_i_to g1, g_e_to ge]
    exact v_X5_isLetter_0 hs k
  cases hs
theorem t_X5_isLetter {G : sG} {d : Nat} {v0 : Nat} {v1 : Int32} {σ : sS} {q : Int32 × sS} (h : F_X5_isLetter v0 v1 σ = some q) : s_T G (d + 2) M_X5_isLetter [.ref v0, .int v1] σ (e_I q) := by
  unfold F_X5_isLetter at h
  obtain ⟨-, -, h⟩ := s_bind h
  exact s_ofV rfl (by decide) (Nat.le_of_ble_eq_true rfl) rfl rfl (s_run_ind (V := fun x r => s_V G (d + 2) M_X5_isLetter [.ref v0, .int v1] σ Y_X5_isLetter x (e_I r)) (fun x z r hs hk => v_X5_isLetter hs (by cases z <;> exact hk)) h)
/-! X5_wordEnd -/
noncomputable def T_X5_wordEnd_0 (v0 : Nat) (σ : sS) : Option (sZ Int32) :=
  (s_fi σ v0 5 4).bind fun x1 =>
  some (.inl (7, [.ref v0, .int x1, .int 0], σ))
noncomputable def U_X5_wordEnd_0 (vs : List Value) (σ : sS) : Option (sZ Int32) := (g_r vs).bind fun a0 => (g_e a0.2).bind fun _ => T_X5_wordEnd_0 a0.1 σ
noncomputable def T_X5_wordEnd_7 (v0 : Nat) (v1 : Int32) (v2 : Int32) (σ : sS) : Option (sZ Int32) :=
  if (400 : Int32) ≤ v2 then (some (.inr (v1, σ)))
  else ((F_X5_isLetter v0 v1 σ).bind fun q1 =>
  if q1.1 = 0 then (some (.inr (v1, q1.2)))
  else (some (.inl (7, [.ref v0, .int (v1 + 1), .int (v2 + 1)], q1.2))))
noncomputable def U_X5_wordEnd_7 (vs : List Value) (σ : sS) : Option (sZ Int32) := (g_r vs).bind fun a0 => (g_i a0.2).bind fun a1 => (g_i a1.2).bind fun a2 => (g_e a2.2).bind fun _ => T_X5_wordEnd_7 a0.1 a1.1 a2.1 σ
noncomputable def S_X5_wordEnd (x : sL) : Option (sZ Int32) := if x.1 = 0 then U_X5_wordEnd_0 x.2.1 x.2.2 else if x.1 = 7 then U_X5_wordEnd_7 x.2.1 x.2.2 else none
def Y_X5_wordEnd (pc : Nat) : List Nat := if pc = 0 then [0] else if pc = 7 then [0, 1, 2] else []
noncomputable def F_X5_wordEnd (v0 : Nat) (σ : sS) : Option (Int32 × sS) := (s_is σ v0 5).bind fun _ => s_run S_X5_wordEnd (0, [.ref v0], σ)
theorem l_X5_wordEnd_0 {v0 : Nat} {σ : sS} {z : sZ Int32} (hf : T_X5_wordEnd_0 v0 σ = some z) : s_lz σ z := by
  unfold T_X5_wordEnd_0 at hf
  obtain ⟨x1, -, hf⟩ := s_bind hf
  cases hf
  exact s_le.rf
theorem l_X5_wordEnd_7 {v0 : Nat} {v1 : Int32} {v2 : Int32} {σ : sS} {z : sZ Int32} (hf : T_X5_wordEnd_7 v0 v1 v2 σ = some z) : s_lz σ z := by
  unfold T_X5_wordEnd_7 at hf
  rcases s_ite hf with ⟨-, hf⟩ | ⟨-, hf⟩
  · cases hf
    exact s_le.rf
  · obtain ⟨q1, hh, hf⟩ := s_bind hf
    refine s_lz.tr (l_X5_isLetter hh) ?_
    rcases s_ite hf with ⟨-, hf⟩ | ⟨-, hf⟩
    · cases hf
      exact s_le.rf
    · cases hf
      exact s_le.rf
theorem l_X5_wordEnd_s {x : sL} {z : sZ Int32} (hs : S_X5_wordEnd x = some z) : s_lz x.2.2 z := by
  obtain ⟨pc, vs, σ⟩ := x
  unfold S_X5_wordEnd at hs
  dsimp only at hs ⊢
  rcases s_ite hs with ⟨c, hs⟩ | ⟨-, hs⟩
  · subst c
    unfold U_X5_wordEnd_0 at hs
    obtain ⟨a0, g0, hs⟩ := s_bind hs
    obtain ⟨u9, ge, hs⟩ := s_bind hs
    exact l_X5_wordEnd_0 hs
  rcases s_ite hs with ⟨c, hs⟩ | ⟨-, hs⟩
  · subst c
    unfold U_X5_wordEnd_7 at hs
    obtain ⟨a0, g0, hs⟩ := s_bind hs
    obtain ⟨a1, g1, hs⟩ := s_bind hs
    obtain ⟨a2, g2, hs⟩ := s_bind hs
    obtain ⟨u9, ge, hs⟩ := s_bind hs
    exact l_X5_wordEnd_7 hs
  cases hs
theorem l_X5_wordEnd {v0 : Nat} {σ : sS} {q : Int32 × sS} (h : F_X5_wordEnd v0 σ = some q) : s_le σ q.2 := by
  unfold F_X5_wordEnd at h
  obtain ⟨-, -, h⟩ := s_bind h
  exact s_run_ind (V := fun x r => s_le x.2.2 r.2) (fun x z r hs hk => by
    have h9 := l_X5_wordEnd_s hs
    cases z with
    | inl y => exact s_le.tr h9 hk
    | inr q => cases hk; exact h9) h
theorem b_X5_wordEnd {v0 : Nat} {σ : sS} {q : Int32 × sS} (h : F_X5_wordEnd v0 σ = some q) : ∃ fs, σ.1 v0 = some (.inr (5, fs)) := by
  unfold F_X5_wordEnd at h
  obtain ⟨u, hu, -⟩ := s_bind h
  exact s_is_to hu
set_option maxRecDepth 100000 in
set_option maxHeartbeats 4000000 in
theorem v_X5_wordEnd_0 {G : sG} {d : Nat} {vs0 : List Value} {σ0 : sS} {v0 : Nat} {σ : sS} {z : sZ Int32} {r : Int32 × sS} (hf : T_X5_wordEnd_0 v0 σ = some z) (k : s_K G (d + 3) M_X5_wordEnd vs0 σ0 Y_X5_wordEnd e_I z r) : s_V G (d + 3) M_X5_wordEnd vs0 σ0 Y_X5_wordEnd (0, [.ref v0], σ) (e_I r) := by
  have le0 : s_le σ (e_I r).2 := s_lek hem_I (l_X5_wordEnd_0 hf) k
  refine ⟨le0, ?_⟩
  intro p e s m below meth c H locs cells slots ls X I hn1 hn2 hl
  have hn : cells + σ0.2.1 ≤ σ.2.1 ∧ slots + σ0.2.2.1 ≤ σ.2.2.1 := ⟨hn1, hn2⟩
  have hl : lv_has ls 3 [(0, .ref v0)] := hl
  have hx := X.1
  have hb : c.code = cX5_wordEnd := X.2.1
  have hown : s.vm.findClass RX5 = some m.cls := X.2.2.2.2.2.1
  have hts := X.2.2.2.2.2.2.1
  refine W.eq (g2 := F0 m 0 ls []) rfl ?_
  unfold T_X5_wordEnd_0 at hf
  obtain ⟨x1, h1, hf⟩ := s_bind hf
  cases hf
  have k : s_V G (d + 3) M_X5_wordEnd vs0 σ0 Y_X5_wordEnd (7, [.ref v0, .int x1, .int 0], σ) (e_I r) := k
  refine lv_aload_n hx hb dX5_wordEnd_0 rfl (lv_at hl 0 rfl) ?_
  refine r_gi X I fl_X5_29 h1 dX5_wordEnd_1 ?_
  refine lv_istore_n (lv' := [(1, .int x1), (0, .ref v0)]) hx hb dX5_wordEnd_4 rfl hl (by decide) rfl (fun ls hl => ?_)
  refine lv_iconst (v := 0) hx hb dX5_wordEnd_5 (by decide) ?_
  refine lv_istore_n (lv' := [(2, .int 0), (1, .int x1), (0, .ref v0)]) hx hb dX5_wordEnd_6 rfl hl (by decide) rfl (fun ls hl => ?_)
  exact k.2 p e s m below meth c _ _ _ _ _ X I hn.1 hn.2 (lv_sub hl [2, 1, 0] rfl)
set_option maxRecDepth 100000 in
set_option maxHeartbeats 4000000 in
theorem v_X5_wordEnd_7 {G : sG} {d : Nat} {vs0 : List Value} {σ0 : sS} {v0 : Nat} {v1 : Int32} {v2 : Int32} {σ : sS} {z : sZ Int32} {r : Int32 × sS} (hf : T_X5_wordEnd_7 v0 v1 v2 σ = some z) (k : s_K G (d + 3) M_X5_wordEnd vs0 σ0 Y_X5_wordEnd e_I z r) : s_V G (d + 3) M_X5_wordEnd vs0 σ0 Y_X5_wordEnd (7, [.ref v0, .int v1, .int v2], σ) (e_I r) := by
  have le0 : s_le σ (e_I r).2 := s_lek hem_I (l_X5_wordEnd_7 hf) k
  refine ⟨le0, ?_⟩
  intro p e s m below meth c H locs cells slots ls X I hn1 hn2 hl
  have hn : cells + σ0.2.1 ≤ σ.2.1 ∧ slots + σ0.2.2.1 ≤ σ.2.2.1 := ⟨hn1, hn2⟩
  have hl : lv_has ls 3 [(0, .ref v0), (1, .int v1), (2, .int v2)] := hl
  have hx := X.1
  have hb : c.code = cX5_wordEnd := X.2.1
  have hown : s.vm.findClass RX5 = some m.cls := X.2.2.2.2.2.1
  have hts := X.2.2.2.2.2.2.1
  refine W.eq (g2 := F0 m 7 ls []) rfl ?_
  unfold T_X5_wordEnd_7 at hf
  refine lv_iload_n hx hb dX5_wordEnd_7 rfl (lv_at hl 2 rfl) ?_
  refine lv_sipush (v := 400) hx hb dX5_wordEnd_8 (by decide) ?_
  rcases s_ite hf with ⟨c1, hf⟩ | ⟨c1, hf⟩
  · refine lv_icmp_ge (tgt := 31) hx hb dX5_wordEnd_11 (by decide) (fun _ => ?_) (fun n => absurd c1 n)
    cases hf
    have k : _ = r := k
    subst k
    refine lv_iload_n hx hb dX5_wordEnd_31 rfl (lv_at hl 1 rfl) ?_
    exact r_iret X I rfl rfl rfl hn dX5_wordEnd_32
  · refine lv_icmp_ge (tgt := 31) hx hb dX5_wordEnd_11 (by decide) (fun n => absurd n c1) (fun _ => ?_)
    obtain ⟨q1, h2, hf⟩ := s_bind hf
    have le3 : s_le q1.2 (e_I r).2 := by
      refine s_lek hem_I ?_ k
      rcases s_ite hf with ⟨-, hf⟩ | ⟨-, hf⟩
      · cases hf
        exact s_le.rf
      · cases hf
        exact s_le.rf
    refine lv_aload_n hx hb dX5_wordEnd_14 rfl (lv_at hl 0 rfl) ?_
    refine lv_iload_n hx hb dX5_wordEnd_15 rfl (lv_at hl 1 rfl) ?_
    refine r_callV (Y := M_X5_isLetter) (v := some (.int q1.1)) X I w_773 my_X5_isLetter (by omega) (t_X5_isLetter (G := G) (d := d + 0) h2) (b_X5_isLetter h2) rfl rfl hl.1 rfl (Nat.le_of_ble_eq_true rfl) hn le3 dX5_wordEnd_16 (fun H locs cells slots I hn1 hn2 => ?_)
    have I : s_I G q1.2 s H locs := I
    have hn : cells + σ0.2.1 ≤ q1.2.2.1 ∧ slots + σ0.2.2.1 ≤ q1.2.2.2.1 := ⟨hn1, hn2⟩
    rcases s_ite hf with ⟨c4, hf⟩ | ⟨c4, hf⟩
    · refine lv_if_eq (tgt := 31) hx hb dX5_wordEnd_19 (by decide) (fun _ => ?_) (fun n => absurd c4 n)
      cases hf
      have k : _ = r := k
      subst k
      refine lv_iload_n hx hb dX5_wordEnd_31 rfl (lv_at hl 1 rfl) ?_
      exact r_iret X I rfl rfl rfl hn dX5_wordEnd_32
    · refine lv_if_eq (tgt := 31) hx hb dX5_wordEnd_19 (by decide) (fun n => absurd n c4) (fun _ => ?_)
      cases hf
      have k : s_V G (d + 3) M_X5_wordEnd vs0 σ0 Y_X5_wordEnd (7, [.ref v0, .int (v1 + 1), .int (v2 + 1)], q1.2) (e_I r) := k
      refine lv_iinc (v := (v1 + 1)) (lv' := [(1, .int (v1 + 1)), (0, .ref v0), (2, .int v2)]) hx hb dX5_wordEnd_22 hl (k := 1) rfl rfl (by decide) rfl (fun ls hl => ?_)
      refine lv_iinc (v := (v2 + 1)) (lv' := [(2, .int (v2 + 1)), (1, .int (v1 + 1)), (0, .ref v0)]) hx hb dX5_wordEnd_25 hl (k := 2) rfl rfl (by decide) rfl (fun ls hl => ?_)
      refine lv_goto (tgt := 7) hx hb dX5_wordEnd_28 (by decide) ?_
      exact k.2 p e s m below meth c _ _ _ _ _ X I hn.1 hn.2 (lv_sub hl [2, 1, 0] rfl)
theorem v_X5_wordEnd {G : sG} {d : Nat} {vs0 : List Value} {σ0 : sS} {x : sL} {z : sZ Int32} {r : Int32 × sS} (hs : S_X5_wordEnd x = some z) (k : s_K G (d + 3) M_X5_wordEnd vs0 σ0 Y_X5_wordEnd e_I z r) : s_V G (d + 3) M_X5_wordEnd vs0 σ0 Y_X5_wordEnd x (e_I r) := by
  obtain ⟨pc, vs, σ⟩ := x
  unfold S_X5_wordEnd at hs
  dsimp only at hs
  rcases s_ite hs with ⟨c, hs⟩ | ⟨-, hs⟩
  · subst c
    unfold U_X5_wordEnd_0 at hs
    obtain ⟨a0, g0, hs⟩ := s_bind hs
    obtain ⟨u9, ge, hs⟩ := s_bind hs
    rw [g_r_to g0, g_e_to ge]
    exact v_X5_wordEnd_0 hs k
  rcases s_ite hs with ⟨c, hs⟩ | ⟨-, hs⟩
  · subst c
    unfold U_X5_wordEnd_7 at hs
    obtain ⟨a0, g0, hs⟩ := s_bind hs
    obtain ⟨a1, g1, hs⟩ := s_bind hs
    obtain ⟨a2, g2, hs⟩ := s_bind hs
    obtain ⟨u9, ge, hs⟩ := s_bind hs
    rw [g_r_to g0, g_i_to g1, g_i_to g2, g_e_to ge]
    exact v_X5_wordEnd_7 hs k
  cases hs
theorem t_X5_wordEnd {G : sG} {d : Nat} {v0 : Nat} {σ : sS} {q : Int32 × sS} (h : F_X5_wordEnd v0 σ = some q) : s_T G (d + 3) M_X5_wordEnd [.ref v0] σ (e_I q) := by
  unfold F_X5_wordEnd at h
  obtain ⟨-, -, h⟩ := s_bind h
  exact s_ofV rfl (by decide) (Nat.le_of_ble_eq_true rfl) rfl rfl (s_run_ind (V := fun x r => s_V G (d + 3) M_X5_wordEnd [.ref v0] σ Y_X5_wordEnd x (e_I r)) (fun x z r hs hk => v_X5_wordEnd hs (by cases z <;> exact hk)) h)
/-! X5_isWord -/
noncomputable def T_X5_isWord_0 (v0 : Nat) (v1 : Int32) (v2 : Int32) (v3 : Nat) (σ : sS) : Option (sZ Int32) :=
  (F_J0_length_8abf5 v3 σ).bind fun q1 =>
  if (v2 - v1) = q1.1 then (some (.inl (15, [.ref v0, .int v1, .ref v3, .int 0], q1.2)))
  else (some (.inr (0, q1.2)))
noncomputable def U_X5_isWord_0 (vs : List Value) (σ : sS) : Option (sZ Int32) := (g_r vs).bind fun a0 => (g_i a0.2).bind fun a1 => (g_i a1.2).bind fun a2 => (g_r a2.2).bind fun a3 => (g_e a3.2).bind fun _ => T_X5_isWord_0 a0.1 a1.1 a2.1 a3.1 σ
noncomputable def T_X5_isWord_15 (v0 : Nat) (v1 : Int32) (v3 : Nat) (v4 : Int32) (σ : sS) : Option (sZ Int32) :=
  (F_J0_length_8abf5 v3 σ).bind fun q1 =>
  if q1.1 ≤ v4 then (some (.inr (1, q1.2)))
  else ((F_X5_byteAt v0 (v1 + v4) q1.2).bind fun q2 =>
  (F_J0_charAt_5068e v3 v4 q2.2).bind fun q3 =>
  if q2.1 = q3.1 then (some (.inl (15, [.ref v0, .int v1, .ref v3, .int (v4 + 1)], q3.2)))
  else (some (.inr (0, q3.2))))
noncomputable def U_X5_isWord_15 (vs : List Value) (σ : sS) : Option (sZ Int32) := (g_r vs).bind fun a0 => (g_i a0.2).bind fun a1 => (g_r a1.2).bind fun a2 => (g_i a2.2).bind fun a3 => (g_e a3.2).bind fun _ => T_X5_isWord_15 a0.1 a1.1 a2.1 a3.1 σ
noncomputable def S_X5_isWord (x : sL) : Option (sZ Int32) := if x.1 = 0 then U_X5_isWord_0 x.2.1 x.2.2 else if x.1 = 15 then U_X5_isWord_15 x.2.1 x.2.2 else none
def Y_X5_isWord (pc : Nat) : List Nat := if pc = 0 then [0, 1, 2, 3] else if pc = 15 then [0, 1, 3, 4] else []
noncomputable def F_X5_isWord (v0 : Nat) (v1 : Int32) (v2 : Int32) (v3 : Nat) (σ : sS) : Option (Int32 × sS) := (s_is σ v0 5).bind fun _ => s_run S_X5_isWord (0, [.ref v0, .int v1, .int v2, .ref v3], σ)
theorem l_X5_isWord_0 {v0 : Nat} {v1 : Int32} {v2 : Int32} {v3 : Nat} {σ : sS} {z : sZ Int32} (hf : T_X5_isWord_0 v0 v1 v2 v3 σ = some z) : s_lz σ z := by
  unfold T_X5_isWord_0 at hf
  obtain ⟨q1, hh, hf⟩ := s_bind hf
  refine s_lz.tr (l_J0_length_8abf5 hh) ?_
  rcases s_ite hf with ⟨-, hf⟩ | ⟨-, hf⟩
  · cases hf
    exact s_le.rf
  · cases hf
    exact s_le.rf
theorem l_X5_isWord_15 {v0 : Nat} {v1 : Int32} {v3 : Nat} {v4 : Int32} {σ : sS} {z : sZ Int32} (hf : T_X5_isWord_15 v0 v1 v3 v4 σ = some z) : s_lz σ z := by
  unfold T_X5_isWord_15 at hf
  obtain ⟨q1, hh, hf⟩ := s_bind hf
  refine s_lz.tr (l_J0_length_8abf5 hh) ?_
  rcases s_ite hf with ⟨-, hf⟩ | ⟨-, hf⟩
  · cases hf
    exact s_le.rf
  · obtain ⟨q2, hh, hf⟩ := s_bind hf
    refine s_lz.tr (l_X5_byteAt hh) ?_
    obtain ⟨q3, hh, hf⟩ := s_bind hf
    refine s_lz.tr (l_J0_charAt_5068e hh) ?_
    rcases s_ite hf with ⟨-, hf⟩ | ⟨-, hf⟩
    · cases hf
      exact s_le.rf
    · cases hf
      exact s_le.rf
theorem l_X5_isWord_s {x : sL} {z : sZ Int32} (hs : S_X5_isWord x = some z) : s_lz x.2.2 z := by
  obtain ⟨pc, vs, σ⟩ := x
  unfold S_X5_isWord at hs
  dsimp only at hs ⊢
  rcases s_ite hs with ⟨c, hs⟩ | ⟨-, hs⟩
  · subst c
    unfold U_X5_isWord_0 at hs
    obtain ⟨a0, g0, hs⟩ := s_bind hs
    obtain ⟨a1, g1, hs⟩ := s_bind hs
    obtain ⟨a2, g2, hs⟩ := s_bind hs
    obtain ⟨a3, g3, hs⟩ := s_bind hs
    obtain ⟨u9, ge, hs⟩ := s_bind hs
    exact l_X5_isWord_0 hs
  rcases s_ite hs with ⟨c, hs⟩ | ⟨-, hs⟩
  · subst c
    unfold U_X5_isWord_15 at hs
    obtain ⟨a0, g0, hs⟩ := s_bind hs
    obtain ⟨a1, g1, hs⟩ := s_bind hs
    obtain ⟨a2, g2, hs⟩ := s_bind hs
    obtain ⟨a3, g3, hs⟩ := s_bind hs
    obtain ⟨u9, ge, hs⟩ := s_bind hs
    exact l_X5_isWord_15 hs
  cases hs
theorem l_X5_isWord {v0 : Nat} {v1 : Int32} {v2 : Int32} {v3 : Nat} {σ : sS} {q : Int32 × sS} (h : F_X5_isWord v0 v1 v2 v3 σ = some q) : s_le σ q.2 := by
  unfold F_X5_isWord at h
  obtain ⟨-, -, h⟩ := s_bind h
  exact s_run_ind (V := fun x r => s_le x.2.2 r.2) (fun x z r hs hk => by
    have h9 := l_X5_isWord_s hs
    cases z with
    | inl y => exact s_le.tr h9 hk
    | inr q => cases hk; exact h9) h
theorem b_X5_isWord {v0 : Nat} {v1 : Int32} {v2 : Int32} {v3 : Nat} {σ : sS} {q : Int32 × sS} (h : F_X5_isWord v0 v1 v2 v3 σ = some q) : ∃ fs, σ.1 v0 = some (.inr (5, fs)) := by
  unfold F_X5_isWord at h
  obtain ⟨u, hu, -⟩ := s_bind h
  exact s_is_to hu
set_option maxRecDepth 100000 in
set_option maxHeartbeats 4000000 in
theorem v_X5_isWord_0 {G : sG} {d : Nat} {vs0 : List Value} {σ0 : sS} {v0 : Nat} {v1 : Int32} {v2 : Int32} {v3 : Nat} {σ : sS} {z : sZ Int32} {r : Int32 × sS} (hf : T_X5_isWord_0 v0 v1 v2 v3 σ = some z) (k : s_K G (d + 6) M_X5_isWord vs0 σ0 Y_X5_isWord e_I z r) : s_V G (d + 6) M_X5_isWord vs0 σ0 Y_X5_isWord (0, [.ref v0, .int v1, .int v2, .ref v3], σ) (e_I r) := by
  have le0 : s_le σ (e_I r).2 := s_lek hem_I (l_X5_isWord_0 hf) k
  refine ⟨le0, ?_⟩
  intro p e s m below meth c H locs cells slots ls X I hn1 hn2 hl
  have hn : cells + σ0.2.1 ≤ σ.2.1 ∧ slots + σ0.2.2.1 ≤ σ.2.2.1 := ⟨hn1, hn2⟩
  have hl : lv_has ls 5 [(0, .ref v0), (1, .int v1), (2, .int v2), (3, .ref v3)] := hl
  have hx := X.1
  have hb : c.code = cX5_isWord := X.2.1
  have hown : s.vm.findClass RX5 = some m.cls := X.2.2.2.2.2.1
  have hts := X.2.2.2.2.2.2.1
  refine W.eq (g2 := F0 m 0 ls []) rfl ?_
  unfold T_X5_isWord_0 at hf
  obtain ⟨q1, h1, hf⟩ := s_bind hf
  have le2 : s_le q1.2 (e_I r).2 := by
    refine s_lek hem_I ?_ k
    rcases s_ite hf with ⟨-, hf⟩ | ⟨-, hf⟩
    · cases hf
      exact s_le.rf
    · cases hf
      exact s_le.rf
  refine lv_iload_n hx hb dX5_isWord_0 rfl (lv_at hl 2 rfl) ?_
  refine lv_iload_n hx hb dX5_isWord_1 rfl (lv_at hl 1 rfl) ?_
  refine lv_isub hx hb dX5_isWord_2 ?_
  refine lv_aload_n hx hb dX5_isWord_3 rfl (lv_at hl 3 rfl) ?_
  refine r_callVs (Y := M_J0_length_8abf5) (v := some (.int q1.1)) X I w_790 my_J0_length_8abf5 (by omega) (t_J0_length_8abf5 (G := G) (d := d + 3) h1) (b_J0_length_8abf5 h1) rfl rfl hl.1 rfl (Nat.le_of_ble_eq_true rfl) hn le2 dX5_isWord_4 (fun H locs cells slots I hn1 hn2 => ?_)
  have I : s_I G q1.2 s H locs := I
  have hn : cells + σ0.2.1 ≤ q1.2.2.1 ∧ slots + σ0.2.2.1 ≤ q1.2.2.2.1 := ⟨hn1, hn2⟩
  rcases s_ite hf with ⟨c3, hf⟩ | ⟨c3, hf⟩
  · refine lv_icmp_eq (tgt := 12) hx hb dX5_isWord_7 (by decide) (fun _ => ?_) (fun n => absurd c3 n)
    cases hf
    have k : s_V G (d + 6) M_X5_isWord vs0 σ0 Y_X5_isWord (15, [.ref v0, .int v1, .ref v3, .int 0], q1.2) (e_I r) := k
    refine lv_iconst (v := 0) hx hb dX5_isWord_12 (by decide) ?_
    refine lv_istore (lv' := [(4, .int 0), (0, .ref v0), (1, .int v1), (2, .int v2), (3, .ref v3)]) hx hb dX5_isWord_13 hl (by decide) rfl (fun ls hl => ?_)
    exact k.2 p e s m below meth c _ _ _ _ _ X I hn.1 hn.2 (lv_sub hl [1, 2, 4, 0] rfl)
  · refine lv_icmp_eq (tgt := 12) hx hb dX5_isWord_7 (by decide) (fun n => absurd n c3) (fun _ => ?_)
    cases hf
    have k : _ = r := k
    subst k
    refine lv_iconst (v := 0) hx hb dX5_isWord_10 (by decide) ?_
    exact r_iret X I rfl rfl rfl hn dX5_isWord_11
set_option maxRecDepth 100000 in
set_option maxHeartbeats 4000000 in
theorem v_X5_isWord_15 {G : sG} {d : Nat} {vs0 : List Value} {σ0 : sS} {v0 : Nat} {v1 : Int32} {v3 : Nat} {v4 : Int32} {σ : sS} {z : sZ Int32} {r : Int32 × sS} (hf : T_X5_isWord_15 v0 v1 v3 v4 σ = some z) (k : s_K G (d + 6) M_X5_isWord vs0 σ0 Y_X5_isWord e_I z r) : s_V G (d + 6) M_X5_isWord vs0 σ0 Y_X5_isWord (15, [.ref v0, .int v1, .ref v3, .int v4], σ) (e_I r) := by
  have le0 : s_le σ (e_I r).2 := s_lek hem_I (l_X5_isWord_15 hf) k
  refine ⟨le0, ?_⟩
  intro p e s m below meth c H locs cells slots ls X I hn1 hn2 hl
  have hn : cells + σ0.2.1 ≤ σ.2.1 ∧ slots + σ0.2.2.1 ≤ σ.2.2.1 := ⟨hn1, hn2⟩
  have hl : lv_has ls 5 [(0, .ref v0), (1, .int v1), (3, .ref v3), (4, .int v4)] := hl
  have hx := X.1
  have hb : c.code = cX5_isWord := X.2.1
  have hown : s.vm.findClass RX5 = some m.cls := X.2.2.2.2.2.1
  have hts := X.2.2.2.2.2.2.1
  refine W.eq (g2 := F0 m 15 ls []) rfl ?_
  unfold T_X5_isWord_15 at hf
  obtain ⟨q1, h1, hf⟩ := s_bind hf
  have le2 : s_le q1.2 (e_I r).2 := by
    refine s_lek hem_I ?_ k
    rcases s_ite hf with ⟨-, hf⟩ | ⟨-, hf⟩
    · cases hf
      exact s_le.rf
    · obtain ⟨q2, hh, hf⟩ := s_bind hf
      refine s_lz.tr (l_X5_byteAt hh) ?_
      obtain ⟨q3, hh, hf⟩ := s_bind hf
      refine s_lz.tr (l_J0_charAt_5068e hh) ?_
      rcases s_ite hf with ⟨-, hf⟩ | ⟨-, hf⟩
      · cases hf
        exact s_le.rf
      · cases hf
        exact s_le.rf
  refine lv_iload hx hb dX5_isWord_15 (lv_at hl 3 rfl) ?_
  refine lv_aload_n hx hb dX5_isWord_17 rfl (lv_at hl 2 rfl) ?_
  refine r_callVs (Y := M_J0_length_8abf5) (v := some (.int q1.1)) X I w_790 my_J0_length_8abf5 (by omega) (t_J0_length_8abf5 (G := G) (d := d + 3) h1) (b_J0_length_8abf5 h1) rfl rfl hl.1 rfl (Nat.le_of_ble_eq_true rfl) hn le2 dX5_isWord_18 (fun H locs cells slots I hn1 hn2 => ?_)
  have I : s_I G q1.2 s H locs := I
  have hn : cells + σ0.2.1 ≤ q1.2.2.1 ∧ slots + σ0.2.2.1 ≤ q1.2.2.2.1 := ⟨hn1, hn2⟩
  rcases s_ite hf with ⟨c3, hf⟩ | ⟨c3, hf⟩
  · refine lv_icmp_ge (tgt := 49) hx hb dX5_isWord_21 (by decide) (fun _ => ?_) (fun n => absurd c3 n)
    cases hf
    have k : _ = r := k
    subst k
    refine lv_iconst (v := 1) hx hb dX5_isWord_49 (by decide) ?_
    exact r_iret X I rfl rfl rfl hn dX5_isWord_50
  · refine lv_icmp_ge (tgt := 49) hx hb dX5_isWord_21 (by decide) (fun n => absurd n c3) (fun _ => ?_)
    obtain ⟨q2, h4, hf⟩ := s_bind hf
    obtain ⟨q3, h5, hf⟩ := s_bind hf
    have le6 : s_le q3.2 (e_I r).2 := by
      refine s_lek hem_I ?_ k
      rcases s_ite hf with ⟨-, hf⟩ | ⟨-, hf⟩
      · cases hf
        exact s_le.rf
      · cases hf
        exact s_le.rf
    have le7 := s_le.tr (l_J0_charAt_5068e h5) le6
    refine lv_aload_n hx hb dX5_isWord_24 rfl (lv_at hl 0 rfl) ?_
    refine lv_iload_n hx hb dX5_isWord_25 rfl (lv_at hl 1 rfl) ?_
    refine lv_iload hx hb dX5_isWord_26 (lv_at hl 3 rfl) ?_
    refine lv_iadd hx hb dX5_isWord_28 ?_
    refine r_callV (Y := M_X5_byteAt) (v := some (.int q2.1)) X I w_721 my_X5_byteAt (by omega) (t_X5_byteAt (G := G) (d := d + 4) h4) (b_X5_byteAt h4) rfl rfl hl.1 rfl (Nat.le_of_ble_eq_true rfl) hn le7 dX5_isWord_29 (fun H locs cells slots I hn1 hn2 => ?_)
    have I : s_I G q2.2 s H locs := I
    have hn : cells + σ0.2.1 ≤ q2.2.2.1 ∧ slots + σ0.2.2.1 ≤ q2.2.2.2.1 := ⟨hn1, hn2⟩
    refine lv_aload_n hx hb dX5_isWord_32 rfl (lv_at hl 2 rfl) ?_
    refine lv_iload hx hb dX5_isWord_33 (lv_at hl 3 rfl) ?_
    refine r_callVs (Y := M_J0_charAt_5068e) (v := some (.int q3.1)) X I w_800 my_J0_charAt_5068e (by omega) (t_J0_charAt_5068e (G := G) (d := d + 0) h5) (b_J0_charAt_5068e h5) rfl rfl hl.1 rfl (Nat.le_of_ble_eq_true rfl) hn le6 dX5_isWord_35 (fun H locs cells slots I hn1 hn2 => ?_)
    have I : s_I G q3.2 s H locs := I
    have hn : cells + σ0.2.1 ≤ q3.2.2.1 ∧ slots + σ0.2.2.1 ≤ q3.2.2.2.1 := ⟨hn1, hn2⟩
    rcases s_ite hf with ⟨c8, hf⟩ | ⟨c8, hf⟩
    · refine lv_icmp_eq (tgt := 43) hx hb dX5_isWord_38 (by decide) (fun _ => ?_) (fun n => absurd c8 n)
      cases hf
      have k : s_V G (d + 6) M_X5_isWord vs0 σ0 Y_X5_isWord (15, [.ref v0, .int v1, .ref v3, .int (v4 + 1)], q3.2) (e_I r) := k
      refine lv_iinc (v := (v4 + 1)) (lv' := [(4, .int (v4 + 1)), (0, .ref v0), (1, .int v1), (3, .ref v3)]) hx hb dX5_isWord_43 hl (k := 3) rfl rfl (by decide) rfl (fun ls hl => ?_)
      refine lv_goto (tgt := 15) hx hb dX5_isWord_46 (by decide) ?_
      exact k.2 p e s m below meth c _ _ _ _ _ X I hn.1 hn.2 (lv_sub hl [1, 2, 3, 0] rfl)
    · refine lv_icmp_eq (tgt := 43) hx hb dX5_isWord_38 (by decide) (fun n => absurd n c8) (fun _ => ?_)
      cases hf
      have k : _ = r := k
      subst k
      refine lv_iconst (v := 0) hx hb dX5_isWord_41 (by decide) ?_
      exact r_iret X I rfl rfl rfl hn dX5_isWord_42
theorem v_X5_isWord {G : sG} {d : Nat} {vs0 : List Value} {σ0 : sS} {x : sL} {z : sZ Int32} {r : Int32 × sS} (hs : S_X5_isWord x = some z) (k : s_K G (d + 6) M_X5_isWord vs0 σ0 Y_X5_isWord e_I z r) : s_V G (d + 6) M_X5_isWord vs0 σ0 Y_X5_isWord x (e_I r) := by
  obtain ⟨pc, vs, σ⟩ := x
  unfold S_X5_isWord at hs
  dsimp only at hs
  rcases s_ite hs with ⟨c, hs⟩ | ⟨-, hs⟩
  · subst c
    unfold U_X5_isWord_0 at hs
    obtain ⟨a0, g0, hs⟩ := s_bind hs
    obtain ⟨a1, g1, hs⟩ := s_bind hs
    obtain ⟨a2, g2, hs⟩ := s_bind hs
    obtain ⟨a3, g3, hs⟩ := s_bind hs
    obtain ⟨u9, ge, hs⟩ := s_bind hs
    rw [g_r_to g0, g_i_to g1, g_i_to g2, g_r_to g3, g_e_to ge]
    exact v_X5_isWord_0 hs k
  rcases s_ite hs with ⟨c, hs⟩ | ⟨-, hs⟩
  · subst c
    unfold U_X5_isWord_15 at hs
    obtain ⟨a0, g0, hs⟩ := s_bind hs
    obtain ⟨a1, g1, hs⟩ := s_bind hs
    obtain ⟨a2, g2, hs⟩ := s_bind hs
    obtain ⟨a3, g3, hs⟩ := s_bind hs
    obtain ⟨u9, ge, hs⟩ := s_bind hs
    rw [g_r_to g0, g_i_to g1, g_r_to g2, g_i_to g3, g_e_to ge]
    exact v_X5_isWord_15 hs k
  cases hs
theorem t_X5_isWord {G : sG} {d : Nat} {v0 : Nat} {v1 : Int32} {v2 : Int32} {v3 : Nat} {σ : sS} {q : Int32 × sS} (h : F_X5_isWord v0 v1 v2 v3 σ = some q) : s_T G (d + 6) M_X5_isWord [.ref v0, .int v1, .int v2, .ref v3] σ (e_I q) := by
  unfold F_X5_isWord at h
  obtain ⟨-, -, h⟩ := s_bind h
  exact s_ofV rfl (by decide) (Nat.le_of_ble_eq_true rfl) rfl rfl (s_run_ind (V := fun x r => s_V G (d + 6) M_X5_isWord [.ref v0, .int v1, .int v2, .ref v3] σ Y_X5_isWord x (e_I r)) (fun x z r hs hk => v_X5_isWord hs (by cases z <;> exact hk)) h)
/-! X2_makeAtom -/
noncomputable def T_X2_makeAtom_0 (v0 : Nat) (v1 : Int32) (v2 : Int32) (σ : sS) : Option (sZ Int32) :=
  (F_X2_make v0 0 v1 v2 σ).bind fun q1 =>
  some (.inr (q1.1, q1.2))
noncomputable def U_X2_makeAtom_0 (vs : List Value) (σ : sS) : Option (sZ Int32) := (g_r vs).bind fun a0 => (g_i a0.2).bind fun a1 => (g_i a1.2).bind fun a2 => (g_e a2.2).bind fun _ => T_X2_makeAtom_0 a0.1 a1.1 a2.1 σ
noncomputable def S_X2_makeAtom (x : sL) : Option (sZ Int32) := if x.1 = 0 then U_X2_makeAtom_0 x.2.1 x.2.2 else none
def Y_X2_makeAtom (pc : Nat) : List Nat := if pc = 0 then [0, 1, 2] else []
noncomputable def F_X2_makeAtom (v0 : Nat) (v1 : Int32) (v2 : Int32) (σ : sS) : Option (Int32 × sS) := (s_is σ v0 2).bind fun _ => s_run S_X2_makeAtom (0, [.ref v0, .int v1, .int v2], σ)
theorem l_X2_makeAtom_0 {v0 : Nat} {v1 : Int32} {v2 : Int32} {σ : sS} {z : sZ Int32} (hf : T_X2_makeAtom_0 v0 v1 v2 σ = some z) : s_lz σ z := by
  unfold T_X2_makeAtom_0 at hf
  obtain ⟨q1, hh, hf⟩ := s_bind hf
  refine s_lz.tr (l_X2_make hh) ?_
  cases hf
  exact s_le.rf
theorem l_X2_makeAtom_s {x : sL} {z : sZ Int32} (hs : S_X2_makeAtom x = some z) : s_lz x.2.2 z := by
  obtain ⟨pc, vs, σ⟩ := x
  unfold S_X2_makeAtom at hs
  dsimp only at hs ⊢
  rcases s_ite hs with ⟨c, hs⟩ | ⟨-, hs⟩
  · subst c
    unfold U_X2_makeAtom_0 at hs
    obtain ⟨a0, g0, hs⟩ := s_bind hs
    obtain ⟨a1, g1, hs⟩ := s_bind hs
    obtain ⟨a2, g2, hs⟩ := s_bind hs
    obtain ⟨u9, ge, hs⟩ := s_bind hs
    exact l_X2_makeAtom_0 hs
  cases hs
theorem l_X2_makeAtom {v0 : Nat} {v1 : Int32} {v2 : Int32} {σ : sS} {q : Int32 × sS} (h : F_X2_makeAtom v0 v1 v2 σ = some q) : s_le σ q.2 := by
  unfold F_X2_makeAtom at h
  obtain ⟨-, -, h⟩ := s_bind h
  exact s_run_ind (V := fun x r => s_le x.2.2 r.2) (fun x z r hs hk => by
    have h9 := l_X2_makeAtom_s hs
    cases z with
    | inl y => exact s_le.tr h9 hk
    | inr q => cases hk; exact h9) h
theorem b_X2_makeAtom {v0 : Nat} {v1 : Int32} {v2 : Int32} {σ : sS} {q : Int32 × sS} (h : F_X2_makeAtom v0 v1 v2 σ = some q) : ∃ fs, σ.1 v0 = some (.inr (2, fs)) := by
  unfold F_X2_makeAtom at h
  obtain ⟨u, hu, -⟩ := s_bind h
  exact s_is_to hu
set_option maxRecDepth 100000 in
set_option maxHeartbeats 4000000 in
theorem v_X2_makeAtom_0 {G : sG} {d : Nat} {vs0 : List Value} {σ0 : sS} {v0 : Nat} {v1 : Int32} {v2 : Int32} {σ : sS} {z : sZ Int32} {r : Int32 × sS} (hf : T_X2_makeAtom_0 v0 v1 v2 σ = some z) (k : s_K G (d + 4) M_X2_makeAtom vs0 σ0 Y_X2_makeAtom e_I z r) : s_V G (d + 4) M_X2_makeAtom vs0 σ0 Y_X2_makeAtom (0, [.ref v0, .int v1, .int v2], σ) (e_I r) := by
  have le0 : s_le σ (e_I r).2 := s_lek hem_I (l_X2_makeAtom_0 hf) k
  refine ⟨le0, ?_⟩
  intro p e s m below meth c H locs cells slots ls X I hn1 hn2 hl
  have hn : cells + σ0.2.1 ≤ σ.2.1 ∧ slots + σ0.2.2.1 ≤ σ.2.2.1 := ⟨hn1, hn2⟩
  have hl : lv_has ls 3 [(0, .ref v0), (1, .int v1), (2, .int v2)] := hl
  have hx := X.1
  have hb : c.code = cX2_makeAtom := X.2.1
  have hown : s.vm.findClass RX2 = some m.cls := X.2.2.2.2.2.1
  have hts := X.2.2.2.2.2.2.1
  refine W.eq (g2 := F0 m 0 ls []) rfl ?_
  unfold T_X2_makeAtom_0 at hf
  obtain ⟨q1, h1, hf⟩ := s_bind hf
  cases hf
  have k : _ = r := k
  subst k
  have le2 : s_le q1.2 q1.2 := s_le.rf
  refine lv_aload_n hx hb dX2_makeAtom_0 rfl (lv_at hl 0 rfl) ?_
  refine lv_iconst (v := 0) hx hb dX2_makeAtom_1 (by decide) ?_
  refine lv_iload_n hx hb dX2_makeAtom_2 rfl (lv_at hl 1 rfl) ?_
  refine lv_iload_n hx hb dX2_makeAtom_3 rfl (lv_at hl 2 rfl) ?_
  refine r_callV (Y := M_X2_make) (v := some (.int q1.1)) X I w_846 my_X2_make (by omega) (t_X2_make (G := G) (d := d + 0) h1) (b_X2_make h1) rfl rfl hl.1 rfl (Nat.le_of_ble_eq_true rfl) hn le2 dX2_makeAtom_4 (fun H locs cells slots I hn1 hn2 => ?_)
  have I : s_I G q1.2 s H locs := I
  have hn : cells + σ0.2.1 ≤ q1.2.2.1 ∧ slots + σ0.2.2.1 ≤ q1.2.2.2.1 := ⟨hn1, hn2⟩
  exact r_iret X I rfl rfl rfl hn dX2_makeAtom_7
theorem v_X2_makeAtom {G : sG} {d : Nat} {vs0 : List Value} {σ0 : sS} {x : sL} {z : sZ Int32} {r : Int32 × sS} (hs : S_X2_makeAtom x = some z) (k : s_K G (d + 4) M_X2_makeAtom vs0 σ0 Y_X2_makeAtom e_I z r) : s_V G (d + 4) M_X2_makeAtom vs0 σ0 Y_X2_makeAtom x (e_I r) := by
  obtain ⟨pc, vs, σ⟩ := x
  unfold S_X2_makeAtom at hs
  dsimp only at hs
  rcases s_ite hs with ⟨c, hs⟩ | ⟨-, hs⟩
  · subst c
    unfold U_X2_makeAtom_0 at hs
    obtain ⟨a0, g0, hs⟩ := s_bind hs
    obtain ⟨a1, g1, hs⟩ := s_bind hs
    obtain ⟨a2, g2, hs⟩ := s_bind hs
    obtain ⟨u9, ge, hs⟩ := s_bind hs
    rw [g_r_to g0, g_i_to g1, g_i_to g2, g_e_to ge]
    exact v_X2_makeAtom_0 hs k
  cases hs
theorem t_X2_makeAtom {G : sG} {d : Nat} {v0 : Nat} {v1 : Int32} {v2 : Int32} {σ : sS} {q : Int32 × sS} (h : F_X2_makeAtom v0 v1 v2 σ = some q) : s_T G (d + 4) M_X2_makeAtom [.ref v0, .int v1, .int v2] σ (e_I q) := by
  unfold F_X2_makeAtom at h
  obtain ⟨-, -, h⟩ := s_bind h
  exact s_ofV rfl (by decide) (Nat.le_of_ble_eq_true rfl) rfl rfl (s_run_ind (V := fun x r => s_V G (d + 4) M_X2_makeAtom [.ref v0, .int v1, .int v2] σ Y_X2_makeAtom x (e_I r)) (fun x z r hs hk => v_X2_makeAtom hs (by cases z <;> exact hk)) h)
/-! X2_place -/
noncomputable def T_X2_place_0 (f_X2_place : Nat → Int32 → Int32 → Int32 → sS → Option (Int32 × sS)) (v0 : Nat) (v1 : Int32) (v2 : Int32) (v3 : Int32) (σ : sS) : Option (sZ Int32) :=
  if v1 < 0 then (some (.inr ((-1), σ)))
  else ((s_fi σ v0 2 0).bind fun x1 =>
  if x1 ≤ v1 then (some (.inr ((-1), σ)))
  else (if v3 ≤ 48 then ((s_fr σ v0 2 1).bind fun x2 =>
  (s_ai σ x2 v1).bind fun x3 =>
  if x3 = 0 then ((s_fr σ v0 2 3).bind fun x4 =>
  (s_ai σ x4 v1).bind fun x5 =>
  if x5 = 3 then ((s_fr σ v0 2 2).bind fun x6 =>
  (s_ai σ x6 v1).bind fun x7 =>
  (F_X2_makeAtom v0 x7 v2 σ).bind fun q8 =>
  some (.inr (q8.1, q8.2)))
  else (some (.inr (v1, σ))))
  else if x3 = 1 then ((s_fr σ v0 2 2).bind fun x9 =>
  (s_ai σ x9 v1).bind fun x10 =>
  (f_X2_place v0 x10 v2 (v3 + 1) σ).bind fun q11 =>
  (F_X2_make v0 1 q11.1 (-1) q11.2).bind fun q12 =>
  some (.inr (q12.1, q12.2)))
  else if x3 = 2 then (some (.inl (107, [.ref v0, .int v1, .int v2, .int v3], σ)))
  else if x3 = 3 then (some (.inl (107, [.ref v0, .int v1, .int v2, .int v3], σ)))
  else if x3 = 4 then (some (.inl (107, [.ref v0, .int v1, .int v2, .int v3], σ)))
  else (some (.inr (v1, σ))))
  else (some (.inr ((-1), σ)))))
noncomputable def U_X2_place_0 (f_X2_place : Nat → Int32 → Int32 → Int32 → sS → Option (Int32 × sS)) (vs : List Value) (σ : sS) : Option (sZ Int32) := (g_r vs).bind fun a0 => (g_i a0.2).bind fun a1 => (g_i a1.2).bind fun a2 => (g_i a2.2).bind fun a3 => (g_e a3.2).bind fun _ => T_X2_place_0 f_X2_place a0.1 a1.1 a2.1 a3.1 σ
noncomputable def T_X2_place_107 (f_X2_place : Nat → Int32 → Int32 → Int32 → sS → Option (Int32 × sS)) (v0 : Nat) (v1 : Int32) (v2 : Int32) (v3 : Int32) (σ : sS) : Option (sZ Int32) :=
  (s_fr σ v0 2 2).bind fun x1 =>
  (s_ai σ x1 v1).bind fun x2 =>
  (f_X2_place v0 x2 v2 (v3 + 1) σ).bind fun q3 =>
  (s_fr q3.2 v0 2 3).bind fun x4 =>
  (s_ai q3.2 x4 v1).bind fun x5 =>
  (f_X2_place v0 x5 v2 (v3 + 1) q3.2).bind fun q6 =>
  (s_fr q6.2 v0 2 1).bind fun x7 =>
  (s_ai q6.2 x7 v1).bind fun x8 =>
  (F_X2_make v0 x8 q3.1 q6.1 q6.2).bind fun q9 =>
  some (.inr (q9.1, q9.2))
noncomputable def U_X2_place_107 (f_X2_place : Nat → Int32 → Int32 → Int32 → sS → Option (Int32 × sS)) (vs : List Value) (σ : sS) : Option (sZ Int32) := (g_r vs).bind fun a0 => (g_i a0.2).bind fun a1 => (g_i a1.2).bind fun a2 => (g_i a2.2).bind fun a3 => (g_e a3.2).bind fun _ => T_X2_place_107 f_X2_place a0.1 a1.1 a2.1 a3.1 σ
noncomputable def S_X2_place (f_X2_place : Nat → Int32 → Int32 → Int32 → sS → Option (Int32 × sS)) (x : sL) : Option (sZ Int32) := if x.1 = 0 then U_X2_place_0 f_X2_place x.2.1 x.2.2 else if x.1 = 107 then U_X2_place_107 f_X2_place x.2.1 x.2.2 else none
def Y_X2_place (pc : Nat) : List Nat := if pc = 0 then [0, 1, 2, 3] else if pc = 107 then [0, 1, 2, 3] else []
noncomputable def Q_X2_place : Nat → (Nat → Int32 → Int32 → Int32 → sS → Option (Int32 × sS))
  | 0 => (fun _ _ _ _ _ => none)
  | k + 1 => (fun v0 v1 v2 v3 σ => (s_is σ v0 2).bind fun _ => s_run (S_X2_place (Q_X2_place k)) (0, [.ref v0, .int v1, .int v2, .int v3], σ))
noncomputable def F_X2_place (k : Nat) : Nat → Int32 → Int32 → Int32 → sS → Option (Int32 × sS) := (Q_X2_place k)
theorem l_X2_place_0 (f_X2_place : Nat → Int32 → Int32 → Int32 → sS → Option (Int32 × sS)) (lG_X2_place : ∀ {y0 : Nat} {y1 : Int32} {y2 : Int32} {y3 : Int32} {σ : sS} {q : Int32 × sS}, f_X2_place y0 y1 y2 y3 σ = some q → s_le σ q.2) {v0 : Nat} {v1 : Int32} {v2 : Int32} {v3 : Int32} {σ : sS} {z : sZ Int32} (hf : T_X2_place_0 f_X2_place v0 v1 v2 v3 σ = some z) : s_lz σ z := by
  unfold T_X2_place_0 at hf
  rcases s_ite hf with ⟨-, hf⟩ | ⟨-, hf⟩
  · cases hf
    exact s_le.rf
  · obtain ⟨x1, -, hf⟩ := s_bind hf
    rcases s_ite hf with ⟨-, hf⟩ | ⟨-, hf⟩
    · cases hf
      exact s_le.rf
    · rcases s_ite hf with ⟨-, hf⟩ | ⟨-, hf⟩
      · obtain ⟨x2, -, hf⟩ := s_bind hf
        obtain ⟨x3, -, hf⟩ := s_bind hf
        rcases s_ite hf with ⟨-, hf⟩ | ⟨-, hf⟩
        · obtain ⟨x4, -, hf⟩ := s_bind hf
          obtain ⟨x5, -, hf⟩ := s_bind hf
          rcases s_ite hf with ⟨-, hf⟩ | ⟨-, hf⟩
          · obtain ⟨x6, -, hf⟩ := s_bind hf
            obtain ⟨x7, -, hf⟩ := s_bind hf
            obtain ⟨q8, hh, hf⟩ := s_bind hf
            refine s_lz.tr (l_X2_makeAtom hh) ?_
            cases hf
            exact s_le.rf
          · cases hf
            exact s_le.rf
        rcases s_ite hf with ⟨-, hf⟩ | ⟨-, hf⟩
        · obtain ⟨x9, -, hf⟩ := s_bind hf
          obtain ⟨x10, -, hf⟩ := s_bind hf
          obtain ⟨q11, hh, hf⟩ := s_bind hf
          refine s_lz.tr (lG_X2_place hh) ?_
          obtain ⟨q12, hh, hf⟩ := s_bind hf
          refine s_lz.tr (l_X2_make hh) ?_
          cases hf
          exact s_le.rf
        rcases s_ite hf with ⟨-, hf⟩ | ⟨-, hf⟩
        · cases hf
          exact s_le.rf
        rcases s_ite hf with ⟨-, hf⟩ | ⟨-, hf⟩
        · cases hf
          exact s_le.rf
        rcases s_ite hf with ⟨-, hf⟩ | ⟨-, hf⟩
        · cases hf
          exact s_le.rf
        cases hf
        exact s_le.rf
      · cases hf
        exact s_le.rf
theorem l_X2_place_107 (f_X2_place : Nat → Int32 → Int32 → Int32 → sS → Option (Int32 × sS)) (lG_X2_place : ∀ {y0 : Nat} {y1 : Int32} {y2 : Int32} {y3 : Int32} {σ : sS} {q : Int32 × sS}, f_X2_place y0 y1 y2 y3 σ = some q → s_le σ q.2) {v0 : Nat} {v1 : Int32} {v2 : Int32} {v3 : Int32} {σ : sS} {z : sZ Int32} (hf : T_X2_place_107 f_X2_place v0 v1 v2 v3 σ = some z) : s_lz σ z := by
  unfold T_X2_place_107 at hf
  obtain ⟨x1, -, hf⟩ := s_bind hf
  obtain ⟨x2, -, hf⟩ := s_bind hf
  obtain ⟨q3, hh, hf⟩ := s_bind hf
  refine s_lz.tr (lG_X2_place hh) ?_
  obtain ⟨x4, -, hf⟩ := s_bind hf
  obtain ⟨x5, -, hf⟩ := s_bind hf
  obtain ⟨q6, hh, hf⟩ := s_bind hf
  refine s_lz.tr (lG_X2_place hh) ?_
  obtain ⟨x7, -, hf⟩ := s_bind hf
  obtain ⟨x8, -, hf⟩ := s_bind hf
  obtain ⟨q9, hh, hf⟩ := s_bind hf
  refine s_lz.tr (l_X2_make hh) ?_
  cases hf
  exact s_le.rf
theorem l_X2_place_s (f_X2_place : Nat → Int32 → Int32 → Int32 → sS → Option (Int32 × sS)) (lG_X2_place : ∀ {y0 : Nat} {y1 : Int32} {y2 : Int32} {y3 : Int32} {σ : sS} {q : Int32 × sS}, f_X2_place y0 y1 y2 y3 σ = some q → s_le σ q.2) {x : sL} {z : sZ Int32} (hs : S_X2_place f_X2_place x = some z) : s_lz x.2.2 z := by
  obtain ⟨pc, vs, σ⟩ := x
  unfold S_X2_place at hs
  dsimp only at hs ⊢
  rcases s_ite hs with ⟨c, hs⟩ | ⟨-, hs⟩
  · subst c
    unfold U_X2_place_0 at hs
    obtain ⟨a0, g0, hs⟩ := s_bind hs
    obtain ⟨a1, g1, hs⟩ := s_bind hs
    obtain ⟨a2, g2, hs⟩ := s_bind hs
    obtain ⟨a3, g3, hs⟩ := s_bind hs
    obtain ⟨u9, ge, hs⟩ := s_bind hs
    exact l_X2_place_0 f_X2_place lG_X2_place hs
  rcases s_ite hs with ⟨c, hs⟩ | ⟨-, hs⟩
  · subst c
    unfold U_X2_place_107 at hs
    obtain ⟨a0, g0, hs⟩ := s_bind hs
    obtain ⟨a1, g1, hs⟩ := s_bind hs
    obtain ⟨a2, g2, hs⟩ := s_bind hs
    obtain ⟨a3, g3, hs⟩ := s_bind hs
    obtain ⟨u9, ge, hs⟩ := s_bind hs
    exact l_X2_place_107 f_X2_place lG_X2_place hs
  cases hs
set_option maxRecDepth 100000 in
set_option maxHeartbeats 4000000 in
theorem v_X2_place_0 (f_X2_place : Nat → Int32 → Int32 → Int32 → sS → Option (Int32 × sS)) {G : sG} {d : Nat} (lG_X2_place : ∀ {y0 : Nat} {y1 : Int32} {y2 : Int32} {y3 : Int32} {σ : sS} {q : Int32 × sS}, f_X2_place y0 y1 y2 y3 σ = some q → s_le σ q.2) (hG_X2_place : ∀ {y0 : Nat} {y1 : Int32} {y2 : Int32} {y3 : Int32} {σ : sS} {q : Int32 × sS}, f_X2_place y0 y1 y2 y3 σ = some q → s_T G (d + 5) M_X2_place [.ref y0, .int y1, .int y2, .int y3] σ (e_I q) ∧ ∃ fs, σ.1 y0 = some (.inr (2, fs))) {vs0 : List Value} {σ0 : sS} {v0 : Nat} {v1 : Int32} {v2 : Int32} {v3 : Int32} {σ : sS} {z : sZ Int32} {r : Int32 × sS} (hf : T_X2_place_0 f_X2_place v0 v1 v2 v3 σ = some z) (k : s_K G (d + 6) M_X2_place vs0 σ0 Y_X2_place e_I z r) : s_V G (d + 6) M_X2_place vs0 σ0 Y_X2_place (0, [.ref v0, .int v1, .int v2, .int v3], σ) (e_I r) := by
  have le0 : s_le σ (e_I r).2 := s_lek hem_I (l_X2_place_0 f_X2_place lG_X2_place hf) k
  refine ⟨le0, ?_⟩
  intro p e s m below meth c H locs cells slots ls X I hn1 hn2 hl
  have hn : cells + σ0.2.1 ≤ σ.2.1 ∧ slots + σ0.2.2.1 ≤ σ.2.2.1 := ⟨hn1, hn2⟩
  have hl : lv_has ls 6 [(0, .ref v0), (1, .int v1), (2, .int v2), (3, .int v3)] := hl
  have hx := X.1
  have hb : c.code = cX2_place := X.2.1
  have hown : s.vm.findClass RX2 = some m.cls := X.2.2.2.2.2.1
  have hts := X.2.2.2.2.2.2.1
  refine W.eq (g2 := F0 m 0 ls []) rfl ?_
  unfold T_X2_place_0 at hf
  refine lv_iload_n hx hb dX2_place_0 rfl (lv_at hl 1 rfl) ?_
  rcases s_ite hf with ⟨c1, hf⟩ | ⟨c1, hf⟩
  · refine lv_if_lt (tgt := 18) hx hb dX2_place_1 (by decide) (fun _ => ?_) (fun n => absurd c1 n)
    cases hf
    have k : _ = r := k
    subst k
    refine lv_iconst (v := (-1)) hx hb dX2_place_18 (by decide) ?_
    exact r_iret X I rfl rfl rfl hn dX2_place_19
  · refine lv_if_lt (tgt := 18) hx hb dX2_place_1 (by decide) (fun n => absurd n c1) (fun _ => ?_)
    obtain ⟨x1, h2, hf⟩ := s_bind hf
    refine lv_iload_n hx hb dX2_place_4 rfl (lv_at hl 1 rfl) ?_
    refine lv_aload_n hx hb dX2_place_5 rfl (lv_at hl 0 rfl) ?_
    refine r_gi X I fl_X2_39 h2 dX2_place_6 ?_
    rcases s_ite hf with ⟨c3, hf⟩ | ⟨c3, hf⟩
    · refine lv_icmp_ge (tgt := 18) hx hb dX2_place_9 (by decide) (fun _ => ?_) (fun n => absurd c3 n)
      cases hf
      have k : _ = r := k
      subst k
      refine lv_iconst (v := (-1)) hx hb dX2_place_18 (by decide) ?_
      exact r_iret X I rfl rfl rfl hn dX2_place_19
    · refine lv_icmp_ge (tgt := 18) hx hb dX2_place_9 (by decide) (fun n => absurd n c3) (fun _ => ?_)
      refine lv_iload_n hx hb dX2_place_12 rfl (lv_at hl 3 rfl) ?_
      refine lv_bipush (v := 48) hx hb dX2_place_13 (by decide) ?_
      rcases s_ite hf with ⟨c4, hf⟩ | ⟨c4, hf⟩
      · refine lv_icmp_le (tgt := 20) hx hb dX2_place_15 (by decide) (fun _ => ?_) (fun n => absurd c4 n)
        obtain ⟨x2, h5, hf⟩ := s_bind hf
        obtain ⟨x3, h6, hf⟩ := s_bind hf
        refine lv_aload_n hx hb dX2_place_20 rfl (lv_at hl 0 rfl) ?_
        refine r_gr X I fl_X2_11 h5 dX2_place_21 ?_
        refine lv_iload_n hx hb dX2_place_24 rfl (lv_at hl 1 rfl) ?_
        refine r_iald X I h6 dX2_place_25 ?_
        rcases s_ite hf with ⟨c7, hf⟩ | ⟨c7, hf⟩
        · refine lv_tableIn (tgt := 60) (off := 34) hx hb dX2_place_26 (by rw [c7]; decide) (by rw [c7]; decide) (by rw [c7]; rfl) (by decide) ?_
          obtain ⟨x4, h8, hf⟩ := s_bind hf
          obtain ⟨x5, h9, hf⟩ := s_bind hf
          refine lv_aload_n hx hb dX2_place_60 rfl (lv_at hl 0 rfl) ?_
          refine r_gr X I fl_X2_18 h8 dX2_place_61 ?_
          refine lv_iload_n hx hb dX2_place_64 rfl (lv_at hl 1 rfl) ?_
          refine r_iald X I h9 dX2_place_65 ?_
          refine lv_iconst (v := 3) hx hb dX2_place_66 (by decide) ?_
          rcases s_ite hf with ⟨c10, hf⟩ | ⟨c10, hf⟩
          · refine lv_icmp_ne (tgt := 84) hx hb dX2_place_67 (by decide) (fun n => absurd c10 n) (fun _ => ?_)
            obtain ⟨x6, h11, hf⟩ := s_bind hf
            obtain ⟨x7, h12, hf⟩ := s_bind hf
            obtain ⟨q8, h13, hf⟩ := s_bind hf
            cases hf
            have k : _ = r := k
            subst k
            have le14 : s_le q8.2 q8.2 := s_le.rf
            refine lv_aload_n hx hb dX2_place_70 rfl (lv_at hl 0 rfl) ?_
            refine lv_aload_n hx hb dX2_place_71 rfl (lv_at hl 0 rfl) ?_
            refine r_gr X I fl_X2_15 h11 dX2_place_72 ?_
            refine lv_iload_n hx hb dX2_place_75 rfl (lv_at hl 1 rfl) ?_
            refine r_iald X I h12 dX2_place_76 ?_
            refine lv_iload_n hx hb dX2_place_77 rfl (lv_at hl 2 rfl) ?_
            refine r_callV (Y := M_X2_makeAtom) (v := some (.int q8.1)) X I w_851 my_X2_makeAtom (by omega) (t_X2_makeAtom (G := G) (d := d + 1) h13) (b_X2_makeAtom h13) rfl rfl hl.1 rfl (Nat.le_of_ble_eq_true rfl) hn le14 dX2_place_78 (fun H locs cells slots I hn1 hn2 => ?_)
            have I : s_I G q8.2 s H locs := I
            have hn : cells + σ0.2.1 ≤ q8.2.2.1 ∧ slots + σ0.2.2.1 ≤ q8.2.2.2.1 := ⟨hn1, hn2⟩
            refine lv_goto (tgt := 85) hx hb dX2_place_81 (by decide) ?_
            exact r_iret X I rfl rfl rfl hn dX2_place_85
          · refine lv_icmp_ne (tgt := 84) hx hb dX2_place_67 (by decide) (fun _ => ?_) (fun n => absurd n c10)
            cases hf
            have k : _ = r := k
            subst k
            refine lv_iload_n hx hb dX2_place_84 rfl (lv_at hl 1 rfl) ?_
            exact r_iret X I rfl rfl rfl hn dX2_place_85
        rcases s_ite hf with ⟨c15, hf⟩ | ⟨c15, hf⟩
        · refine lv_tableIn (tgt := 86) (off := 60) hx hb dX2_place_26 (by rw [c15]; decide) (by rw [c15]; decide) (by rw [c15]; rfl) (by decide) ?_
          obtain ⟨x9, h16, hf⟩ := s_bind hf
          obtain ⟨x10, h17, hf⟩ := s_bind hf
          obtain ⟨q11, h18, hf⟩ := s_bind hf
          obtain ⟨q12, h19, hf⟩ := s_bind hf
          cases hf
          have k : _ = r := k
          subst k
          have le20 : s_le q12.2 q12.2 := s_le.rf
          have le21 := s_le.tr (l_X2_make h19) le20
          refine lv_aload_n hx hb dX2_place_86 rfl (lv_at hl 0 rfl) ?_
          refine lv_iconst (v := 1) hx hb dX2_place_87 (by decide) ?_
          refine lv_aload_n hx hb dX2_place_88 rfl (lv_at hl 0 rfl) ?_
          refine lv_aload_n hx hb dX2_place_89 rfl (lv_at hl 0 rfl) ?_
          refine r_gr X I fl_X2_15 h16 dX2_place_90 ?_
          refine lv_iload_n hx hb dX2_place_93 rfl (lv_at hl 1 rfl) ?_
          refine r_iald X I h17 dX2_place_94 ?_
          refine lv_iload_n hx hb dX2_place_95 rfl (lv_at hl 2 rfl) ?_
          refine lv_iload_n hx hb dX2_place_96 rfl (lv_at hl 3 rfl) ?_
          refine lv_iconst (v := 1) hx hb dX2_place_97 (by decide) ?_
          refine lv_iadd hx hb dX2_place_98 ?_
          refine r_callV (Y := M_X2_place) (v := some (.int q11.1)) X I w_847 my_X2_place (by omega) (hG_X2_place h18).1 (hG_X2_place h18).2 rfl rfl hl.1 rfl (Nat.le_of_ble_eq_true rfl) hn le21 dX2_place_99 (fun H locs cells slots I hn1 hn2 => ?_)
          have I : s_I G q11.2 s H locs := I
          have hn : cells + σ0.2.1 ≤ q11.2.2.1 ∧ slots + σ0.2.2.1 ≤ q11.2.2.2.1 := ⟨hn1, hn2⟩
          refine lv_iconst (v := (-1)) hx hb dX2_place_102 (by decide) ?_
          refine r_callV (Y := M_X2_make) (v := some (.int q12.1)) X I w_846 my_X2_make (by omega) (t_X2_make (G := G) (d := d + 2) h19) (b_X2_make h19) rfl rfl hl.1 rfl (Nat.le_of_ble_eq_true rfl) hn le20 dX2_place_103 (fun H locs cells slots I hn1 hn2 => ?_)
          have I : s_I G q12.2 s H locs := I
          have hn : cells + σ0.2.1 ≤ q12.2.2.1 ∧ slots + σ0.2.2.1 ≤ q12.2.2.2.1 := ⟨hn1, hn2⟩
          exact r_iret X I rfl rfl rfl hn dX2_place_106
        rcases s_ite hf with ⟨c22, hf⟩ | ⟨c22, hf⟩
        · refine lv_tableIn (tgt := 107) (off := 81) hx hb dX2_place_26 (by rw [c22]; decide) (by rw [c22]; decide) (by rw [c22]; rfl) (by decide) ?_
          cases hf
          have k : s_V G (d + 6) M_X2_place vs0 σ0 Y_X2_place (107, [.ref v0, .int v1, .int v2, .int v3], σ) (e_I r) := k
          exact k.2 p e s m below meth c _ _ _ _ _ X I hn.1 hn.2 (lv_sub hl [0, 1, 2, 3] rfl)
        rcases s_ite hf with ⟨c23, hf⟩ | ⟨c23, hf⟩
        · refine lv_tableIn (tgt := 107) (off := 81) hx hb dX2_place_26 (by rw [c23]; decide) (by rw [c23]; decide) (by rw [c23]; rfl) (by decide) ?_
          cases hf
          have k : s_V G (d + 6) M_X2_place vs0 σ0 Y_X2_place (107, [.ref v0, .int v1, .int v2, .int v3], σ) (e_I r) := k
          exact k.2 p e s m below meth c _ _ _ _ _ X I hn.1 hn.2 (lv_sub hl [0, 1, 2, 3] rfl)
        rcases s_ite hf with ⟨c24, hf⟩ | ⟨c24, hf⟩
        · refine lv_tableIn (tgt := 107) (off := 81) hx hb dX2_place_26 (by rw [c24]; decide) (by rw [c24]; decide) (by rw [c24]; rfl) (by decide) ?_
          cases hf
          have k : s_V G (d + 6) M_X2_place vs0 σ0 Y_X2_place (107, [.ref v0, .int v1, .int v2, .int v3], σ) (e_I r) := k
          exact k.2 p e s m below meth c _ _ _ _ _ X I hn.1 hn.2 (lv_sub hl [0, 1, 2, 3] rfl)
        refine lv_tableOut (tgt := 154) hx hb dX2_place_26 (by
            have tc7 := lv_neT (a := 0) c7 (by decide)
            have tc15 := lv_neT (a := 1) c15 (by decide)
            have tc22 := lv_neT (a := 2) c22 (by decide)
            have tc23 := lv_neT (a := 3) c23 (by decide)
            have tc24 := lv_neT (a := 4) c24 (by decide)
            omega) (by decide) ?_
        cases hf
        have k : _ = r := k
        subst k
        refine lv_iload_n hx hb dX2_place_154 rfl (lv_at hl 1 rfl) ?_
        exact r_iret X I rfl rfl rfl hn dX2_place_155
      · refine lv_icmp_le (tgt := 20) hx hb dX2_place_15 (by decide) (fun n => absurd n c4) (fun _ => ?_)
        cases hf
        have k : _ = r := k
        subst k
        refine lv_iconst (v := (-1)) hx hb dX2_place_18 (by decide) ?_
        exact r_iret X I rfl rfl rfl hn dX2_place_19
set_option maxRecDepth 100000 in
set_option maxHeartbeats 4000000 in
theorem v_X2_place_107 (f_X2_place : Nat → Int32 → Int32 → Int32 → sS → Option (Int32 × sS)) {G : sG} {d : Nat} (lG_X2_place : ∀ {y0 : Nat} {y1 : Int32} {y2 : Int32} {y3 : Int32} {σ : sS} {q : Int32 × sS}, f_X2_place y0 y1 y2 y3 σ = some q → s_le σ q.2) (hG_X2_place : ∀ {y0 : Nat} {y1 : Int32} {y2 : Int32} {y3 : Int32} {σ : sS} {q : Int32 × sS}, f_X2_place y0 y1 y2 y3 σ = some q → s_T G (d + 5) M_X2_place [.ref y0, .int y1, .int y2, .int y3] σ (e_I q) ∧ ∃ fs, σ.1 y0 = some (.inr (2, fs))) {vs0 : List Value} {σ0 : sS} {v0 : Nat} {v1 : Int32} {v2 : Int32} {v3 : Int32} {σ : sS} {z : sZ Int32} {r : Int32 × sS} (hf : T_X2_place_107 f_X2_place v0 v1 v2 v3 σ = some z) (k : s_K G (d + 6) M_X2_place vs0 σ0 Y_X2_place e_I z r) : s_V G (d + 6) M_X2_place vs0 σ0 Y_X2_place (107, [.ref v0, .int v1, .int v2, .int v3], σ) (e_I r) := by
  have le0 : s_le σ (e_I r).2 := s_lek hem_I (l_X2_place_107 f_X2_place lG_X2_place hf) k
  refine ⟨le0, ?_⟩
  intro p e s m below meth c H locs cells slots ls X I hn1 hn2 hl
  have hn : cells + σ0.2.1 ≤ σ.2.1 ∧ slots + σ0.2.2.1 ≤ σ.2.2.1 := ⟨hn1, hn2⟩
  have hl : lv_has ls 6 [(0, .ref v0), (1, .int v1), (2, .int v2), (3, .int v3)] := hl
  have hx := X.1
  have hb : c.code = cX2_place := X.2.1
  have hown : s.vm.findClass RX2 = some m.cls := X.2.2.2.2.2.1
  have hts := X.2.2.2.2.2.2.1
  refine W.eq (g2 := F0 m 107 ls []) rfl ?_
  unfold T_X2_place_107 at hf
  obtain ⟨x1, h1, hf⟩ := s_bind hf
  obtain ⟨x2, h2, hf⟩ := s_bind hf
  obtain ⟨q3, h3, hf⟩ := s_bind hf
  obtain ⟨x4, h4, hf⟩ := s_bind hf
  obtain ⟨x5, h5, hf⟩ := s_bind hf
  obtain ⟨q6, h6, hf⟩ := s_bind hf
  obtain ⟨x7, h7, hf⟩ := s_bind hf
  obtain ⟨x8, h8, hf⟩ := s_bind hf
  obtain ⟨q9, h9, hf⟩ := s_bind hf
  cases hf
  have k : _ = r := k
  subst k
  have le10 : s_le q9.2 q9.2 := s_le.rf
  have le11 := s_le.tr (l_X2_make h9) le10
  have le12 := s_le.tr (lG_X2_place h6) le11
  refine lv_aload_n hx hb dX2_place_107 rfl (lv_at hl 0 rfl) ?_
  refine lv_aload_n hx hb dX2_place_108 rfl (lv_at hl 0 rfl) ?_
  refine r_gr X I fl_X2_15 h1 dX2_place_109 ?_
  refine lv_iload_n hx hb dX2_place_112 rfl (lv_at hl 1 rfl) ?_
  refine r_iald X I h2 dX2_place_113 ?_
  refine lv_iload_n hx hb dX2_place_114 rfl (lv_at hl 2 rfl) ?_
  refine lv_iload_n hx hb dX2_place_115 rfl (lv_at hl 3 rfl) ?_
  refine lv_iconst (v := 1) hx hb dX2_place_116 (by decide) ?_
  refine lv_iadd hx hb dX2_place_117 ?_
  refine r_callV (Y := M_X2_place) (v := some (.int q3.1)) X I w_847 my_X2_place (by omega) (hG_X2_place h3).1 (hG_X2_place h3).2 rfl rfl hl.1 rfl (Nat.le_of_ble_eq_true rfl) hn le12 dX2_place_118 (fun H locs cells slots I hn1 hn2 => ?_)
  have I : s_I G q3.2 s H locs := I
  have hn : cells + σ0.2.1 ≤ q3.2.2.1 ∧ slots + σ0.2.2.1 ≤ q3.2.2.2.1 := ⟨hn1, hn2⟩
  refine lv_istore (lv' := [(4, .int q3.1), (0, .ref v0), (1, .int v1), (2, .int v2), (3, .int v3)]) hx hb dX2_place_121 hl (by decide) rfl (fun ls hl => ?_)
  refine lv_aload_n hx hb dX2_place_123 rfl (lv_at hl 1 rfl) ?_
  refine lv_aload_n hx hb dX2_place_124 rfl (lv_at hl 1 rfl) ?_
  refine r_gr X I fl_X2_18 h4 dX2_place_125 ?_
  refine lv_iload_n hx hb dX2_place_128 rfl (lv_at hl 2 rfl) ?_
  refine r_iald X I h5 dX2_place_129 ?_
  refine lv_iload_n hx hb dX2_place_130 rfl (lv_at hl 3 rfl) ?_
  refine lv_iload_n hx hb dX2_place_131 rfl (lv_at hl 4 rfl) ?_
  refine lv_iconst (v := 1) hx hb dX2_place_132 (by decide) ?_
  refine lv_iadd hx hb dX2_place_133 ?_
  refine r_callV (Y := M_X2_place) (v := some (.int q6.1)) X I w_847 my_X2_place (by omega) (hG_X2_place h6).1 (hG_X2_place h6).2 rfl rfl hl.1 rfl (Nat.le_of_ble_eq_true rfl) hn le11 dX2_place_134 (fun H locs cells slots I hn1 hn2 => ?_)
  have I : s_I G q6.2 s H locs := I
  have hn : cells + σ0.2.1 ≤ q6.2.2.1 ∧ slots + σ0.2.2.1 ≤ q6.2.2.2.1 := ⟨hn1, hn2⟩
  refine lv_istore (lv' := [(5, .int q6.1), (4, .int q3.1), (0, .ref v0), (1, .int v1), (2, .int v2), (3, .int v3)]) hx hb dX2_place_137 hl (by decide) rfl (fun ls hl => ?_)
  refine lv_aload_n hx hb dX2_place_139 rfl (lv_at hl 2 rfl) ?_
  refine lv_aload_n hx hb dX2_place_140 rfl (lv_at hl 2 rfl) ?_
  refine r_gr X I fl_X2_11 h7 dX2_place_141 ?_
  refine lv_iload_n hx hb dX2_place_144 rfl (lv_at hl 3 rfl) ?_
  refine r_iald X I h8 dX2_place_145 ?_
  refine lv_iload hx hb dX2_place_146 (lv_at hl 1 rfl) ?_
  refine lv_iload hx hb dX2_place_148 (lv_at hl 0 rfl) ?_
  refine r_callV (Y := M_X2_make) (v := some (.int q9.1)) X I w_846 my_X2_make (by omega) (t_X2_make (G := G) (d := d + 2) h9) (b_X2_make h9) rfl rfl hl.1 rfl (Nat.le_of_ble_eq_true rfl) hn le10 dX2_place_150 (fun H locs cells slots I hn1 hn2 => ?_)
  have I : s_I G q9.2 s H locs := I
  have hn : cells + σ0.2.1 ≤ q9.2.2.1 ∧ slots + σ0.2.2.1 ≤ q9.2.2.2.1 := ⟨hn1, hn2⟩
  exact r_iret X I rfl rfl rfl hn dX2_place_153
theorem v_X2_place (f_X2_place : Nat → Int32 → Int32 → Int32 → sS → Option (Int32 × sS)) {G : sG} {d : Nat} (lG_X2_place : ∀ {y0 : Nat} {y1 : Int32} {y2 : Int32} {y3 : Int32} {σ : sS} {q : Int32 × sS}, f_X2_place y0 y1 y2 y3 σ = some q → s_le σ q.2) (hG_X2_place : ∀ {y0 : Nat} {y1 : Int32} {y2 : Int32} {y3 : Int32} {σ : sS} {q : Int32 × sS}, f_X2_place y0 y1 y2 y3 σ = some q → s_T G (d + 5) M_X2_place [.ref y0, .int y1, .int y2, .int y3] σ (e_I q) ∧ ∃ fs, σ.1 y0 = some (.inr (2, fs))) {vs0 : List Value} {σ0 : sS} {x : sL} {z : sZ Int32} {r : Int32 × sS} (hs : S_X2_place f_X2_place x = some z) (k : s_K G (d + 6) M_X2_place vs0 σ0 Y_X2_place e_I z r) : s_V G (d + 6) M_X2_place vs0 σ0 Y_X2_place x (e_I r) := by
  obtain ⟨pc, vs, σ⟩ := x
  unfold S_X2_place at hs
  dsimp only at hs
  rcases s_ite hs with ⟨c, hs⟩ | ⟨-, hs⟩
  · subst c
    unfold U_X2_place_0 at hs
    obtain ⟨a0, g0, hs⟩ := s_bind hs
    obtain ⟨a1, g1, hs⟩ := s_bind hs
    obtain ⟨a2, g2, hs⟩ := s_bind hs
    obtain ⟨a3, g3, hs⟩ := s_bind hs
    obtain ⟨u9, ge, hs⟩ := s_bind hs
    rw [g_r_to g0, g_i_to g1, g_i_to g2, g_i_to g3, g_e_to ge]
    exact v_X2_place_0 f_X2_place lG_X2_place hG_X2_place hs k
  rcases s_ite hs with ⟨c, hs⟩ | ⟨-, hs⟩
  · subst c
    unfold U_X2_place_107 at hs
    obtain ⟨a0, g0, hs⟩ := s_bind hs
    obtain ⟨a1, g1, hs⟩ := s_bind hs
    obtain ⟨a2, g2, hs⟩ := s_bind hs
    obtain ⟨a3, g3, hs⟩ := s_bind hs
    obtain ⟨u9, ge, hs⟩ := s_bind hs
    rw [g_r_to g0, g_i_to g1, g_i_to g2, g_i_to g3, g_e_to ge]
    exact v_X2_place_107 f_X2_place lG_X2_place hG_X2_place hs k
  cases hs
theorem lq_X2_place : ∀ k : Nat, (∀ {y0 : Nat} {y1 : Int32} {y2 : Int32} {y3 : Int32} {σ : sS} {q : Int32 × sS}, F_X2_place k y0 y1 y2 y3 σ = some q → s_le σ q.2) := by
  intro k
  induction k with
  | zero => exact fun h => by cases h
  | succ k ih =>
    refine ?_
    · intro y0 y1 y2 y3 σ q h
      have h : ((s_is σ y0 2).bind fun _ => s_run (S_X2_place (F_X2_place k)) (0, [.ref y0, .int y1, .int y2, .int y3], σ)) = some q := h
      obtain ⟨-, -, h⟩ := s_bind h
      exact s_run_ind (V := fun x r => s_le x.2.2 r.2) (fun x z r hs hk => by
        have h9 := l_X2_place_s (F_X2_place k) ih hs
        cases z with
        | inl y => exact s_le.tr h9 hk
        | inr q => cases hk; exact h9) h
theorem tq_X2_place {G : sG} {d : Nat} : ∀ k : Nat, (∀ {y0 : Nat} {y1 : Int32} {y2 : Int32} {y3 : Int32} {σ : sS} {q : Int32 × sS}, F_X2_place k y0 y1 y2 y3 σ = some q → s_T G (d + k + 5) M_X2_place [.ref y0, .int y1, .int y2, .int y3] σ (e_I q) ∧ ∃ fs, σ.1 y0 = some (.inr (2, fs))) := by
  intro k
  induction k with
  | zero => exact fun h => by cases h
  | succ k ih =>
    refine ?_
    · intro y0 y1 y2 y3 σ q h
      have h : ((s_is σ y0 2).bind fun _ => s_run (S_X2_place (F_X2_place k)) (0, [.ref y0, .int y1, .int y2, .int y3], σ)) = some q := h
      obtain ⟨u, hu, h⟩ := s_bind h
      refine ⟨?_, s_is_to hu⟩
      exact s_ofV (d := (d + k) + 6) rfl (by decide) (Nat.le_of_ble_eq_true rfl) rfl rfl (s_run_ind (V := fun x r => s_V G ((d + k) + 6) M_X2_place [.ref y0, .int y1, .int y2, .int y3] σ Y_X2_place x (e_I r)) (fun x z r hs hk => v_X2_place (F_X2_place k) (lq_X2_place k) ih hs (by cases z <;> exact hk)) h)
theorem l_X2_place {k : Nat} {v0 : Nat} {v1 : Int32} {v2 : Int32} {v3 : Int32} {σ : sS} {q : Int32 × sS} (h : F_X2_place k v0 v1 v2 v3 σ = some q) : s_le σ q.2 := (lq_X2_place k) h
theorem t_X2_place {G : sG} {d : Nat} {v0 : Nat} {v1 : Int32} {v2 : Int32} {v3 : Int32} {σ : sS} {q : Int32 × sS} (h : F_X2_place 64 v0 v1 v2 v3 σ = some q) : s_T G (d + 69) M_X2_place [.ref v0, .int v1, .int v2, .int v3] σ (e_I q) := ((tq_X2_place (G := G) (d := d) 64) h).1
theorem b_X2_place {v0 : Nat} {v1 : Int32} {v2 : Int32} {v3 : Int32} {σ : sS} {q : Int32 × sS} (h : F_X2_place 64 v0 v1 v2 v3 σ = some q) : ∃ fs, σ.1 v0 = some (.inr (2, fs)) := by
  have h : ((s_is σ v0 2).bind fun _ => s_run (S_X2_place (F_X2_place 63)) (0, [.ref v0, .int v1, .int v2, .int v3], σ)) = some q := h
  obtain ⟨u, hu, -⟩ := s_bind h
  exact s_is_to hu
/-! X2_makeBinder -/
noncomputable def T_X2_makeBinder_0 (v0 : Nat) (v1 : Int32) (v2 : Int32) (v3 : Int32) (σ : sS) : Option (sZ Int32) :=
  (F_X2_make v0 v1 v2 (-1) σ).bind fun q1 =>
  some (.inl (12, [.ref v0, .int v2, .int v3, .int q1.1, .int 0], q1.2))
noncomputable def U_X2_makeBinder_0 (vs : List Value) (σ : sS) : Option (sZ Int32) := (g_r vs).bind fun a0 => (g_i a0.2).bind fun a1 => (g_i a1.2).bind fun a2 => (g_i a2.2).bind fun a3 => (g_e a3.2).bind fun _ => T_X2_makeBinder_0 a0.1 a1.1 a2.1 a3.1 σ
noncomputable def T_X2_makeBinder_12 (v0 : Nat) (v2 : Int32) (v3 : Int32) (v4 : Int32) (v5 : Int32) (σ : sS) : Option (sZ Int32) :=
  if v4 = (-1) then (some (.inr (v4, σ)))
  else (if v3 ≤ v5 then (some (.inr (v4, σ)))
  else (if (3 : Int32) ≤ v5 then (some (.inr (v4, σ)))
  else ((F_X2_place 64 v0 v2 v5 0 σ).bind fun q1 =>
  (s_fr q1.2 v0 2 6).bind fun x2 =>
  (s_si q1.2 x2 ((v4 * 3) + v5) q1.1).bind fun σ3 =>
  some (.inl (12, [.ref v0, .int v2, .int v3, .int v4, .int (v5 + 1)], σ3)))))
noncomputable def U_X2_makeBinder_12 (vs : List Value) (σ : sS) : Option (sZ Int32) := (g_r vs).bind fun a0 => (g_i a0.2).bind fun a1 => (g_i a1.2).bind fun a2 => (g_i a2.2).bind fun a3 => (g_i a3.2).bind fun a4 => (g_e a4.2).bind fun _ => T_X2_makeBinder_12 a0.1 a1.1 a2.1 a3.1 a4.1 σ
noncomputable def S_X2_makeBinder (x : sL) : Option (sZ Int32) := if x.1 = 0 then U_X2_makeBinder_0 x.2.1 x.2.2 else if x.1 = 12 then U_X2_makeBinder_12 x.2.1 x.2.2 else none
def Y_X2_makeBinder (pc : Nat) : List Nat := if pc = 0 then [0, 1, 2, 3] else if pc = 12 then [0, 2, 3, 4, 5] else []
noncomputable def F_X2_makeBinder (v0 : Nat) (v1 : Int32) (v2 : Int32) (v3 : Int32) (σ : sS) : Option (Int32 × sS) := (s_is σ v0 2).bind fun _ => s_run S_X2_makeBinder (0, [.ref v0, .int v1, .int v2, .int v3], σ)
theorem l_X2_makeBinder_0 {v0 : Nat} {v1 : Int32} {v2 : Int32} {v3 : Int32} {σ : sS} {z : sZ Int32} (hf : T_X2_makeBinder_0 v0 v1 v2 v3 σ = some z) : s_lz σ z := by
  unfold T_X2_makeBinder_0 at hf
  obtain ⟨q1, hh, hf⟩ := s_bind hf
  refine s_lz.tr (l_X2_make hh) ?_
  cases hf
  exact s_le.rf
theorem l_X2_makeBinder_12 {v0 : Nat} {v2 : Int32} {v3 : Int32} {v4 : Int32} {v5 : Int32} {σ : sS} {z : sZ Int32} (hf : T_X2_makeBinder_12 v0 v2 v3 v4 v5 σ = some z) : s_lz σ z := by
  unfold T_X2_makeBinder_12 at hf
  rcases s_ite hf with ⟨-, hf⟩ | ⟨-, hf⟩
  · cases hf
    exact s_le.rf
  · rcases s_ite hf with ⟨-, hf⟩ | ⟨-, hf⟩
    · cases hf
      exact s_le.rf
    · rcases s_ite hf with ⟨-, hf⟩ | ⟨-, hf⟩
      · cases hf
        exact s_le.rf
      · obtain ⟨q1, hh, hf⟩ := s_bind hf
        refine s_lz.tr (l_X2_place hh) ?_
        obtain ⟨x2, -, hf⟩ := s_bind hf
        obtain ⟨σ3, hh, hf⟩ := s_bind hf
        refine s_lz.tr (s_le2 (s_si_2 hh)) ?_
        cases hf
        exact s_le.rf
theorem l_X2_makeBinder_s {x : sL} {z : sZ Int32} (hs : S_X2_makeBinder x = some z) : s_lz x.2.2 z := by
  obtain ⟨pc, vs, σ⟩ := x
  unfold S_X2_makeBinder at hs
  dsimp only at hs ⊢
  rcases s_ite hs with ⟨c, hs⟩ | ⟨-, hs⟩
  · subst c
    unfold U_X2_makeBinder_0 at hs
    obtain ⟨a0, g0, hs⟩ := s_bind hs
    obtain ⟨a1, g1, hs⟩ := s_bind hs
    obtain ⟨a2, g2, hs⟩ := s_bind hs
    obtain ⟨a3, g3, hs⟩ := s_bind hs
    obtain ⟨u9, ge, hs⟩ := s_bind hs
    exact l_X2_makeBinder_0 hs
  rcases s_ite hs with ⟨c, hs⟩ | ⟨-, hs⟩
  · subst c
    unfold U_X2_makeBinder_12 at hs
    obtain ⟨a0, g0, hs⟩ := s_bind hs
    obtain ⟨a1, g1, hs⟩ := s_bind hs
    obtain ⟨a2, g2, hs⟩ := s_bind hs
    obtain ⟨a3, g3, hs⟩ := s_bind hs
    obtain ⟨a4, g4, hs⟩ := s_bind hs
    obtain ⟨u9, ge, hs⟩ := s_bind hs
    exact l_X2_makeBinder_12 hs
  cases hs
theorem l_X2_makeBinder {v0 : Nat} {v1 : Int32} {v2 : Int32} {v3 : Int32} {σ : sS} {q : Int32 × sS} (h : F_X2_makeBinder v0 v1 v2 v3 σ = some q) : s_le σ q.2 := by
  unfold F_X2_makeBinder at h
  obtain ⟨-, -, h⟩ := s_bind h
  exact s_run_ind (V := fun x r => s_le x.2.2 r.2) (fun x z r hs hk => by
    have h9 := l_X2_makeBinder_s hs
    cases z with
    | inl y => exact s_le.tr h9 hk
    | inr q => cases hk; exact h9) h
theorem b_X2_makeBinder {v0 : Nat} {v1 : Int32} {v2 : Int32} {v3 : Int32} {σ : sS} {q : Int32 × sS} (h : F_X2_makeBinder v0 v1 v2 v3 σ = some q) : ∃ fs, σ.1 v0 = some (.inr (2, fs)) := by
  unfold F_X2_makeBinder at h
  obtain ⟨u, hu, -⟩ := s_bind h
  exact s_is_to hu
set_option maxRecDepth 100000 in
set_option maxHeartbeats 4000000 in
theorem v_X2_makeBinder_0 {G : sG} {d : Nat} {vs0 : List Value} {σ0 : sS} {v0 : Nat} {v1 : Int32} {v2 : Int32} {v3 : Int32} {σ : sS} {z : sZ Int32} {r : Int32 × sS} (hf : T_X2_makeBinder_0 v0 v1 v2 v3 σ = some z) (k : s_K G (d + 70) M_X2_makeBinder vs0 σ0 Y_X2_makeBinder e_I z r) : s_V G (d + 70) M_X2_makeBinder vs0 σ0 Y_X2_makeBinder (0, [.ref v0, .int v1, .int v2, .int v3], σ) (e_I r) := by
  have le0 : s_le σ (e_I r).2 := s_lek hem_I (l_X2_makeBinder_0 hf) k
  refine ⟨le0, ?_⟩
  intro p e s m below meth c H locs cells slots ls X I hn1 hn2 hl
  have hn : cells + σ0.2.1 ≤ σ.2.1 ∧ slots + σ0.2.2.1 ≤ σ.2.2.1 := ⟨hn1, hn2⟩
  have hl : lv_has ls 7 [(0, .ref v0), (1, .int v1), (2, .int v2), (3, .int v3)] := hl
  have hx := X.1
  have hb : c.code = cX2_makeBinder := X.2.1
  have hown : s.vm.findClass RX2 = some m.cls := X.2.2.2.2.2.1
  have hts := X.2.2.2.2.2.2.1
  refine W.eq (g2 := F0 m 0 ls []) rfl ?_
  unfold T_X2_makeBinder_0 at hf
  obtain ⟨q1, h1, hf⟩ := s_bind hf
  cases hf
  have k : s_V G (d + 70) M_X2_makeBinder vs0 σ0 Y_X2_makeBinder (12, [.ref v0, .int v2, .int v3, .int q1.1, .int 0], q1.2) (e_I r) := k
  have le2 : s_le q1.2 (e_I r).2 := k.1
  refine lv_aload_n hx hb dX2_makeBinder_0 rfl (lv_at hl 0 rfl) ?_
  refine lv_iload_n hx hb dX2_makeBinder_1 rfl (lv_at hl 1 rfl) ?_
  refine lv_iload_n hx hb dX2_makeBinder_2 rfl (lv_at hl 2 rfl) ?_
  refine lv_iconst (v := (-1)) hx hb dX2_makeBinder_3 (by decide) ?_
  refine r_callV (Y := M_X2_make) (v := some (.int q1.1)) X I w_846 my_X2_make (by omega) (t_X2_make (G := G) (d := d + 66) h1) (b_X2_make h1) rfl rfl hl.1 rfl (Nat.le_of_ble_eq_true rfl) hn le2 dX2_makeBinder_4 (fun H locs cells slots I hn1 hn2 => ?_)
  have I : s_I G q1.2 s H locs := I
  have hn : cells + σ0.2.1 ≤ q1.2.2.1 ∧ slots + σ0.2.2.1 ≤ q1.2.2.2.1 := ⟨hn1, hn2⟩
  refine lv_istore (lv' := [(4, .int q1.1), (0, .ref v0), (1, .int v1), (2, .int v2), (3, .int v3)]) hx hb dX2_makeBinder_7 hl (by decide) rfl (fun ls hl => ?_)
  refine lv_iconst (v := 0) hx hb dX2_makeBinder_9 (by decide) ?_
  refine lv_istore (lv' := [(5, .int 0), (4, .int q1.1), (0, .ref v0), (1, .int v1), (2, .int v2), (3, .int v3)]) hx hb dX2_makeBinder_10 hl (by decide) rfl (fun ls hl => ?_)
  exact k.2 p e s m below meth c _ _ _ _ _ X I hn.1 hn.2 (lv_sub hl [2, 4, 5, 1, 0] rfl)
set_option maxRecDepth 100000 in
set_option maxHeartbeats 4000000 in
theorem v_X2_makeBinder_12 {G : sG} {d : Nat} {vs0 : List Value} {σ0 : sS} {v0 : Nat} {v2 : Int32} {v3 : Int32} {v4 : Int32} {v5 : Int32} {σ : sS} {z : sZ Int32} {r : Int32 × sS} (hf : T_X2_makeBinder_12 v0 v2 v3 v4 v5 σ = some z) (k : s_K G (d + 70) M_X2_makeBinder vs0 σ0 Y_X2_makeBinder e_I z r) : s_V G (d + 70) M_X2_makeBinder vs0 σ0 Y_X2_makeBinder (12, [.ref v0, .int v2, .int v3, .int v4, .int v5], σ) (e_I r) := by
  have le0 : s_le σ (e_I r).2 := s_lek hem_I (l_X2_makeBinder_12 hf) k
  refine ⟨le0, ?_⟩
  intro p e s m below meth c H locs cells slots ls X I hn1 hn2 hl
  have hn : cells + σ0.2.1 ≤ σ.2.1 ∧ slots + σ0.2.2.1 ≤ σ.2.2.1 := ⟨hn1, hn2⟩
  have hl : lv_has ls 7 [(0, .ref v0), (2, .int v2), (3, .int v3), (4, .int v4), (5, .int v5)] := hl
  have hx := X.1
  have hb : c.code = cX2_makeBinder := X.2.1
  have hown : s.vm.findClass RX2 = some m.cls := X.2.2.2.2.2.1
  have hts := X.2.2.2.2.2.2.1
  refine W.eq (g2 := F0 m 12 ls []) rfl ?_
  unfold T_X2_makeBinder_12 at hf
  refine lv_iload hx hb dX2_makeBinder_12 (lv_at hl 3 rfl) ?_
  refine lv_iconst (v := (-1)) hx hb dX2_makeBinder_14 (by decide) ?_
  rcases s_ite hf with ⟨c1, hf⟩ | ⟨c1, hf⟩
  · refine lv_icmp_eq (tgt := 60) hx hb dX2_makeBinder_15 (by decide) (fun _ => ?_) (fun n => absurd c1 n)
    cases hf
    have k : _ = r := k
    subst k
    refine lv_iload hx hb dX2_makeBinder_60 (lv_at hl 3 rfl) ?_
    exact r_iret X I rfl rfl rfl hn dX2_makeBinder_62
  · refine lv_icmp_eq (tgt := 60) hx hb dX2_makeBinder_15 (by decide) (fun n => absurd n c1) (fun _ => ?_)
    refine lv_iload hx hb dX2_makeBinder_18 (lv_at hl 4 rfl) ?_
    refine lv_iload_n hx hb dX2_makeBinder_20 rfl (lv_at hl 2 rfl) ?_
    rcases s_ite hf with ⟨c2, hf⟩ | ⟨c2, hf⟩
    · refine lv_icmp_ge (tgt := 60) hx hb dX2_makeBinder_21 (by decide) (fun _ => ?_) (fun n => absurd c2 n)
      cases hf
      have k : _ = r := k
      subst k
      refine lv_iload hx hb dX2_makeBinder_60 (lv_at hl 3 rfl) ?_
      exact r_iret X I rfl rfl rfl hn dX2_makeBinder_62
    · refine lv_icmp_ge (tgt := 60) hx hb dX2_makeBinder_21 (by decide) (fun n => absurd n c2) (fun _ => ?_)
      refine lv_iload hx hb dX2_makeBinder_24 (lv_at hl 4 rfl) ?_
      refine lv_iconst (v := 3) hx hb dX2_makeBinder_26 (by decide) ?_
      rcases s_ite hf with ⟨c3, hf⟩ | ⟨c3, hf⟩
      · refine lv_icmp_ge (tgt := 60) hx hb dX2_makeBinder_27 (by decide) (fun _ => ?_) (fun n => absurd c3 n)
        cases hf
        have k : _ = r := k
        subst k
        refine lv_iload hx hb dX2_makeBinder_60 (lv_at hl 3 rfl) ?_
        exact r_iret X I rfl rfl rfl hn dX2_makeBinder_62
      · refine lv_icmp_ge (tgt := 60) hx hb dX2_makeBinder_27 (by decide) (fun n => absurd n c3) (fun _ => ?_)
        obtain ⟨q1, h4, hf⟩ := s_bind hf
        obtain ⟨x2, h5, hf⟩ := s_bind hf
        obtain ⟨σ3, h6, hf⟩ := s_bind hf
        cases hf
        have k : s_V G (d + 70) M_X2_makeBinder vs0 σ0 Y_X2_makeBinder (12, [.ref v0, .int v2, .int v3, .int v4, .int (v5 + 1)], σ3) (e_I r) := k
        have le7 : s_le σ3 (e_I r).2 := k.1
        have le8 := s_le.tr (s_le2 (s_si_2 h6)) le7
        refine lv_aload_n hx hb dX2_makeBinder_30 rfl (lv_at hl 0 rfl) ?_
        refine lv_iload_n hx hb dX2_makeBinder_31 rfl (lv_at hl 1 rfl) ?_
        refine lv_iload hx hb dX2_makeBinder_32 (lv_at hl 4 rfl) ?_
        refine lv_iconst (v := 0) hx hb dX2_makeBinder_34 (by decide) ?_
        refine r_callV (Y := M_X2_place) (v := some (.int q1.1)) X I w_847 my_X2_place (by omega) (t_X2_place (G := G) (d := d + 0) h4) (b_X2_place h4) rfl rfl hl.1 rfl (Nat.le_of_ble_eq_true rfl) hn le8 dX2_makeBinder_35 (fun H locs cells slots I hn1 hn2 => ?_)
        have I : s_I G q1.2 s H locs := I
        have hn : cells + σ0.2.1 ≤ q1.2.2.1 ∧ slots + σ0.2.2.1 ≤ q1.2.2.2.1 := ⟨hn1, hn2⟩
        refine lv_istore (lv' := [(6, .int q1.1), (0, .ref v0), (2, .int v2), (3, .int v3), (4, .int v4), (5, .int v5)]) hx hb dX2_makeBinder_38 hl (by decide) rfl (fun ls hl => ?_)
        refine lv_aload_n hx hb dX2_makeBinder_40 rfl (lv_at hl 1 rfl) ?_
        refine r_gr X I fl_X2_27 h5 dX2_makeBinder_41 ?_
        refine lv_iload hx hb dX2_makeBinder_44 (lv_at hl 4 rfl) ?_
        refine lv_iconst (v := 3) hx hb dX2_makeBinder_46 (by decide) ?_
        refine lv_imul hx hb dX2_makeBinder_47 ?_
        refine lv_iload hx hb dX2_makeBinder_48 (lv_at hl 5 rfl) ?_
        refine lv_iadd hx hb dX2_makeBinder_50 ?_
        refine lv_iload hx hb dX2_makeBinder_51 (lv_at hl 0 rfl) ?_
        refine r_iast X I h6 dX2_makeBinder_53 (fun H locs I => ?_)
        have hn := s_k2 (s_si_2 h6) hn
        refine lv_iinc (v := (v5 + 1)) (lv' := [(5, .int (v5 + 1)), (6, .int q1.1), (0, .ref v0), (2, .int v2), (3, .int v3), (4, .int v4)]) hx hb dX2_makeBinder_54 hl (k := 5) rfl rfl (by decide) rfl (fun ls hl => ?_)
        refine lv_goto (tgt := 12) hx hb dX2_makeBinder_57 (by decide) ?_
        exact k.2 p e s m below meth c _ _ _ _ _ X I hn.1 hn.2 (lv_sub hl [2, 3, 4, 5, 0] rfl)
theorem v_X2_makeBinder {G : sG} {d : Nat} {vs0 : List Value} {σ0 : sS} {x : sL} {z : sZ Int32} {r : Int32 × sS} (hs : S_X2_makeBinder x = some z) (k : s_K G (d + 70) M_X2_makeBinder vs0 σ0 Y_X2_makeBinder e_I z r) : s_V G (d + 70) M_X2_makeBinder vs0 σ0 Y_X2_makeBinder x (e_I r) := by
  obtain ⟨pc, vs, σ⟩ := x
  unfold S_X2_makeBinder at hs
  dsimp only at hs
  rcases s_ite hs with ⟨c, hs⟩ | ⟨-, hs⟩
  · subst c
    unfold U_X2_makeBinder_0 at hs
    obtain ⟨a0, g0, hs⟩ := s_bind hs
    obtain ⟨a1, g1, hs⟩ := s_bind hs
    obtain ⟨a2, g2, hs⟩ := s_bind hs
    obtain ⟨a3, g3, hs⟩ := s_bind hs
    obtain ⟨u9, ge, hs⟩ := s_bind hs
    rw [g_r_to g0, g_i_to g1, g_i_to g2, g_i_to g3, g_e_to ge]
    exact v_X2_makeBinder_0 hs k
  rcases s_ite hs with ⟨c, hs⟩ | ⟨-, hs⟩
  · subst c
    unfold U_X2_makeBinder_12 at hs
    obtain ⟨a0, g0, hs⟩ := s_bind hs
    obtain ⟨a1, g1, hs⟩ := s_bind hs
    obtain ⟨a2, g2, hs⟩ := s_bind hs
    obtain ⟨a3, g3, hs⟩ := s_bind hs
    obtain ⟨a4, g4, hs⟩ := s_bind hs
    obtain ⟨u9, ge, hs⟩ := s_bind hs
    rw [g_r_to g0, g_i_to g1, g_i_to g2, g_i_to g3, g_i_to g4, g_e_to ge]
    exact v_X2_makeBinder_12 hs k
  cases hs
theorem t_X2_makeBinder {G : sG} {d : Nat} {v0 : Nat} {v1 : Int32} {v2 : Int32} {v3 : Int32} {σ : sS} {q : Int32 × sS} (h : F_X2_makeBinder v0 v1 v2 v3 σ = some q) : s_T G (d + 70) M_X2_makeBinder [.ref v0, .int v1, .int v2, .int v3] σ (e_I q) := by
  unfold F_X2_makeBinder at h
  obtain ⟨-, -, h⟩ := s_bind h
  exact s_ofV rfl (by decide) (Nat.le_of_ble_eq_true rfl) rfl rfl (s_run_ind (V := fun x r => s_V G (d + 70) M_X2_makeBinder [.ref v0, .int v1, .int v2, .int v3] σ Y_X2_makeBinder x (e_I r)) (fun x z r hs hk => v_X2_makeBinder hs (by cases z <;> exact hk)) h)
/-! X5_letterOf -/
noncomputable def T_X5_letterOf_0 (v0 : Int32) (σ : sS) : Option (sZ Int32) :=
  if v0 = 102 then (some (.inr (4, σ)))
  else if v0 = 103 then (some (.inr (5, σ)))
  else if v0 = 104 then (some (.inr ((-1), σ)))
  else if v0 = 105 then (some (.inr ((-1), σ)))
  else if v0 = 106 then (some (.inr ((-1), σ)))
  else if v0 = 107 then (some (.inr ((-1), σ)))
  else if v0 = 108 then (some (.inr ((-1), σ)))
  else if v0 = 109 then (some (.inr ((-1), σ)))
  else if v0 = 110 then (some (.inr ((-1), σ)))
  else if v0 = 111 then (some (.inr ((-1), σ)))
  else if v0 = 112 then (some (.inr (0, σ)))
  else if v0 = 113 then (some (.inr (1, σ)))
  else if v0 = 114 then (some (.inr (2, σ)))
  else if v0 = 115 then (some (.inr (3, σ)))
  else (some (.inr ((-1), σ)))
noncomputable def U_X5_letterOf_0 (vs : List Value) (σ : sS) : Option (sZ Int32) := (g_i vs).bind fun a0 => (g_e a0.2).bind fun _ => T_X5_letterOf_0 a0.1 σ
noncomputable def S_X5_letterOf (x : sL) : Option (sZ Int32) := if x.1 = 0 then U_X5_letterOf_0 x.2.1 x.2.2 else none
def Y_X5_letterOf (pc : Nat) : List Nat := if pc = 0 then [0] else []
noncomputable def F_X5_letterOf (v0 : Int32) (σ : sS) : Option (Int32 × sS) := s_run S_X5_letterOf (0, [.int v0], σ)
theorem l_X5_letterOf_0 {v0 : Int32} {σ : sS} {z : sZ Int32} (hf : T_X5_letterOf_0 v0 σ = some z) : s_lz σ z := by
  unfold T_X5_letterOf_0 at hf
  rcases s_ite hf with ⟨-, hf⟩ | ⟨-, hf⟩
  · cases hf
    exact s_le.rf
  rcases s_ite hf with ⟨-, hf⟩ | ⟨-, hf⟩
  · cases hf
    exact s_le.rf
  rcases s_ite hf with ⟨-, hf⟩ | ⟨-, hf⟩
  · cases hf
    exact s_le.rf
  rcases s_ite hf with ⟨-, hf⟩ | ⟨-, hf⟩
  · cases hf
    exact s_le.rf
  rcases s_ite hf with ⟨-, hf⟩ | ⟨-, hf⟩
  · cases hf
    exact s_le.rf
  rcases s_ite hf with ⟨-, hf⟩ | ⟨-, hf⟩
  · cases hf
    exact s_le.rf
  rcases s_ite hf with ⟨-, hf⟩ | ⟨-, hf⟩
  · cases hf
    exact s_le.rf
  rcases s_ite hf with ⟨-, hf⟩ | ⟨-, hf⟩
  · cases hf
    exact s_le.rf
  rcases s_ite hf with ⟨-, hf⟩ | ⟨-, hf⟩
  · cases hf
    exact s_le.rf
  rcases s_ite hf with ⟨-, hf⟩ | ⟨-, hf⟩
  · cases hf
    exact s_le.rf
  rcases s_ite hf with ⟨-, hf⟩ | ⟨-, hf⟩
  · cases hf
    exact s_le.rf
  rcases s_ite hf with ⟨-, hf⟩ | ⟨-, hf⟩
  · cases hf
    exact s_le.rf
  rcases s_ite hf with ⟨-, hf⟩ | ⟨-, hf⟩
  · cases hf
    exact s_le.rf
  rcases s_ite hf with ⟨-, hf⟩ | ⟨-, hf⟩
  · cases hf
    exact s_le.rf
  cases hf
  exact s_le.rf
theorem l_X5_letterOf_s {x : sL} {z : sZ Int32} (hs : S_X5_letterOf x = some z) : s_lz x.2.2 z := by
  obtain ⟨pc, vs, σ⟩ := x
  unfold S_X5_letterOf at hs
  dsimp only at hs ⊢
  rcases s_ite hs with ⟨c, hs⟩ | ⟨-, hs⟩
  · subst c
    unfold U_X5_letterOf_0 at hs
    obtain ⟨a0, g0, hs⟩ := s_bind hs
    obtain ⟨u9, ge, hs⟩ := s_bind hs
    exact l_X5_letterOf_0 hs
  cases hs
theorem l_X5_letterOf {v0 : Int32} {σ : sS} {q : Int32 × sS} (h : F_X5_letterOf v0 σ = some q) : s_le σ q.2 := by
  unfold F_X5_letterOf at h
  exact s_run_ind (V := fun x r => s_le x.2.2 r.2) (fun x z r hs hk => by
    have h9 := l_X5_letterOf_s hs
    cases z with
    | inl y => exact s_le.tr h9 hk
    | inr q => cases hk; exact h9) h
set_option maxRecDepth 100000 in
set_option maxHeartbeats 4000000 in
theorem v_X5_letterOf_0 {G : sG} {d : Nat} {vs0 : List Value} {σ0 : sS} {v0 : Int32} {σ : sS} {z : sZ Int32} {r : Int32 × sS} (hf : T_X5_letterOf_0 v0 σ = some z) (k : s_K G (d + 1) M_X5_letterOf vs0 σ0 Y_X5_letterOf e_I z r) : s_V G (d + 1) M_X5_letterOf vs0 σ0 Y_X5_letterOf (0, [.int v0], σ) (e_I r) := by
  have le0 : s_le σ (e_I r).2 := s_lek hem_I (l_X5_letterOf_0 hf) k
  refine ⟨le0, ?_⟩
  intro p e s m below meth c H locs cells slots ls X I hn1 hn2 hl
  have hn : cells + σ0.2.1 ≤ σ.2.1 ∧ slots + σ0.2.2.1 ≤ σ.2.2.1 := ⟨hn1, hn2⟩
  have hl : lv_has ls 1 [(0, .int v0)] := hl
  have hx := X.1
  have hb : c.code = cX5_letterOf := X.2.1
  have hown : s.vm.findClass RX5 = some m.cls := X.2.2.2.2.2.1
  have hts := X.2.2.2.2.2.2.1
  refine W.eq (g2 := F0 m 0 ls []) rfl ?_
  unfold T_X5_letterOf_0 at hf
  refine lv_iload_n hx hb dX5_letterOf_0 rfl (lv_at hl 0 rfl) ?_
  rcases s_ite hf with ⟨c1, hf⟩ | ⟨c1, hf⟩
  · refine lv_tableIn (tgt := 80) (off := 79) hx hb dX5_letterOf_1 (by rw [c1]; decide) (by rw [c1]; decide) (by rw [c1]; rfl) (by decide) ?_
    cases hf
    have k : _ = r := k
    subst k
    refine lv_iconst (v := 4) hx hb dX5_letterOf_80 (by decide) ?_
    exact r_iret X I rfl rfl rfl hn dX5_letterOf_81
  rcases s_ite hf with ⟨c2, hf⟩ | ⟨c2, hf⟩
  · refine lv_tableIn (tgt := 82) (off := 81) hx hb dX5_letterOf_1 (by rw [c2]; decide) (by rw [c2]; decide) (by rw [c2]; rfl) (by decide) ?_
    cases hf
    have k : _ = r := k
    subst k
    refine lv_iconst (v := 5) hx hb dX5_letterOf_82 (by decide) ?_
    exact r_iret X I rfl rfl rfl hn dX5_letterOf_83
  rcases s_ite hf with ⟨c3, hf⟩ | ⟨c3, hf⟩
  · refine lv_tableIn (tgt := 84) (off := 83) hx hb dX5_letterOf_1 (by rw [c3]; decide) (by rw [c3]; decide) (by rw [c3]; rfl) (by decide) ?_
    cases hf
    have k : _ = r := k
    subst k
    refine lv_iconst (v := (-1)) hx hb dX5_letterOf_84 (by decide) ?_
    exact r_iret X I rfl rfl rfl hn dX5_letterOf_85
  rcases s_ite hf with ⟨c4, hf⟩ | ⟨c4, hf⟩
  · refine lv_tableIn (tgt := 84) (off := 83) hx hb dX5_letterOf_1 (by rw [c4]; decide) (by rw [c4]; decide) (by rw [c4]; rfl) (by decide) ?_
    cases hf
    have k : _ = r := k
    subst k
    refine lv_iconst (v := (-1)) hx hb dX5_letterOf_84 (by decide) ?_
    exact r_iret X I rfl rfl rfl hn dX5_letterOf_85
  rcases s_ite hf with ⟨c5, hf⟩ | ⟨c5, hf⟩
  · refine lv_tableIn (tgt := 84) (off := 83) hx hb dX5_letterOf_1 (by rw [c5]; decide) (by rw [c5]; decide) (by rw [c5]; rfl) (by decide) ?_
    cases hf
    have k : _ = r := k
    subst k
    refine lv_iconst (v := (-1)) hx hb dX5_letterOf_84 (by decide) ?_
    exact r_iret X I rfl rfl rfl hn dX5_letterOf_85
  rcases s_ite hf with ⟨c6, hf⟩ | ⟨c6, hf⟩
  · refine lv_tableIn (tgt := 84) (off := 83) hx hb dX5_letterOf_1 (by rw [c6]; decide) (by rw [c6]; decide) (by rw [c6]; rfl) (by decide) ?_
    cases hf
    have k : _ = r := k
    subst k
    refine lv_iconst (v := (-1)) hx hb dX5_letterOf_84 (by decide) ?_
    exact r_iret X I rfl rfl rfl hn dX5_letterOf_85
  rcases s_ite hf with ⟨c7, hf⟩ | ⟨c7, hf⟩
  · refine lv_tableIn (tgt := 84) (off := 83) hx hb dX5_letterOf_1 (by rw [c7]; decide) (by rw [c7]; decide) (by rw [c7]; rfl) (by decide) ?_
    cases hf
    have k : _ = r := k
    subst k
    refine lv_iconst (v := (-1)) hx hb dX5_letterOf_84 (by decide) ?_
    exact r_iret X I rfl rfl rfl hn dX5_letterOf_85
  rcases s_ite hf with ⟨c8, hf⟩ | ⟨c8, hf⟩
  · refine lv_tableIn (tgt := 84) (off := 83) hx hb dX5_letterOf_1 (by rw [c8]; decide) (by rw [c8]; decide) (by rw [c8]; rfl) (by decide) ?_
    cases hf
    have k : _ = r := k
    subst k
    refine lv_iconst (v := (-1)) hx hb dX5_letterOf_84 (by decide) ?_
    exact r_iret X I rfl rfl rfl hn dX5_letterOf_85
  rcases s_ite hf with ⟨c9, hf⟩ | ⟨c9, hf⟩
  · refine lv_tableIn (tgt := 84) (off := 83) hx hb dX5_letterOf_1 (by rw [c9]; decide) (by rw [c9]; decide) (by rw [c9]; rfl) (by decide) ?_
    cases hf
    have k : _ = r := k
    subst k
    refine lv_iconst (v := (-1)) hx hb dX5_letterOf_84 (by decide) ?_
    exact r_iret X I rfl rfl rfl hn dX5_letterOf_85
  rcases s_ite hf with ⟨c10, hf⟩ | ⟨c10, hf⟩
  · refine lv_tableIn (tgt := 84) (off := 83) hx hb dX5_letterOf_1 (by rw [c10]; decide) (by rw [c10]; decide) (by rw [c10]; rfl) (by decide) ?_
    cases hf
    have k : _ = r := k
    subst k
    refine lv_iconst (v := (-1)) hx hb dX5_letterOf_84 (by decide) ?_
    exact r_iret X I rfl rfl rfl hn dX5_letterOf_85
  rcases s_ite hf with ⟨c11, hf⟩ | ⟨c11, hf⟩
  · refine lv_tableIn (tgt := 72) (off := 71) hx hb dX5_letterOf_1 (by rw [c11]; decide) (by rw [c11]; decide) (by rw [c11]; rfl) (by decide) ?_
    cases hf
    have k : _ = r := k
    subst k
    refine lv_iconst (v := 0) hx hb dX5_letterOf_72 (by decide) ?_
    exact r_iret X I rfl rfl rfl hn dX5_letterOf_73
  rcases s_ite hf with ⟨c12, hf⟩ | ⟨c12, hf⟩
  · refine lv_tableIn (tgt := 74) (off := 73) hx hb dX5_letterOf_1 (by rw [c12]; decide) (by rw [c12]; decide) (by rw [c12]; rfl) (by decide) ?_
    cases hf
    have k : _ = r := k
    subst k
    refine lv_iconst (v := 1) hx hb dX5_letterOf_74 (by decide) ?_
    exact r_iret X I rfl rfl rfl hn dX5_letterOf_75
  rcases s_ite hf with ⟨c13, hf⟩ | ⟨c13, hf⟩
  · refine lv_tableIn (tgt := 76) (off := 75) hx hb dX5_letterOf_1 (by rw [c13]; decide) (by rw [c13]; decide) (by rw [c13]; rfl) (by decide) ?_
    cases hf
    have k : _ = r := k
    subst k
    refine lv_iconst (v := 2) hx hb dX5_letterOf_76 (by decide) ?_
    exact r_iret X I rfl rfl rfl hn dX5_letterOf_77
  rcases s_ite hf with ⟨c14, hf⟩ | ⟨c14, hf⟩
  · refine lv_tableIn (tgt := 78) (off := 77) hx hb dX5_letterOf_1 (by rw [c14]; decide) (by rw [c14]; decide) (by rw [c14]; rfl) (by decide) ?_
    cases hf
    have k : _ = r := k
    subst k
    refine lv_iconst (v := 3) hx hb dX5_letterOf_78 (by decide) ?_
    exact r_iret X I rfl rfl rfl hn dX5_letterOf_79
  refine lv_tableOut (tgt := 84) hx hb dX5_letterOf_1 (by
      have tc1 := lv_neT (a := 102) c1 (by decide)
      have tc2 := lv_neT (a := 103) c2 (by decide)
      have tc3 := lv_neT (a := 104) c3 (by decide)
      have tc4 := lv_neT (a := 105) c4 (by decide)
      have tc5 := lv_neT (a := 106) c5 (by decide)
      have tc6 := lv_neT (a := 107) c6 (by decide)
      have tc7 := lv_neT (a := 108) c7 (by decide)
      have tc8 := lv_neT (a := 109) c8 (by decide)
      have tc9 := lv_neT (a := 110) c9 (by decide)
      have tc10 := lv_neT (a := 111) c10 (by decide)
      have tc11 := lv_neT (a := 112) c11 (by decide)
      have tc12 := lv_neT (a := 113) c12 (by decide)
      have tc13 := lv_neT (a := 114) c13 (by decide)
      have tc14 := lv_neT (a := 115) c14 (by decide)
      omega) (by decide) ?_
  cases hf
  have k : _ = r := k
  subst k
  refine lv_iconst (v := (-1)) hx hb dX5_letterOf_84 (by decide) ?_
  exact r_iret X I rfl rfl rfl hn dX5_letterOf_85
theorem v_X5_letterOf {G : sG} {d : Nat} {vs0 : List Value} {σ0 : sS} {x : sL} {z : sZ Int32} {r : Int32 × sS} (hs : S_X5_letterOf x = some z) (k : s_K G (d + 1) M_X5_letterOf vs0 σ0 Y_X5_letterOf e_I z r) : s_V G (d + 1) M_X5_letterOf vs0 σ0 Y_X5_letterOf x (e_I r) := by
  obtain ⟨pc, vs, σ⟩ := x
  unfold S_X5_letterOf at hs
  dsimp only at hs
  rcases s_ite hs with ⟨c, hs⟩ | ⟨-, hs⟩
  · subst c
    unfold U_X5_letterOf_0 at hs
    obtain ⟨a0, g0, hs⟩ := s_bind hs
    obtain ⟨u9, ge, hs⟩ := s_bind hs
    rw [g_i_to g0, g_e_to ge]
    exact v_X5_letterOf_0 hs k
  cases hs
theorem t_X5_letterOf {G : sG} {d : Nat} {v0 : Int32} {σ : sS} {q : Int32 × sS} (h : F_X5_letterOf v0 σ = some q) : s_T G (d + 1) M_X5_letterOf [.int v0] σ (e_I q) := by
  unfold F_X5_letterOf at h
  exact s_ofV rfl (by decide) (Nat.le_of_ble_eq_true rfl) rfl rfl (s_run_ind (V := fun x r => s_V G (d + 1) M_X5_letterOf [.int v0] σ Y_X5_letterOf x (e_I r)) (fun x z r hs hk => v_X5_letterOf hs (by cases z <;> exact hk)) h)
/-! X5_readShort -/
noncomputable def T_X5_readShort_0 (v0 : Nat) (v1 : Int32) (σ : sS) : Option (sZ Int32) :=
  (F_X5_letterOf v1 σ).bind fun q1 =>
  if q1.1 = (-1) then ((s_fi q1.2 v0 5 4).bind fun x19 =>
  (F_X5_fail v0 x19 q1.2).bind fun q20 =>
  some (.inr (q20.1, q20.2)))
  else (if (4 : Int32) ≤ q1.1 then ((s_fi q1.2 v0 5 4).bind fun x2 =>
  (F_X5_byteAt v0 (x2 + 1) q1.2).bind fun q3 =>
  if (q3.1 - 48) < 0 then (some (.inl (81, [.ref v0], q3.2)))
  else (if (q3.1 - 48) ≤ 9 then ((s_fi q3.2 v0 5 4).bind fun x4 =>
  (F_X5_mayTakeSign v0 x4 q3.2).bind fun q5 =>
  if q5.1 = 0 then (some (.inr ((-1), q5.2)))
  else ((s_fi q5.2 v0 5 6).bind fun x6 =>
  if (q3.1 - 48) < x6 then ((s_fi q5.2 v0 5 4).bind fun x7 =>
  (s_pf q5.2 v0 5 4 (.int (x7 + 2))).bind fun σ8 =>
  (s_fr σ8 v0 5 2).bind fun x9 =>
  (F_X2_makeAtom x9 q1.1 (q3.1 - 48) σ8).bind fun q10 =>
  some (.inr (q10.1, q10.2)))
  else ((s_fi q5.2 v0 5 4).bind fun x11 =>
  (F_X5_fail v0 (x11 + 1) q5.2).bind fun q12 =>
  some (.inr (q12.1, q12.2)))))
  else (some (.inl (81, [.ref v0], q3.2)))))
  else ((s_fi q1.2 v0 5 4).bind fun x13 =>
  (F_X5_mayTakeSign v0 x13 q1.2).bind fun q14 =>
  if q14.1 = 0 then (some (.inr ((-1), q14.2)))
  else ((s_fi q14.2 v0 5 4).bind fun x15 =>
  (s_pf q14.2 v0 5 4 (.int (x15 + 1))).bind fun σ16 =>
  (s_fr σ16 v0 5 2).bind fun x17 =>
  (F_X2_makeAtom x17 q1.1 0 σ16).bind fun q18 =>
  some (.inr (q18.1, q18.2)))))
noncomputable def U_X5_readShort_0 (vs : List Value) (σ : sS) : Option (sZ Int32) := (g_r vs).bind fun a0 => (g_i a0.2).bind fun a1 => (g_e a1.2).bind fun _ => T_X5_readShort_0 a0.1 a1.1 σ
noncomputable def T_X5_readShort_81 (v0 : Nat) (σ : sS) : Option (sZ Int32) :=
  (s_fi σ v0 5 4).bind fun x1 =>
  (F_X5_fail v0 x1 σ).bind fun q2 =>
  some (.inr (q2.1, q2.2))
noncomputable def U_X5_readShort_81 (vs : List Value) (σ : sS) : Option (sZ Int32) := (g_r vs).bind fun a0 => (g_e a0.2).bind fun _ => T_X5_readShort_81 a0.1 σ
noncomputable def S_X5_readShort (x : sL) : Option (sZ Int32) := if x.1 = 0 then U_X5_readShort_0 x.2.1 x.2.2 else if x.1 = 81 then U_X5_readShort_81 x.2.1 x.2.2 else none
def Y_X5_readShort (pc : Nat) : List Nat := if pc = 0 then [0, 1] else if pc = 81 then [0] else []
noncomputable def F_X5_readShort (v0 : Nat) (v1 : Int32) (σ : sS) : Option (Int32 × sS) := (s_is σ v0 5).bind fun _ => s_run S_X5_readShort (0, [.ref v0, .int v1], σ)
theorem l_X5_readShort_0 {v0 : Nat} {v1 : Int32} {σ : sS} {z : sZ Int32} (hf : T_X5_readShort_0 v0 v1 σ = some z) : s_lz σ z := by
  unfold T_X5_readShort_0 at hf
  obtain ⟨q1, hh, hf⟩ := s_bind hf
  refine s_lz.tr (l_X5_letterOf hh) ?_
  rcases s_ite hf with ⟨-, hf⟩ | ⟨-, hf⟩
  · obtain ⟨x19, -, hf⟩ := s_bind hf
    obtain ⟨q20, hh, hf⟩ := s_bind hf
    refine s_lz.tr (l_X5_fail hh) ?_
    cases hf
    exact s_le.rf
  · rcases s_ite hf with ⟨-, hf⟩ | ⟨-, hf⟩
    · obtain ⟨x2, -, hf⟩ := s_bind hf
      obtain ⟨q3, hh, hf⟩ := s_bind hf
      refine s_lz.tr (l_X5_byteAt hh) ?_
      rcases s_ite hf with ⟨-, hf⟩ | ⟨-, hf⟩
      · cases hf
        exact s_le.rf
      · rcases s_ite hf with ⟨-, hf⟩ | ⟨-, hf⟩
        · obtain ⟨x4, -, hf⟩ := s_bind hf
          obtain ⟨q5, hh, hf⟩ := s_bind hf
          refine s_lz.tr (l_X5_mayTakeSign hh) ?_
          rcases s_ite hf with ⟨-, hf⟩ | ⟨-, hf⟩
          · cases hf
            exact s_le.rf
          · obtain ⟨x6, -, hf⟩ := s_bind hf
            rcases s_ite hf with ⟨-, hf⟩ | ⟨-, hf⟩
            · obtain ⟨x7, -, hf⟩ := s_bind hf
              obtain ⟨σ8, hh, hf⟩ := s_bind hf
              refine s_lz.tr (s_le2 (s_pf_2 hh)) ?_
              obtain ⟨x9, -, hf⟩ := s_bind hf
              obtain ⟨q10, hh, hf⟩ := s_bind hf
              refine s_lz.tr (l_X2_makeAtom hh) ?_
              cases hf
              exact s_le.rf
            · obtain ⟨x11, -, hf⟩ := s_bind hf
              obtain ⟨q12, hh, hf⟩ := s_bind hf
              refine s_lz.tr (l_X5_fail hh) ?_
              cases hf
              exact s_le.rf
        · cases hf
          exact s_le.rf
    · obtain ⟨x13, -, hf⟩ := s_bind hf
      obtain ⟨q14, hh, hf⟩ := s_bind hf
      refine s_lz.tr (l_X5_mayTakeSign hh) ?_
      rcases s_ite hf with ⟨-, hf⟩ | ⟨-, hf⟩
      · cases hf
        exact s_le.rf
      · obtain ⟨x15, -, hf⟩ := s_bind hf
        obtain ⟨σ16, hh, hf⟩ := s_bind hf
        refine s_lz.tr (s_le2 (s_pf_2 hh)) ?_
        obtain ⟨x17, -, hf⟩ := s_bind hf
        obtain ⟨q18, hh, hf⟩ := s_bind hf
        refine s_lz.tr (l_X2_makeAtom hh) ?_
        cases hf
        exact s_le.rf
theorem l_X5_readShort_81 {v0 : Nat} {σ : sS} {z : sZ Int32} (hf : T_X5_readShort_81 v0 σ = some z) : s_lz σ z := by
  unfold T_X5_readShort_81 at hf
  obtain ⟨x1, -, hf⟩ := s_bind hf
  obtain ⟨q2, hh, hf⟩ := s_bind hf
  refine s_lz.tr (l_X5_fail hh) ?_
  cases hf
  exact s_le.rf
theorem l_X5_readShort_s {x : sL} {z : sZ Int32} (hs : S_X5_readShort x = some z) : s_lz x.2.2 z := by
  obtain ⟨pc, vs, σ⟩ := x
  unfold S_X5_readShort at hs
  dsimp only at hs ⊢
  rcases s_ite hs with ⟨c, hs⟩ | ⟨-, hs⟩
  · subst c
    unfold U_X5_readShort_0 at hs
    obtain ⟨a0, g0, hs⟩ := s_bind hs
    obtain ⟨a1, g1, hs⟩ := s_bind hs
    obtain ⟨u9, ge, hs⟩ := s_bind hs
    exact l_X5_readShort_0 hs
  rcases s_ite hs with ⟨c, hs⟩ | ⟨-, hs⟩
  · subst c
    unfold U_X5_readShort_81 at hs
    obtain ⟨a0, g0, hs⟩ := s_bind hs
    obtain ⟨u9, ge, hs⟩ := s_bind hs
    exact l_X5_readShort_81 hs
  cases hs
theorem l_X5_readShort {v0 : Nat} {v1 : Int32} {σ : sS} {q : Int32 × sS} (h : F_X5_readShort v0 v1 σ = some q) : s_le σ q.2 := by
  unfold F_X5_readShort at h
  obtain ⟨-, -, h⟩ := s_bind h
  exact s_run_ind (V := fun x r => s_le x.2.2 r.2) (fun x z r hs hk => by
    have h9 := l_X5_readShort_s hs
    cases z with
    | inl y => exact s_le.tr h9 hk
    | inr q => cases hk; exact h9) h
theorem b_X5_readShort {v0 : Nat} {v1 : Int32} {σ : sS} {q : Int32 × sS} (h : F_X5_readShort v0 v1 σ = some q) : ∃ fs, σ.1 v0 = some (.inr (5, fs)) := by
  unfold F_X5_readShort at h
  obtain ⟨u, hu, -⟩ := s_bind h
  exact s_is_to hu
set_option maxRecDepth 100000 in
set_option maxHeartbeats 4000000 in
theorem v_X5_readShort_0 {G : sG} {d : Nat} {vs0 : List Value} {σ0 : sS} {v0 : Nat} {v1 : Int32} {σ : sS} {z : sZ Int32} {r : Int32 × sS} (hf : T_X5_readShort_0 v0 v1 σ = some z) (k : s_K G (d + 5) M_X5_readShort vs0 σ0 Y_X5_readShort e_I z r) : s_V G (d + 5) M_X5_readShort vs0 σ0 Y_X5_readShort (0, [.ref v0, .int v1], σ) (e_I r) := by
  have le0 : s_le σ (e_I r).2 := s_lek hem_I (l_X5_readShort_0 hf) k
  refine ⟨le0, ?_⟩
  intro p e s m below meth c H locs cells slots ls X I hn1 hn2 hl
  have hn : cells + σ0.2.1 ≤ σ.2.1 ∧ slots + σ0.2.2.1 ≤ σ.2.2.1 := ⟨hn1, hn2⟩
  have hl : lv_has ls 4 [(0, .ref v0), (1, .int v1)] := hl
  have hx := X.1
  have hb : c.code = cX5_readShort := X.2.1
  have hown : s.vm.findClass RX5 = some m.cls := X.2.2.2.2.2.1
  have hts := X.2.2.2.2.2.2.1
  refine W.eq (g2 := F0 m 0 ls []) rfl ?_
  unfold T_X5_readShort_0 at hf
  obtain ⟨q1, h1, hf⟩ := s_bind hf
  have le2 : s_le q1.2 (e_I r).2 := by
    refine s_lek hem_I ?_ k
    rcases s_ite hf with ⟨-, hf⟩ | ⟨-, hf⟩
    · obtain ⟨x19, -, hf⟩ := s_bind hf
      obtain ⟨q20, hh, hf⟩ := s_bind hf
      refine s_lz.tr (l_X5_fail hh) ?_
      cases hf
      exact s_le.rf
    · rcases s_ite hf with ⟨-, hf⟩ | ⟨-, hf⟩
      · obtain ⟨x2, -, hf⟩ := s_bind hf
        obtain ⟨q3, hh, hf⟩ := s_bind hf
        refine s_lz.tr (l_X5_byteAt hh) ?_
        rcases s_ite hf with ⟨-, hf⟩ | ⟨-, hf⟩
        · cases hf
          exact s_le.rf
        · rcases s_ite hf with ⟨-, hf⟩ | ⟨-, hf⟩
          · obtain ⟨x4, -, hf⟩ := s_bind hf
            obtain ⟨q5, hh, hf⟩ := s_bind hf
            refine s_lz.tr (l_X5_mayTakeSign hh) ?_
            rcases s_ite hf with ⟨-, hf⟩ | ⟨-, hf⟩
            · cases hf
              exact s_le.rf
            · obtain ⟨x6, -, hf⟩ := s_bind hf
              rcases s_ite hf with ⟨-, hf⟩ | ⟨-, hf⟩
              · obtain ⟨x7, -, hf⟩ := s_bind hf
                obtain ⟨σ8, hh, hf⟩ := s_bind hf
                refine s_lz.tr (s_le2 (s_pf_2 hh)) ?_
                obtain ⟨x9, -, hf⟩ := s_bind hf
                obtain ⟨q10, hh, hf⟩ := s_bind hf
                refine s_lz.tr (l_X2_makeAtom hh) ?_
                cases hf
                exact s_le.rf
              · obtain ⟨x11, -, hf⟩ := s_bind hf
                obtain ⟨q12, hh, hf⟩ := s_bind hf
                refine s_lz.tr (l_X5_fail hh) ?_
                cases hf
                exact s_le.rf
          · cases hf
            exact s_le.rf
      · obtain ⟨x13, -, hf⟩ := s_bind hf
        obtain ⟨q14, hh, hf⟩ := s_bind hf
        refine s_lz.tr (l_X5_mayTakeSign hh) ?_
        rcases s_ite hf with ⟨-, hf⟩ | ⟨-, hf⟩
        · cases hf
          exact s_le.rf
        · obtain ⟨x15, -, hf⟩ := s_bind hf
          obtain ⟨σ16, hh, hf⟩ := s_bind hf
          refine s_lz.tr (s_le2 (s_pf_2 hh)) ?_
          obtain ⟨x17, -, hf⟩ := s_bind hf
          obtain ⟨q18, hh, hf⟩ := s_bind hf
          refine s_lz.tr (l_X2_makeAtom hh) ?_
          cases hf
          exact s_le.rf
  refine lv_iload_n hx hb dX5_readShort_0 rfl (lv_at hl 1 rfl) ?_
  refine r_callS (Y := M_X5_letterOf) (v := some (.int q1.1)) X I w_860 my_X5_letterOf (by omega) (t_X5_letterOf (G := G) (d := d + 3) h1) rfl rfl hl.1 rfl (Nat.le_of_ble_eq_true rfl) hn le2 dX5_readShort_1 (fun H locs cells slots I hn1 hn2 => ?_)
  have I : s_I G q1.2 s H locs := I
  have hn : cells + σ0.2.1 ≤ q1.2.2.1 ∧ slots + σ0.2.2.1 ≤ q1.2.2.2.1 := ⟨hn1, hn2⟩
  refine lv_istore_n (lv' := [(2, .int q1.1), (0, .ref v0), (1, .int v1)]) hx hb dX5_readShort_4 rfl hl (by decide) rfl (fun ls hl => ?_)
  refine lv_iload_n hx hb dX5_readShort_5 rfl (lv_at hl 0 rfl) ?_
  refine lv_iconst (v := (-1)) hx hb dX5_readShort_6 (by decide) ?_
  rcases s_ite hf with ⟨c3, hf⟩ | ⟨c3, hf⟩
  · refine lv_icmp_ne (tgt := 19) hx hb dX5_readShort_7 (by decide) (fun n => absurd c3 n) (fun _ => ?_)
    obtain ⟨x19, h4, hf⟩ := s_bind hf
    obtain ⟨q20, h5, hf⟩ := s_bind hf
    cases hf
    have k : _ = r := k
    subst k
    have le6 : s_le q20.2 q20.2 := s_le.rf
    refine lv_aload_n hx hb dX5_readShort_10 rfl (lv_at hl 1 rfl) ?_
    refine lv_aload_n hx hb dX5_readShort_11 rfl (lv_at hl 1 rfl) ?_
    refine r_gi X I fl_X5_29 h4 dX5_readShort_12 ?_
    refine r_callV (Y := M_X5_fail) (v := some (.int q20.1)) X I w_725 my_X5_fail (by omega) (t_X5_fail (G := G) (d := d + 3) h5) (b_X5_fail h5) rfl rfl hl.1 rfl (Nat.le_of_ble_eq_true rfl) hn le6 dX5_readShort_15 (fun H locs cells slots I hn1 hn2 => ?_)
    have I : s_I G q20.2 s H locs := I
    have hn : cells + σ0.2.1 ≤ q20.2.2.1 ∧ slots + σ0.2.2.1 ≤ q20.2.2.2.1 := ⟨hn1, hn2⟩
    exact r_iret X I rfl rfl rfl hn dX5_readShort_18
  · refine lv_icmp_ne (tgt := 19) hx hb dX5_readShort_7 (by decide) (fun _ => ?_) (fun n => absurd n c3)
    refine lv_iload_n hx hb dX5_readShort_19 rfl (lv_at hl 0 rfl) ?_
    refine lv_iconst (v := 4) hx hb dX5_readShort_20 (by decide) ?_
    rcases s_ite hf with ⟨c7, hf⟩ | ⟨c7, hf⟩
    · refine lv_icmp_ge (tgt := 57) hx hb dX5_readShort_21 (by decide) (fun _ => ?_) (fun n => absurd c7 n)
      obtain ⟨x2, h8, hf⟩ := s_bind hf
      obtain ⟨q3, h9, hf⟩ := s_bind hf
      have le10 : s_le q3.2 (e_I r).2 := by
        refine s_lek hem_I ?_ k
        rcases s_ite hf with ⟨-, hf⟩ | ⟨-, hf⟩
        · cases hf
          exact s_le.rf
        · rcases s_ite hf with ⟨-, hf⟩ | ⟨-, hf⟩
          · obtain ⟨x4, -, hf⟩ := s_bind hf
            obtain ⟨q5, hh, hf⟩ := s_bind hf
            refine s_lz.tr (l_X5_mayTakeSign hh) ?_
            rcases s_ite hf with ⟨-, hf⟩ | ⟨-, hf⟩
            · cases hf
              exact s_le.rf
            · obtain ⟨x6, -, hf⟩ := s_bind hf
              rcases s_ite hf with ⟨-, hf⟩ | ⟨-, hf⟩
              · obtain ⟨x7, -, hf⟩ := s_bind hf
                obtain ⟨σ8, hh, hf⟩ := s_bind hf
                refine s_lz.tr (s_le2 (s_pf_2 hh)) ?_
                obtain ⟨x9, -, hf⟩ := s_bind hf
                obtain ⟨q10, hh, hf⟩ := s_bind hf
                refine s_lz.tr (l_X2_makeAtom hh) ?_
                cases hf
                exact s_le.rf
              · obtain ⟨x11, -, hf⟩ := s_bind hf
                obtain ⟨q12, hh, hf⟩ := s_bind hf
                refine s_lz.tr (l_X5_fail hh) ?_
                cases hf
                exact s_le.rf
          · cases hf
            exact s_le.rf
      refine lv_aload_n hx hb dX5_readShort_57 rfl (lv_at hl 1 rfl) ?_
      refine lv_aload_n hx hb dX5_readShort_58 rfl (lv_at hl 1 rfl) ?_
      refine r_gi X I fl_X5_29 h8 dX5_readShort_59 ?_
      refine lv_iconst (v := 1) hx hb dX5_readShort_62 (by decide) ?_
      refine lv_iadd hx hb dX5_readShort_63 ?_
      refine r_callV (Y := M_X5_byteAt) (v := some (.int q3.1)) X I w_721 my_X5_byteAt (by omega) (t_X5_byteAt (G := G) (d := d + 3) h9) (b_X5_byteAt h9) rfl rfl hl.1 rfl (Nat.le_of_ble_eq_true rfl) hn le10 dX5_readShort_64 (fun H locs cells slots I hn1 hn2 => ?_)
      have I : s_I G q3.2 s H locs := I
      have hn : cells + σ0.2.1 ≤ q3.2.2.1 ∧ slots + σ0.2.2.1 ≤ q3.2.2.2.1 := ⟨hn1, hn2⟩
      refine lv_bipush (v := 48) hx hb dX5_readShort_67 (by decide) ?_
      refine lv_isub hx hb dX5_readShort_69 ?_
      refine lv_istore_n (lv' := [(3, .int (q3.1 - 48)), (2, .int q1.1), (0, .ref v0), (1, .int v1)]) hx hb dX5_readShort_70 rfl hl (by decide) rfl (fun ls hl => ?_)
      refine lv_iload_n hx hb dX5_readShort_71 rfl (lv_at hl 0 rfl) ?_
      rcases s_ite hf with ⟨c11, hf⟩ | ⟨c11, hf⟩
      · refine lv_if_lt (tgt := 81) hx hb dX5_readShort_72 (by decide) (fun _ => ?_) (fun n => absurd c11 n)
        cases hf
        have k : s_V G (d + 5) M_X5_readShort vs0 σ0 Y_X5_readShort (81, [.ref v0], q3.2) (e_I r) := k
        exact k.2 p e s m below meth c _ _ _ _ _ X I hn.1 hn.2 (lv_sub hl [2] rfl)
      · refine lv_if_lt (tgt := 81) hx hb dX5_readShort_72 (by decide) (fun n => absurd n c11) (fun _ => ?_)
        refine lv_iload_n hx hb dX5_readShort_75 rfl (lv_at hl 0 rfl) ?_
        refine lv_bipush (v := 9) hx hb dX5_readShort_76 (by decide) ?_
        rcases s_ite hf with ⟨c12, hf⟩ | ⟨c12, hf⟩
        · refine lv_icmp_le (tgt := 90) hx hb dX5_readShort_78 (by decide) (fun _ => ?_) (fun n => absurd c12 n)
          obtain ⟨x4, h13, hf⟩ := s_bind hf
          obtain ⟨q5, h14, hf⟩ := s_bind hf
          have le15 : s_le q5.2 (e_I r).2 := by
            refine s_lek hem_I ?_ k
            rcases s_ite hf with ⟨-, hf⟩ | ⟨-, hf⟩
            · cases hf
              exact s_le.rf
            · obtain ⟨x6, -, hf⟩ := s_bind hf
              rcases s_ite hf with ⟨-, hf⟩ | ⟨-, hf⟩
              · obtain ⟨x7, -, hf⟩ := s_bind hf
                obtain ⟨σ8, hh, hf⟩ := s_bind hf
                refine s_lz.tr (s_le2 (s_pf_2 hh)) ?_
                obtain ⟨x9, -, hf⟩ := s_bind hf
                obtain ⟨q10, hh, hf⟩ := s_bind hf
                refine s_lz.tr (l_X2_makeAtom hh) ?_
                cases hf
                exact s_le.rf
              · obtain ⟨x11, -, hf⟩ := s_bind hf
                obtain ⟨q12, hh, hf⟩ := s_bind hf
                refine s_lz.tr (l_X5_fail hh) ?_
                cases hf
                exact s_le.rf
          refine lv_aload_n hx hb dX5_readShort_90 rfl (lv_at hl 2 rfl) ?_
          refine lv_aload_n hx hb dX5_readShort_91 rfl (lv_at hl 2 rfl) ?_
          refine r_gi X I fl_X5_29 h13 dX5_readShort_92 ?_
          refine r_callV (Y := M_X5_mayTakeSign) (v := some (.int q5.1)) X I w_737 my_X5_mayTakeSign (by omega) (t_X5_mayTakeSign (G := G) (d := d + 2) h14) (b_X5_mayTakeSign h14) rfl rfl hl.1 rfl (Nat.le_of_ble_eq_true rfl) hn le15 dX5_readShort_95 (fun H locs cells slots I hn1 hn2 => ?_)
          have I : s_I G q5.2 s H locs := I
          have hn : cells + σ0.2.1 ≤ q5.2.2.1 ∧ slots + σ0.2.2.1 ≤ q5.2.2.2.1 := ⟨hn1, hn2⟩
          rcases s_ite hf with ⟨c16, hf⟩ | ⟨c16, hf⟩
          · refine lv_if_ne (tgt := 103) hx hb dX5_readShort_98 (by decide) (fun n => absurd c16 n) (fun _ => ?_)
            cases hf
            have k : _ = r := k
            subst k
            refine lv_iconst (v := (-1)) hx hb dX5_readShort_101 (by decide) ?_
            exact r_iret X I rfl rfl rfl hn dX5_readShort_102
          · refine lv_if_ne (tgt := 103) hx hb dX5_readShort_98 (by decide) (fun _ => ?_) (fun n => absurd n c16)
            obtain ⟨x6, h17, hf⟩ := s_bind hf
            refine lv_iload_n hx hb dX5_readShort_103 rfl (lv_at hl 0 rfl) ?_
            refine lv_aload_n hx hb dX5_readShort_104 rfl (lv_at hl 2 rfl) ?_
            refine r_gi X I fl_X5_26 h17 dX5_readShort_105 ?_
            rcases s_ite hf with ⟨c18, hf⟩ | ⟨c18, hf⟩
            · refine lv_icmp_lt (tgt := 122) hx hb dX5_readShort_108 (by decide) (fun _ => ?_) (fun n => absurd c18 n)
              obtain ⟨x7, h19, hf⟩ := s_bind hf
              obtain ⟨σ8, h20, hf⟩ := s_bind hf
              obtain ⟨x9, h21, hf⟩ := s_bind hf
              obtain ⟨q10, h22, hf⟩ := s_bind hf
              cases hf
              have k : _ = r := k
              subst k
              have le23 : s_le q10.2 q10.2 := s_le.rf
              have le24 := s_le.tr (l_X2_makeAtom h22) le23
              refine lv_aload_n hx hb dX5_readShort_122 rfl (lv_at hl 2 rfl) ?_
              refine lv_dup hx hb dX5_readShort_123 rfl ?_
              refine r_gi X I fl_X5_29 h19 dX5_readShort_124 ?_
              refine lv_iconst (v := 2) hx hb dX5_readShort_127 (by decide) ?_
              refine lv_iadd hx hb dX5_readShort_128 ?_
              refine r_put X I fp_X5_29 (fun h => by cases h) h20 rfl rfl dX5_readShort_129 (fun H locs I => ?_)
              have hn := s_k2 (s_pf_2 h20) hn
              refine lv_aload_n hx hb dX5_readShort_132 rfl (lv_at hl 2 rfl) ?_
              refine r_gr X I fl_X5_19 h21 dX5_readShort_133 ?_
              refine lv_iload_n hx hb dX5_readShort_136 rfl (lv_at hl 1 rfl) ?_
              refine lv_iload_n hx hb dX5_readShort_137 rfl (lv_at hl 0 rfl) ?_
              refine r_callV (Y := M_X2_makeAtom) (v := some (.int q10.1)) X I w_863 my_X2_makeAtom (by omega) (t_X2_makeAtom (G := G) (d := d + 0) h22) (b_X2_makeAtom h22) rfl rfl hl.1 rfl (Nat.le_of_ble_eq_true rfl) hn le23 dX5_readShort_138 (fun H locs cells slots I hn1 hn2 => ?_)
              have I : s_I G q10.2 s H locs := I
              have hn : cells + σ0.2.1 ≤ q10.2.2.1 ∧ slots + σ0.2.2.1 ≤ q10.2.2.2.1 := ⟨hn1, hn2⟩
              exact r_iret X I rfl rfl rfl hn dX5_readShort_141
            · refine lv_icmp_lt (tgt := 122) hx hb dX5_readShort_108 (by decide) (fun n => absurd n c18) (fun _ => ?_)
              obtain ⟨x11, h25, hf⟩ := s_bind hf
              obtain ⟨q12, h26, hf⟩ := s_bind hf
              cases hf
              have k : _ = r := k
              subst k
              have le27 : s_le q12.2 q12.2 := s_le.rf
              refine lv_aload_n hx hb dX5_readShort_111 rfl (lv_at hl 2 rfl) ?_
              refine lv_aload_n hx hb dX5_readShort_112 rfl (lv_at hl 2 rfl) ?_
              refine r_gi X I fl_X5_29 h25 dX5_readShort_113 ?_
              refine lv_iconst (v := 1) hx hb dX5_readShort_116 (by decide) ?_
              refine lv_iadd hx hb dX5_readShort_117 ?_
              refine r_callV (Y := M_X5_fail) (v := some (.int q12.1)) X I w_725 my_X5_fail (by omega) (t_X5_fail (G := G) (d := d + 3) h26) (b_X5_fail h26) rfl rfl hl.1 rfl (Nat.le_of_ble_eq_true rfl) hn le27 dX5_readShort_118 (fun H locs cells slots I hn1 hn2 => ?_)
              have I : s_I G q12.2 s H locs := I
              have hn : cells + σ0.2.1 ≤ q12.2.2.1 ∧ slots + σ0.2.2.1 ≤ q12.2.2.2.1 := ⟨hn1, hn2⟩
              exact r_iret X I rfl rfl rfl hn dX5_readShort_121
        · refine lv_icmp_le (tgt := 90) hx hb dX5_readShort_78 (by decide) (fun n => absurd n c12) (fun _ => ?_)
          cases hf
          have k : s_V G (d + 5) M_X5_readShort vs0 σ0 Y_X5_readShort (81, [.ref v0], q3.2) (e_I r) := k
          exact k.2 p e s m below meth c _ _ _ _ _ X I hn.1 hn.2 (lv_sub hl [2] rfl)
    · refine lv_icmp_ge (tgt := 57) hx hb dX5_readShort_21 (by decide) (fun n => absurd n c7) (fun _ => ?_)
      obtain ⟨x13, h28, hf⟩ := s_bind hf
      obtain ⟨q14, h29, hf⟩ := s_bind hf
      have le30 : s_le q14.2 (e_I r).2 := by
        refine s_lek hem_I ?_ k
        rcases s_ite hf with ⟨-, hf⟩ | ⟨-, hf⟩
        · cases hf
          exact s_le.rf
        · obtain ⟨x15, -, hf⟩ := s_bind hf
          obtain ⟨σ16, hh, hf⟩ := s_bind hf
          refine s_lz.tr (s_le2 (s_pf_2 hh)) ?_
          obtain ⟨x17, -, hf⟩ := s_bind hf
          obtain ⟨q18, hh, hf⟩ := s_bind hf
          refine s_lz.tr (l_X2_makeAtom hh) ?_
          cases hf
          exact s_le.rf
      refine lv_aload_n hx hb dX5_readShort_24 rfl (lv_at hl 1 rfl) ?_
      refine lv_aload_n hx hb dX5_readShort_25 rfl (lv_at hl 1 rfl) ?_
      refine r_gi X I fl_X5_29 h28 dX5_readShort_26 ?_
      refine r_callV (Y := M_X5_mayTakeSign) (v := some (.int q14.1)) X I w_737 my_X5_mayTakeSign (by omega) (t_X5_mayTakeSign (G := G) (d := d + 2) h29) (b_X5_mayTakeSign h29) rfl rfl hl.1 rfl (Nat.le_of_ble_eq_true rfl) hn le30 dX5_readShort_29 (fun H locs cells slots I hn1 hn2 => ?_)
      have I : s_I G q14.2 s H locs := I
      have hn : cells + σ0.2.1 ≤ q14.2.2.1 ∧ slots + σ0.2.2.1 ≤ q14.2.2.2.1 := ⟨hn1, hn2⟩
      rcases s_ite hf with ⟨c31, hf⟩ | ⟨c31, hf⟩
      · refine lv_if_ne (tgt := 37) hx hb dX5_readShort_32 (by decide) (fun n => absurd c31 n) (fun _ => ?_)
        cases hf
        have k : _ = r := k
        subst k
        refine lv_iconst (v := (-1)) hx hb dX5_readShort_35 (by decide) ?_
        exact r_iret X I rfl rfl rfl hn dX5_readShort_36
      · refine lv_if_ne (tgt := 37) hx hb dX5_readShort_32 (by decide) (fun _ => ?_) (fun n => absurd n c31)
        obtain ⟨x15, h32, hf⟩ := s_bind hf
        obtain ⟨σ16, h33, hf⟩ := s_bind hf
        obtain ⟨x17, h34, hf⟩ := s_bind hf
        obtain ⟨q18, h35, hf⟩ := s_bind hf
        cases hf
        have k : _ = r := k
        subst k
        have le36 : s_le q18.2 q18.2 := s_le.rf
        have le37 := s_le.tr (l_X2_makeAtom h35) le36
        refine lv_aload_n hx hb dX5_readShort_37 rfl (lv_at hl 1 rfl) ?_
        refine lv_dup hx hb dX5_readShort_38 rfl ?_
        refine r_gi X I fl_X5_29 h32 dX5_readShort_39 ?_
        refine lv_iconst (v := 1) hx hb dX5_readShort_42 (by decide) ?_
        refine lv_iadd hx hb dX5_readShort_43 ?_
        refine r_put X I fp_X5_29 (fun h => by cases h) h33 rfl rfl dX5_readShort_44 (fun H locs I => ?_)
        have hn := s_k2 (s_pf_2 h33) hn
        refine lv_aload_n hx hb dX5_readShort_47 rfl (lv_at hl 1 rfl) ?_
        refine r_gr X I fl_X5_19 h34 dX5_readShort_48 ?_
        refine lv_iload_n hx hb dX5_readShort_51 rfl (lv_at hl 0 rfl) ?_
        refine lv_iconst (v := 0) hx hb dX5_readShort_52 (by decide) ?_
        refine r_callV (Y := M_X2_makeAtom) (v := some (.int q18.1)) X I w_863 my_X2_makeAtom (by omega) (t_X2_makeAtom (G := G) (d := d + 0) h35) (b_X2_makeAtom h35) rfl rfl hl.1 rfl (Nat.le_of_ble_eq_true rfl) hn le36 dX5_readShort_53 (fun H locs cells slots I hn1 hn2 => ?_)
        have I : s_I G q18.2 s H locs := I
        have hn : cells + σ0.2.1 ≤ q18.2.2.1 ∧ slots + σ0.2.2.1 ≤ q18.2.2.2.1 := ⟨hn1, hn2⟩
        exact r_iret X I rfl rfl rfl hn dX5_readShort_56
set_option maxRecDepth 100000 in
set_option maxHeartbeats 4000000 in
theorem v_X5_readShort_81 {G : sG} {d : Nat} {vs0 : List Value} {σ0 : sS} {v0 : Nat} {σ : sS} {z : sZ Int32} {r : Int32 × sS} (hf : T_X5_readShort_81 v0 σ = some z) (k : s_K G (d + 5) M_X5_readShort vs0 σ0 Y_X5_readShort e_I z r) : s_V G (d + 5) M_X5_readShort vs0 σ0 Y_X5_readShort (81, [.ref v0], σ) (e_I r) := by
  have le0 : s_le σ (e_I r).2 := s_lek hem_I (l_X5_readShort_81 hf) k
  refine ⟨le0, ?_⟩
  intro p e s m below meth c H locs cells slots ls X I hn1 hn2 hl
  have hn : cells + σ0.2.1 ≤ σ.2.1 ∧ slots + σ0.2.2.1 ≤ σ.2.2.1 := ⟨hn1, hn2⟩
  have hl : lv_has ls 4 [(0, .ref v0)] := hl
  have hx := X.1
  have hb : c.code = cX5_readShort := X.2.1
  have hown : s.vm.findClass RX5 = some m.cls := X.2.2.2.2.2.1
  have hts := X.2.2.2.2.2.2.1
  refine W.eq (g2 := F0 m 81 ls []) rfl ?_
  unfold T_X5_readShort_81 at hf
  obtain ⟨x1, h1, hf⟩ := s_bind hf
  obtain ⟨q2, h2, hf⟩ := s_bind hf
  cases hf
  have k : _ = r := k
  subst k
  have le3 : s_le q2.2 q2.2 := s_le.rf
  refine lv_aload_n hx hb dX5_readShort_81 rfl (lv_at hl 0 rfl) ?_
  refine lv_aload_n hx hb dX5_readShort_82 rfl (lv_at hl 0 rfl) ?_
  refine r_gi X I fl_X5_29 h1 dX5_readShort_83 ?_
  refine r_callV (Y := M_X5_fail) (v := some (.int q2.1)) X I w_725 my_X5_fail (by omega) (t_X5_fail (G := G) (d := d + 3) h2) (b_X5_fail h2) rfl rfl hl.1 rfl (Nat.le_of_ble_eq_true rfl) hn le3 dX5_readShort_86 (fun H locs cells slots I hn1 hn2 => ?_)
  have I : s_I G q2.2 s H locs := I
  have hn : cells + σ0.2.1 ≤ q2.2.2.1 ∧ slots + σ0.2.2.1 ≤ q2.2.2.2.1 := ⟨hn1, hn2⟩
  exact r_iret X I rfl rfl rfl hn dX5_readShort_89
theorem v_X5_readShort {G : sG} {d : Nat} {vs0 : List Value} {σ0 : sS} {x : sL} {z : sZ Int32} {r : Int32 × sS} (hs : S_X5_readShort x = some z) (k : s_K G (d + 5) M_X5_readShort vs0 σ0 Y_X5_readShort e_I z r) : s_V G (d + 5) M_X5_readShort vs0 σ0 Y_X5_readShort x (e_I r) := by
  obtain ⟨pc, vs, σ⟩ := x
  unfold S_X5_readShort at hs
  dsimp only at hs
  rcases s_ite hs with ⟨c, hs⟩ | ⟨-, hs⟩
  · subst c
    unfold U_X5_readShort_0 at hs
    obtain ⟨a0, g0, hs⟩ := s_bind hs
    obtain ⟨a1, g1, hs⟩ := s_bind hs
    obtain ⟨u9, ge, hs⟩ := s_bind hs
    rw [g_r_to g0, g_i_to g1, g_e_to ge]
    exact v_X5_readShort_0 hs k
  rcases s_ite hs with ⟨c, hs⟩ | ⟨-, hs⟩
  · subst c
    unfold U_X5_readShort_81 at hs
    obtain ⟨a0, g0, hs⟩ := s_bind hs
    obtain ⟨u9, ge, hs⟩ := s_bind hs
    rw [g_r_to g0, g_e_to ge]
    exact v_X5_readShort_81 hs k
  cases hs
theorem t_X5_readShort {G : sG} {d : Nat} {v0 : Nat} {v1 : Int32} {σ : sS} {q : Int32 × sS} (h : F_X5_readShort v0 v1 σ = some q) : s_T G (d + 5) M_X5_readShort [.ref v0, .int v1] σ (e_I q) := by
  unfold F_X5_readShort at h
  obtain ⟨-, -, h⟩ := s_bind h
  exact s_ofV rfl (by decide) (Nat.le_of_ble_eq_true rfl) rfl rfl (s_run_ind (V := fun x r => s_V G (d + 5) M_X5_readShort [.ref v0, .int v1] σ Y_X5_readShort x (e_I r)) (fun x z r hs hk => v_X5_readShort hs (by cases z <;> exact hk)) h)
/-! X5_readAnd X5_readBinder X5_readIf X5_readInner X5_readNot X5_readOr X5_readUnit X5_readWord -/
noncomputable def T_X5_readAnd_0 (f_X5_readAnd : Nat → Int32 → Int32 → sS → Option (Int32 × sS)) (f_X5_readBinder : Nat → Int32 → Int32 → Int32 → Int32 → sS → Option (Int32 × sS)) (f_X5_readIf : Nat → Int32 → Int32 → sS → Option (Int32 × sS)) (f_X5_readInner : Nat → Int32 → Int32 → sS → Option (Int32 × sS)) (f_X5_readNot : Nat → Int32 → Int32 → sS → Option (Int32 × sS)) (f_X5_readOr : Nat → Int32 → Int32 → sS → Option (Int32 × sS)) (f_X5_readUnit : Nat → Int32 → Int32 → sS → Option (Int32 × sS)) (f_X5_readWord : Nat → Int32 → Int32 → sS → Option (Int32 × sS)) (v0 : Nat) (v1 : Int32) (v2 : Int32) (σ : sS) : Option (sZ Int32) :=
  (f_X5_readUnit v0 v1 v2 σ).bind fun q1 =>
  some (.inl (10, [.ref v0, .int v1, .int v2, .int q1.1, .int 0], q1.2))
noncomputable def U_X5_readAnd_0 (f_X5_readAnd : Nat → Int32 → Int32 → sS → Option (Int32 × sS)) (f_X5_readBinder : Nat → Int32 → Int32 → Int32 → Int32 → sS → Option (Int32 × sS)) (f_X5_readIf : Nat → Int32 → Int32 → sS → Option (Int32 × sS)) (f_X5_readInner : Nat → Int32 → Int32 → sS → Option (Int32 × sS)) (f_X5_readNot : Nat → Int32 → Int32 → sS → Option (Int32 × sS)) (f_X5_readOr : Nat → Int32 → Int32 → sS → Option (Int32 × sS)) (f_X5_readUnit : Nat → Int32 → Int32 → sS → Option (Int32 × sS)) (f_X5_readWord : Nat → Int32 → Int32 → sS → Option (Int32 × sS)) (vs : List Value) (σ : sS) : Option (sZ Int32) := (g_r vs).bind fun a0 => (g_i a0.2).bind fun a1 => (g_i a1.2).bind fun a2 => (g_e a2.2).bind fun _ => T_X5_readAnd_0 f_X5_readAnd f_X5_readBinder f_X5_readIf f_X5_readInner f_X5_readNot f_X5_readOr f_X5_readUnit f_X5_readWord a0.1 a1.1 a2.1 σ
noncomputable def T_X5_readAnd_10 (f_X5_readAnd : Nat → Int32 → Int32 → sS → Option (Int32 × sS)) (f_X5_readBinder : Nat → Int32 → Int32 → Int32 → Int32 → sS → Option (Int32 × sS)) (f_X5_readIf : Nat → Int32 → Int32 → sS → Option (Int32 × sS)) (f_X5_readInner : Nat → Int32 → Int32 → sS → Option (Int32 × sS)) (f_X5_readNot : Nat → Int32 → Int32 → sS → Option (Int32 × sS)) (f_X5_readOr : Nat → Int32 → Int32 → sS → Option (Int32 × sS)) (f_X5_readUnit : Nat → Int32 → Int32 → sS → Option (Int32 × sS)) (f_X5_readWord : Nat → Int32 → Int32 → sS → Option (Int32 × sS)) (v0 : Nat) (v1 : Int32) (v2 : Int32) (v3 : Int32) (v4 : Int32) (σ : sS) : Option (sZ Int32) :=
  if (400 : Int32) ≤ v4 then (some (.inr (v3, σ)))
  else ((F_X5_peek v0 σ).bind fun q1 =>
  if q1.1 = 38 then ((s_fi q1.2 v0 5 4).bind fun x2 =>
  (F_X5_mayTakeSign v0 x2 q1.2).bind fun q3 =>
  if q3.1 = 0 then (some (.inr (v3, q3.2)))
  else ((s_fi q3.2 v0 5 4).bind fun x4 =>
  (s_pf q3.2 v0 5 4 (.int (x4 + 1))).bind fun σ5 =>
  (f_X5_readUnit v0 v1 v2 σ5).bind fun q6 =>
  (F_X5_join v0 2 v3 q6.1 q6.2).bind fun q7 =>
  some (.inl (10, [.ref v0, .int v1, .int v2, .int q7.1, .int (v4 + 1)], q7.2))))
  else (some (.inr (v3, q1.2))))
noncomputable def U_X5_readAnd_10 (f_X5_readAnd : Nat → Int32 → Int32 → sS → Option (Int32 × sS)) (f_X5_readBinder : Nat → Int32 → Int32 → Int32 → Int32 → sS → Option (Int32 × sS)) (f_X5_readIf : Nat → Int32 → Int32 → sS → Option (Int32 × sS)) (f_X5_readInner : Nat → Int32 → Int32 → sS → Option (Int32 × sS)) (f_X5_readNot : Nat → Int32 → Int32 → sS → Option (Int32 × sS)) (f_X5_readOr : Nat → Int32 → Int32 → sS → Option (Int32 × sS)) (f_X5_readUnit : Nat → Int32 → Int32 → sS → Option (Int32 × sS)) (f_X5_readWord : Nat → Int32 → Int32 → sS → Option (Int32 × sS)) (vs : List Value) (σ : sS) : Option (sZ Int32) := (g_r vs).bind fun a0 => (g_i a0.2).bind fun a1 => (g_i a1.2).bind fun a2 => (g_i a2.2).bind fun a3 => (g_i a3.2).bind fun a4 => (g_e a4.2).bind fun _ => T_X5_readAnd_10 f_X5_readAnd f_X5_readBinder f_X5_readIf f_X5_readInner f_X5_readNot f_X5_readOr f_X5_readUnit f_X5_readWord a0.1 a1.1 a2.1 a3.1 a4.1 σ
noncomputable def S_X5_readAnd (f_X5_readAnd : Nat → Int32 → Int32 → sS → Option (Int32 × sS)) (f_X5_readBinder : Nat → Int32 → Int32 → Int32 → Int32 → sS → Option (Int32 × sS)) (f_X5_readIf : Nat → Int32 → Int32 → sS → Option (Int32 × sS)) (f_X5_readInner : Nat → Int32 → Int32 → sS → Option (Int32 × sS)) (f_X5_readNot : Nat → Int32 → Int32 → sS → Option (Int32 × sS)) (f_X5_readOr : Nat → Int32 → Int32 → sS → Option (Int32 × sS)) (f_X5_readUnit : Nat → Int32 → Int32 → sS → Option (Int32 × sS)) (f_X5_readWord : Nat → Int32 → Int32 → sS → Option (Int32 × sS)) (x : sL) : Option (sZ Int32) := if x.1 = 0 then U_X5_readAnd_0 f_X5_readAnd f_X5_readBinder f_X5_readIf f_X5_readInner f_X5_readNot f_X5_readOr f_X5_readUnit f_X5_readWord x.2.1 x.2.2 else if x.1 = 10 then U_X5_readAnd_10 f_X5_readAnd f_X5_readBinder f_X5_readIf f_X5_readInner f_X5_readNot f_X5_readOr f_X5_readUnit f_X5_readWord x.2.1 x.2.2 else none
def Y_X5_readAnd (pc : Nat) : List Nat := if pc = 0 then [0, 1, 2] else if pc = 10 then [0, 1, 2, 3, 4] else []
noncomputable def T_X5_readBinder_0 (f_X5_readAnd : Nat → Int32 → Int32 → sS → Option (Int32 × sS)) (f_X5_readBinder : Nat → Int32 → Int32 → Int32 → Int32 → sS → Option (Int32 × sS)) (f_X5_readIf : Nat → Int32 → Int32 → sS → Option (Int32 × sS)) (f_X5_readInner : Nat → Int32 → Int32 → sS → Option (Int32 × sS)) (f_X5_readNot : Nat → Int32 → Int32 → sS → Option (Int32 × sS)) (f_X5_readOr : Nat → Int32 → Int32 → sS → Option (Int32 × sS)) (f_X5_readUnit : Nat → Int32 → Int32 → sS → Option (Int32 × sS)) (f_X5_readWord : Nat → Int32 → Int32 → sS → Option (Int32 × sS)) (v0 : Nat) (v1 : Int32) (v2 : Int32) (v3 : Int32) (v4 : Int32) (σ : sS) : Option (sZ Int32) :=
  if v4 = 0 then ((F_X5_mayGoDeeper v0 v3 σ).bind fun q1 =>
  if q1.1 = 0 then (some (.inr ((-1), q1.2)))
  else ((s_fi q1.2 v0 5 4).bind fun x2 =>
  (F_X5_mayTakeSign v0 x2 q1.2).bind fun q3 =>
  if q3.1 = 0 then (some (.inr ((-1), q3.2)))
  else ((s_pf q3.2 v0 5 4 (.int v2)).bind fun σ4 =>
  (f_X5_readUnit v0 (v3 + 1) 1 σ4).bind fun q5 =>
  (s_fi q5.2 v0 5 1).bind fun x6 =>
  if x6 = (-1) then ((s_fr q5.2 v0 5 2).bind fun x7 =>
  (s_fi q5.2 v0 5 6).bind fun x8 =>
  (F_X2_makeBinder x7 v1 q5.1 x8 q5.2).bind fun q9 =>
  some (.inr (q9.1, q9.2)))
  else (some (.inr ((-1), q5.2))))))
  else ((s_fi σ v0 5 4).bind fun x10 =>
  (F_X5_fail v0 x10 σ).bind fun q11 =>
  some (.inr (q11.1, q11.2)))
noncomputable def U_X5_readBinder_0 (f_X5_readAnd : Nat → Int32 → Int32 → sS → Option (Int32 × sS)) (f_X5_readBinder : Nat → Int32 → Int32 → Int32 → Int32 → sS → Option (Int32 × sS)) (f_X5_readIf : Nat → Int32 → Int32 → sS → Option (Int32 × sS)) (f_X5_readInner : Nat → Int32 → Int32 → sS → Option (Int32 × sS)) (f_X5_readNot : Nat → Int32 → Int32 → sS → Option (Int32 × sS)) (f_X5_readOr : Nat → Int32 → Int32 → sS → Option (Int32 × sS)) (f_X5_readUnit : Nat → Int32 → Int32 → sS → Option (Int32 × sS)) (f_X5_readWord : Nat → Int32 → Int32 → sS → Option (Int32 × sS)) (vs : List Value) (σ : sS) : Option (sZ Int32) := (g_r vs).bind fun a0 => (g_i a0.2).bind fun a1 => (g_i a1.2).bind fun a2 => (g_i a2.2).bind fun a3 => (g_i a3.2).bind fun a4 => (g_e a4.2).bind fun _ => T_X5_readBinder_0 f_X5_readAnd f_X5_readBinder f_X5_readIf f_X5_readInner f_X5_readNot f_X5_readOr f_X5_readUnit f_X5_readWord a0.1 a1.1 a2.1 a3.1 a4.1 σ
noncomputable def S_X5_readBinder (f_X5_readAnd : Nat → Int32 → Int32 → sS → Option (Int32 × sS)) (f_X5_readBinder : Nat → Int32 → Int32 → Int32 → Int32 → sS → Option (Int32 × sS)) (f_X5_readIf : Nat → Int32 → Int32 → sS → Option (Int32 × sS)) (f_X5_readInner : Nat → Int32 → Int32 → sS → Option (Int32 × sS)) (f_X5_readNot : Nat → Int32 → Int32 → sS → Option (Int32 × sS)) (f_X5_readOr : Nat → Int32 → Int32 → sS → Option (Int32 × sS)) (f_X5_readUnit : Nat → Int32 → Int32 → sS → Option (Int32 × sS)) (f_X5_readWord : Nat → Int32 → Int32 → sS → Option (Int32 × sS)) (x : sL) : Option (sZ Int32) := if x.1 = 0 then U_X5_readBinder_0 f_X5_readAnd f_X5_readBinder f_X5_readIf f_X5_readInner f_X5_readNot f_X5_readOr f_X5_readUnit f_X5_readWord x.2.1 x.2.2 else none
def Y_X5_readBinder (pc : Nat) : List Nat := if pc = 0 then [0, 1, 2, 3, 4] else []
noncomputable def T_X5_readIf_0 (f_X5_readAnd : Nat → Int32 → Int32 → sS → Option (Int32 × sS)) (f_X5_readBinder : Nat → Int32 → Int32 → Int32 → Int32 → sS → Option (Int32 × sS)) (f_X5_readIf : Nat → Int32 → Int32 → sS → Option (Int32 × sS)) (f_X5_readInner : Nat → Int32 → Int32 → sS → Option (Int32 × sS)) (f_X5_readNot : Nat → Int32 → Int32 → sS → Option (Int32 × sS)) (f_X5_readOr : Nat → Int32 → Int32 → sS → Option (Int32 × sS)) (f_X5_readUnit : Nat → Int32 → Int32 → sS → Option (Int32 × sS)) (f_X5_readWord : Nat → Int32 → Int32 → sS → Option (Int32 × sS)) (v0 : Nat) (v1 : Int32) (v2 : Int32) (σ : sS) : Option (sZ Int32) :=
  (f_X5_readOr v0 v1 v2 σ).bind fun q1 =>
  (F_X5_peek v0 q1.2).bind fun q2 =>
  if q2.1 = 62 then ((F_X5_mayGoDeeper v0 v1 q2.2).bind fun q3 =>
  if q3.1 = 0 then (some (.inr (q1.1, q3.2)))
  else ((s_fi q3.2 v0 5 4).bind fun x4 =>
  (F_X5_mayTakeSign v0 x4 q3.2).bind fun q5 =>
  if q5.1 = 0 then (some (.inr (q1.1, q5.2)))
  else ((s_fi q5.2 v0 5 4).bind fun x6 =>
  (s_pf q5.2 v0 5 4 (.int (x6 + 1))).bind fun σ7 =>
  (f_X5_readIf v0 (v1 + 1) v2 σ7).bind fun q8 =>
  (F_X5_join v0 4 q1.1 q8.1 q8.2).bind fun q9 =>
  some (.inr (q9.1, q9.2)))))
  else (some (.inr (q1.1, q2.2)))
noncomputable def U_X5_readIf_0 (f_X5_readAnd : Nat → Int32 → Int32 → sS → Option (Int32 × sS)) (f_X5_readBinder : Nat → Int32 → Int32 → Int32 → Int32 → sS → Option (Int32 × sS)) (f_X5_readIf : Nat → Int32 → Int32 → sS → Option (Int32 × sS)) (f_X5_readInner : Nat → Int32 → Int32 → sS → Option (Int32 × sS)) (f_X5_readNot : Nat → Int32 → Int32 → sS → Option (Int32 × sS)) (f_X5_readOr : Nat → Int32 → Int32 → sS → Option (Int32 × sS)) (f_X5_readUnit : Nat → Int32 → Int32 → sS → Option (Int32 × sS)) (f_X5_readWord : Nat → Int32 → Int32 → sS → Option (Int32 × sS)) (vs : List Value) (σ : sS) : Option (sZ Int32) := (g_r vs).bind fun a0 => (g_i a0.2).bind fun a1 => (g_i a1.2).bind fun a2 => (g_e a2.2).bind fun _ => T_X5_readIf_0 f_X5_readAnd f_X5_readBinder f_X5_readIf f_X5_readInner f_X5_readNot f_X5_readOr f_X5_readUnit f_X5_readWord a0.1 a1.1 a2.1 σ
noncomputable def S_X5_readIf (f_X5_readAnd : Nat → Int32 → Int32 → sS → Option (Int32 × sS)) (f_X5_readBinder : Nat → Int32 → Int32 → Int32 → Int32 → sS → Option (Int32 × sS)) (f_X5_readIf : Nat → Int32 → Int32 → sS → Option (Int32 × sS)) (f_X5_readInner : Nat → Int32 → Int32 → sS → Option (Int32 × sS)) (f_X5_readNot : Nat → Int32 → Int32 → sS → Option (Int32 × sS)) (f_X5_readOr : Nat → Int32 → Int32 → sS → Option (Int32 × sS)) (f_X5_readUnit : Nat → Int32 → Int32 → sS → Option (Int32 × sS)) (f_X5_readWord : Nat → Int32 → Int32 → sS → Option (Int32 × sS)) (x : sL) : Option (sZ Int32) := if x.1 = 0 then U_X5_readIf_0 f_X5_readAnd f_X5_readBinder f_X5_readIf f_X5_readInner f_X5_readNot f_X5_readOr f_X5_readUnit f_X5_readWord x.2.1 x.2.2 else none
def Y_X5_readIf (pc : Nat) : List Nat := if pc = 0 then [0, 1, 2] else []
noncomputable def T_X5_readInner_0 (f_X5_readAnd : Nat → Int32 → Int32 → sS → Option (Int32 × sS)) (f_X5_readBinder : Nat → Int32 → Int32 → Int32 → Int32 → sS → Option (Int32 × sS)) (f_X5_readIf : Nat → Int32 → Int32 → sS → Option (Int32 × sS)) (f_X5_readInner : Nat → Int32 → Int32 → sS → Option (Int32 × sS)) (f_X5_readNot : Nat → Int32 → Int32 → sS → Option (Int32 × sS)) (f_X5_readOr : Nat → Int32 → Int32 → sS → Option (Int32 × sS)) (f_X5_readUnit : Nat → Int32 → Int32 → sS → Option (Int32 × sS)) (f_X5_readWord : Nat → Int32 → Int32 → sS → Option (Int32 × sS)) (v0 : Nat) (v1 : Int32) (v2 : Int32) (σ : sS) : Option (sZ Int32) :=
  (F_X5_mayGoDeeper v0 v1 σ).bind fun q1 =>
  if q1.1 = 0 then (some (.inr ((-1), q1.2)))
  else ((s_fi q1.2 v0 5 4).bind fun x2 =>
  (s_pf q1.2 v0 5 4 (.int (x2 + 1))).bind fun σ3 =>
  (f_X5_readIf v0 (v1 + 1) v2 σ3).bind fun q4 =>
  (F_X5_peek v0 q4.2).bind fun q5 =>
  if q5.1 = (-1) then ((s_fi q5.2 v0 5 0).bind fun x10 =>
  (F_X5_fail v0 x10 q5.2).bind fun q11 =>
  some (.inr (q11.1, q11.2)))
  else (if q5.1 = 41 then ((s_fi q5.2 v0 5 4).bind fun x6 =>
  (s_pf q5.2 v0 5 4 (.int (x6 + 1))).bind fun σ7 =>
  some (.inr (q4.1, σ7)))
  else ((s_fi q5.2 v0 5 4).bind fun x8 =>
  (F_X5_fail v0 x8 q5.2).bind fun q9 =>
  some (.inr (q9.1, q9.2)))))
noncomputable def U_X5_readInner_0 (f_X5_readAnd : Nat → Int32 → Int32 → sS → Option (Int32 × sS)) (f_X5_readBinder : Nat → Int32 → Int32 → Int32 → Int32 → sS → Option (Int32 × sS)) (f_X5_readIf : Nat → Int32 → Int32 → sS → Option (Int32 × sS)) (f_X5_readInner : Nat → Int32 → Int32 → sS → Option (Int32 × sS)) (f_X5_readNot : Nat → Int32 → Int32 → sS → Option (Int32 × sS)) (f_X5_readOr : Nat → Int32 → Int32 → sS → Option (Int32 × sS)) (f_X5_readUnit : Nat → Int32 → Int32 → sS → Option (Int32 × sS)) (f_X5_readWord : Nat → Int32 → Int32 → sS → Option (Int32 × sS)) (vs : List Value) (σ : sS) : Option (sZ Int32) := (g_r vs).bind fun a0 => (g_i a0.2).bind fun a1 => (g_i a1.2).bind fun a2 => (g_e a2.2).bind fun _ => T_X5_readInner_0 f_X5_readAnd f_X5_readBinder f_X5_readIf f_X5_readInner f_X5_readNot f_X5_readOr f_X5_readUnit f_X5_readWord a0.1 a1.1 a2.1 σ
noncomputable def S_X5_readInner (f_X5_readAnd : Nat → Int32 → Int32 → sS → Option (Int32 × sS)) (f_X5_readBinder : Nat → Int32 → Int32 → Int32 → Int32 → sS → Option (Int32 × sS)) (f_X5_readIf : Nat → Int32 → Int32 → sS → Option (Int32 × sS)) (f_X5_readInner : Nat → Int32 → Int32 → sS → Option (Int32 × sS)) (f_X5_readNot : Nat → Int32 → Int32 → sS → Option (Int32 × sS)) (f_X5_readOr : Nat → Int32 → Int32 → sS → Option (Int32 × sS)) (f_X5_readUnit : Nat → Int32 → Int32 → sS → Option (Int32 × sS)) (f_X5_readWord : Nat → Int32 → Int32 → sS → Option (Int32 × sS)) (x : sL) : Option (sZ Int32) := if x.1 = 0 then U_X5_readInner_0 f_X5_readAnd f_X5_readBinder f_X5_readIf f_X5_readInner f_X5_readNot f_X5_readOr f_X5_readUnit f_X5_readWord x.2.1 x.2.2 else none
def Y_X5_readInner (pc : Nat) : List Nat := if pc = 0 then [0, 1, 2] else []
noncomputable def T_X5_readNot_0 (f_X5_readAnd : Nat → Int32 → Int32 → sS → Option (Int32 × sS)) (f_X5_readBinder : Nat → Int32 → Int32 → Int32 → Int32 → sS → Option (Int32 × sS)) (f_X5_readIf : Nat → Int32 → Int32 → sS → Option (Int32 × sS)) (f_X5_readInner : Nat → Int32 → Int32 → sS → Option (Int32 × sS)) (f_X5_readNot : Nat → Int32 → Int32 → sS → Option (Int32 × sS)) (f_X5_readOr : Nat → Int32 → Int32 → sS → Option (Int32 × sS)) (f_X5_readUnit : Nat → Int32 → Int32 → sS → Option (Int32 × sS)) (f_X5_readWord : Nat → Int32 → Int32 → sS → Option (Int32 × sS)) (v0 : Nat) (v1 : Int32) (v2 : Int32) (σ : sS) : Option (sZ Int32) :=
  (F_X5_mayGoDeeper v0 v1 σ).bind fun q1 =>
  if q1.1 = 0 then (some (.inr ((-1), q1.2)))
  else ((s_fi q1.2 v0 5 4).bind fun x2 =>
  (F_X5_mayTakeSign v0 x2 q1.2).bind fun q3 =>
  if q3.1 = 0 then (some (.inr ((-1), q3.2)))
  else ((s_fi q3.2 v0 5 4).bind fun x4 =>
  (s_pf q3.2 v0 5 4 (.int (x4 + 1))).bind fun σ5 =>
  (f_X5_readUnit v0 (v1 + 1) v2 σ5).bind fun q6 =>
  (F_X5_join v0 1 q6.1 (-1) q6.2).bind fun q7 =>
  some (.inr (q7.1, q7.2))))
noncomputable def U_X5_readNot_0 (f_X5_readAnd : Nat → Int32 → Int32 → sS → Option (Int32 × sS)) (f_X5_readBinder : Nat → Int32 → Int32 → Int32 → Int32 → sS → Option (Int32 × sS)) (f_X5_readIf : Nat → Int32 → Int32 → sS → Option (Int32 × sS)) (f_X5_readInner : Nat → Int32 → Int32 → sS → Option (Int32 × sS)) (f_X5_readNot : Nat → Int32 → Int32 → sS → Option (Int32 × sS)) (f_X5_readOr : Nat → Int32 → Int32 → sS → Option (Int32 × sS)) (f_X5_readUnit : Nat → Int32 → Int32 → sS → Option (Int32 × sS)) (f_X5_readWord : Nat → Int32 → Int32 → sS → Option (Int32 × sS)) (vs : List Value) (σ : sS) : Option (sZ Int32) := (g_r vs).bind fun a0 => (g_i a0.2).bind fun a1 => (g_i a1.2).bind fun a2 => (g_e a2.2).bind fun _ => T_X5_readNot_0 f_X5_readAnd f_X5_readBinder f_X5_readIf f_X5_readInner f_X5_readNot f_X5_readOr f_X5_readUnit f_X5_readWord a0.1 a1.1 a2.1 σ
noncomputable def S_X5_readNot (f_X5_readAnd : Nat → Int32 → Int32 → sS → Option (Int32 × sS)) (f_X5_readBinder : Nat → Int32 → Int32 → Int32 → Int32 → sS → Option (Int32 × sS)) (f_X5_readIf : Nat → Int32 → Int32 → sS → Option (Int32 × sS)) (f_X5_readInner : Nat → Int32 → Int32 → sS → Option (Int32 × sS)) (f_X5_readNot : Nat → Int32 → Int32 → sS → Option (Int32 × sS)) (f_X5_readOr : Nat → Int32 → Int32 → sS → Option (Int32 × sS)) (f_X5_readUnit : Nat → Int32 → Int32 → sS → Option (Int32 × sS)) (f_X5_readWord : Nat → Int32 → Int32 → sS → Option (Int32 × sS)) (x : sL) : Option (sZ Int32) := if x.1 = 0 then U_X5_readNot_0 f_X5_readAnd f_X5_readBinder f_X5_readIf f_X5_readInner f_X5_readNot f_X5_readOr f_X5_readUnit f_X5_readWord x.2.1 x.2.2 else none
def Y_X5_readNot (pc : Nat) : List Nat := if pc = 0 then [0, 1, 2] else []
noncomputable def T_X5_readOr_0 (f_X5_readAnd : Nat → Int32 → Int32 → sS → Option (Int32 × sS)) (f_X5_readBinder : Nat → Int32 → Int32 → Int32 → Int32 → sS → Option (Int32 × sS)) (f_X5_readIf : Nat → Int32 → Int32 → sS → Option (Int32 × sS)) (f_X5_readInner : Nat → Int32 → Int32 → sS → Option (Int32 × sS)) (f_X5_readNot : Nat → Int32 → Int32 → sS → Option (Int32 × sS)) (f_X5_readOr : Nat → Int32 → Int32 → sS → Option (Int32 × sS)) (f_X5_readUnit : Nat → Int32 → Int32 → sS → Option (Int32 × sS)) (f_X5_readWord : Nat → Int32 → Int32 → sS → Option (Int32 × sS)) (v0 : Nat) (v1 : Int32) (v2 : Int32) (σ : sS) : Option (sZ Int32) :=
  (f_X5_readAnd v0 v1 v2 σ).bind fun q1 =>
  some (.inl (10, [.ref v0, .int v1, .int v2, .int q1.1, .int 0], q1.2))
noncomputable def U_X5_readOr_0 (f_X5_readAnd : Nat → Int32 → Int32 → sS → Option (Int32 × sS)) (f_X5_readBinder : Nat → Int32 → Int32 → Int32 → Int32 → sS → Option (Int32 × sS)) (f_X5_readIf : Nat → Int32 → Int32 → sS → Option (Int32 × sS)) (f_X5_readInner : Nat → Int32 → Int32 → sS → Option (Int32 × sS)) (f_X5_readNot : Nat → Int32 → Int32 → sS → Option (Int32 × sS)) (f_X5_readOr : Nat → Int32 → Int32 → sS → Option (Int32 × sS)) (f_X5_readUnit : Nat → Int32 → Int32 → sS → Option (Int32 × sS)) (f_X5_readWord : Nat → Int32 → Int32 → sS → Option (Int32 × sS)) (vs : List Value) (σ : sS) : Option (sZ Int32) := (g_r vs).bind fun a0 => (g_i a0.2).bind fun a1 => (g_i a1.2).bind fun a2 => (g_e a2.2).bind fun _ => T_X5_readOr_0 f_X5_readAnd f_X5_readBinder f_X5_readIf f_X5_readInner f_X5_readNot f_X5_readOr f_X5_readUnit f_X5_readWord a0.1 a1.1 a2.1 σ
noncomputable def T_X5_readOr_10 (f_X5_readAnd : Nat → Int32 → Int32 → sS → Option (Int32 × sS)) (f_X5_readBinder : Nat → Int32 → Int32 → Int32 → Int32 → sS → Option (Int32 × sS)) (f_X5_readIf : Nat → Int32 → Int32 → sS → Option (Int32 × sS)) (f_X5_readInner : Nat → Int32 → Int32 → sS → Option (Int32 × sS)) (f_X5_readNot : Nat → Int32 → Int32 → sS → Option (Int32 × sS)) (f_X5_readOr : Nat → Int32 → Int32 → sS → Option (Int32 × sS)) (f_X5_readUnit : Nat → Int32 → Int32 → sS → Option (Int32 × sS)) (f_X5_readWord : Nat → Int32 → Int32 → sS → Option (Int32 × sS)) (v0 : Nat) (v1 : Int32) (v2 : Int32) (v3 : Int32) (v4 : Int32) (σ : sS) : Option (sZ Int32) :=
  if (400 : Int32) ≤ v4 then (some (.inr (v3, σ)))
  else ((F_X5_peek v0 σ).bind fun q1 =>
  if q1.1 = 124 then ((s_fi q1.2 v0 5 4).bind fun x2 =>
  (F_X5_mayTakeSign v0 x2 q1.2).bind fun q3 =>
  if q3.1 = 0 then (some (.inr (v3, q3.2)))
  else ((s_fi q3.2 v0 5 4).bind fun x4 =>
  (s_pf q3.2 v0 5 4 (.int (x4 + 1))).bind fun σ5 =>
  (f_X5_readAnd v0 v1 v2 σ5).bind fun q6 =>
  (F_X5_join v0 3 v3 q6.1 q6.2).bind fun q7 =>
  some (.inl (10, [.ref v0, .int v1, .int v2, .int q7.1, .int (v4 + 1)], q7.2))))
  else (some (.inr (v3, q1.2))))
noncomputable def U_X5_readOr_10 (f_X5_readAnd : Nat → Int32 → Int32 → sS → Option (Int32 × sS)) (f_X5_readBinder : Nat → Int32 → Int32 → Int32 → Int32 → sS → Option (Int32 × sS)) (f_X5_readIf : Nat → Int32 → Int32 → sS → Option (Int32 × sS)) (f_X5_readInner : Nat → Int32 → Int32 → sS → Option (Int32 × sS)) (f_X5_readNot : Nat → Int32 → Int32 → sS → Option (Int32 × sS)) (f_X5_readOr : Nat → Int32 → Int32 → sS → Option (Int32 × sS)) (f_X5_readUnit : Nat → Int32 → Int32 → sS → Option (Int32 × sS)) (f_X5_readWord : Nat → Int32 → Int32 → sS → Option (Int32 × sS)) (vs : List Value) (σ : sS) : Option (sZ Int32) := (g_r vs).bind fun a0 => (g_i a0.2).bind fun a1 => (g_i a1.2).bind fun a2 => (g_i a2.2).bind fun a3 => (g_i a3.2).bind fun a4 => (g_e a4.2).bind fun _ => T_X5_readOr_10 f_X5_readAnd f_X5_readBinder f_X5_readIf f_X5_readInner f_X5_readNot f_X5_readOr f_X5_readUnit f_X5_readWord a0.1 a1.1 a2.1 a3.1 a4.1 σ
noncomputable def S_X5_readOr (f_X5_readAnd : Nat → Int32 → Int32 → sS → Option (Int32 × sS)) (f_X5_readBinder : Nat → Int32 → Int32 → Int32 → Int32 → sS → Option (Int32 × sS)) (f_X5_readIf : Nat → Int32 → Int32 → sS → Option (Int32 × sS)) (f_X5_readInner : Nat → Int32 → Int32 → sS → Option (Int32 × sS)) (f_X5_readNot : Nat → Int32 → Int32 → sS → Option (Int32 × sS)) (f_X5_readOr : Nat → Int32 → Int32 → sS → Option (Int32 × sS)) (f_X5_readUnit : Nat → Int32 → Int32 → sS → Option (Int32 × sS)) (f_X5_readWord : Nat → Int32 → Int32 → sS → Option (Int32 × sS)) (x : sL) : Option (sZ Int32) := if x.1 = 0 then U_X5_readOr_0 f_X5_readAnd f_X5_readBinder f_X5_readIf f_X5_readInner f_X5_readNot f_X5_readOr f_X5_readUnit f_X5_readWord x.2.1 x.2.2 else if x.1 = 10 then U_X5_readOr_10 f_X5_readAnd f_X5_readBinder f_X5_readIf f_X5_readInner f_X5_readNot f_X5_readOr f_X5_readUnit f_X5_readWord x.2.1 x.2.2 else none
def Y_X5_readOr (pc : Nat) : List Nat := if pc = 0 then [0, 1, 2] else if pc = 10 then [0, 1, 2, 3, 4] else []
noncomputable def T_X5_readUnit_0 (f_X5_readAnd : Nat → Int32 → Int32 → sS → Option (Int32 × sS)) (f_X5_readBinder : Nat → Int32 → Int32 → Int32 → Int32 → sS → Option (Int32 × sS)) (f_X5_readIf : Nat → Int32 → Int32 → sS → Option (Int32 × sS)) (f_X5_readInner : Nat → Int32 → Int32 → sS → Option (Int32 × sS)) (f_X5_readNot : Nat → Int32 → Int32 → sS → Option (Int32 × sS)) (f_X5_readOr : Nat → Int32 → Int32 → sS → Option (Int32 × sS)) (f_X5_readUnit : Nat → Int32 → Int32 → sS → Option (Int32 × sS)) (f_X5_readWord : Nat → Int32 → Int32 → sS → Option (Int32 × sS)) (v0 : Nat) (v1 : Int32) (v2 : Int32) (σ : sS) : Option (sZ Int32) :=
  (F_X5_peek v0 σ).bind fun q1 =>
  if q1.1 = (-1) then ((s_fi q1.2 v0 5 0).bind fun x9 =>
  (F_X5_fail v0 x9 q1.2).bind fun q10 =>
  some (.inr (q10.1, q10.2)))
  else (if q1.1 = 45 then ((f_X5_readNot v0 v1 v2 q1.2).bind fun q8 =>
  some (.inr (q8.1, q8.2)))
  else (if q1.1 = 40 then ((f_X5_readInner v0 v1 v2 q1.2).bind fun q7 =>
  some (.inr (q7.1, q7.2)))
  else ((s_fi q1.2 v0 5 4).bind fun x2 =>
  (F_X5_isLetter v0 x2 q1.2).bind fun q3 =>
  if q3.1 = 0 then ((s_fi q3.2 v0 5 4).bind fun x4 =>
  (F_X5_fail v0 x4 q3.2).bind fun q5 =>
  some (.inr (q5.1, q5.2)))
  else ((f_X5_readWord v0 v1 v2 q3.2).bind fun q6 =>
  some (.inr (q6.1, q6.2))))))
noncomputable def U_X5_readUnit_0 (f_X5_readAnd : Nat → Int32 → Int32 → sS → Option (Int32 × sS)) (f_X5_readBinder : Nat → Int32 → Int32 → Int32 → Int32 → sS → Option (Int32 × sS)) (f_X5_readIf : Nat → Int32 → Int32 → sS → Option (Int32 × sS)) (f_X5_readInner : Nat → Int32 → Int32 → sS → Option (Int32 × sS)) (f_X5_readNot : Nat → Int32 → Int32 → sS → Option (Int32 × sS)) (f_X5_readOr : Nat → Int32 → Int32 → sS → Option (Int32 × sS)) (f_X5_readUnit : Nat → Int32 → Int32 → sS → Option (Int32 × sS)) (f_X5_readWord : Nat → Int32 → Int32 → sS → Option (Int32 × sS)) (vs : List Value) (σ : sS) : Option (sZ Int32) := (g_r vs).bind fun a0 => (g_i a0.2).bind fun a1 => (g_i a1.2).bind fun a2 => (g_e a2.2).bind fun _ => T_X5_readUnit_0 f_X5_readAnd f_X5_readBinder f_X5_readIf f_X5_readInner f_X5_readNot f_X5_readOr f_X5_readUnit f_X5_readWord a0.1 a1.1 a2.1 σ
noncomputable def S_X5_readUnit (f_X5_readAnd : Nat → Int32 → Int32 → sS → Option (Int32 × sS)) (f_X5_readBinder : Nat → Int32 → Int32 → Int32 → Int32 → sS → Option (Int32 × sS)) (f_X5_readIf : Nat → Int32 → Int32 → sS → Option (Int32 × sS)) (f_X5_readInner : Nat → Int32 → Int32 → sS → Option (Int32 × sS)) (f_X5_readNot : Nat → Int32 → Int32 → sS → Option (Int32 × sS)) (f_X5_readOr : Nat → Int32 → Int32 → sS → Option (Int32 × sS)) (f_X5_readUnit : Nat → Int32 → Int32 → sS → Option (Int32 × sS)) (f_X5_readWord : Nat → Int32 → Int32 → sS → Option (Int32 × sS)) (x : sL) : Option (sZ Int32) := if x.1 = 0 then U_X5_readUnit_0 f_X5_readAnd f_X5_readBinder f_X5_readIf f_X5_readInner f_X5_readNot f_X5_readOr f_X5_readUnit f_X5_readWord x.2.1 x.2.2 else none
def Y_X5_readUnit (pc : Nat) : List Nat := if pc = 0 then [0, 1, 2] else []
noncomputable def T_X5_readWord_0 (f_X5_readAnd : Nat → Int32 → Int32 → sS → Option (Int32 × sS)) (f_X5_readBinder : Nat → Int32 → Int32 → Int32 → Int32 → sS → Option (Int32 × sS)) (f_X5_readIf : Nat → Int32 → Int32 → sS → Option (Int32 × sS)) (f_X5_readInner : Nat → Int32 → Int32 → sS → Option (Int32 × sS)) (f_X5_readNot : Nat → Int32 → Int32 → sS → Option (Int32 × sS)) (f_X5_readOr : Nat → Int32 → Int32 → sS → Option (Int32 × sS)) (f_X5_readUnit : Nat → Int32 → Int32 → sS → Option (Int32 × sS)) (f_X5_readWord : Nat → Int32 → Int32 → sS → Option (Int32 × sS)) (v0 : Nat) (v1 : Int32) (v2 : Int32) (σ : sS) : Option (sZ Int32) :=
  (s_fi σ v0 5 4).bind fun x1 =>
  (F_X5_wordEnd v0 σ).bind fun q2 =>
  (F_X5_isWord v0 x1 q2.1 (q2.2.2.2.2 2) q2.2).bind fun q3 =>
  if q3.1 = 0 then ((F_X5_isWord v0 x1 q2.1 (q3.2.2.2.2 3) q3.2).bind fun q4 =>
  if q4.1 = 0 then (if (q2.1 - x1) = 1 then ((F_X5_byteAt v0 x1 q4.2).bind fun q7 =>
  (F_X5_readShort v0 q7.1 q7.2).bind fun q8 =>
  some (.inr (q8.1, q8.2)))
  else ((F_X5_isWord v0 x1 q2.1 (q4.2.2.2.2 4) q4.2).bind fun q5 =>
  if q5.1 = 0 then ((F_X5_isWord v0 x1 q2.1 (q5.2.2.2.2 5) q5.2).bind fun q6 =>
  if q6.1 = 0 then (some (.inl (103, [.ref v0, .int v2, .int x1, .int q2.1, .int 0], q6.2)))
  else (some (.inl (98, [.ref v0, .int v2, .int x1, .int q2.1], q6.2))))
  else (some (.inl (98, [.ref v0, .int v2, .int x1, .int q2.1], q5.2)))))
  else ((f_X5_readBinder v0 6 q2.1 v1 v2 q4.2).bind fun q9 =>
  some (.inr (q9.1, q9.2))))
  else ((f_X5_readBinder v0 5 q2.1 v1 v2 q3.2).bind fun q10 =>
  some (.inr (q10.1, q10.2)))
noncomputable def U_X5_readWord_0 (f_X5_readAnd : Nat → Int32 → Int32 → sS → Option (Int32 × sS)) (f_X5_readBinder : Nat → Int32 → Int32 → Int32 → Int32 → sS → Option (Int32 × sS)) (f_X5_readIf : Nat → Int32 → Int32 → sS → Option (Int32 × sS)) (f_X5_readInner : Nat → Int32 → Int32 → sS → Option (Int32 × sS)) (f_X5_readNot : Nat → Int32 → Int32 → sS → Option (Int32 × sS)) (f_X5_readOr : Nat → Int32 → Int32 → sS → Option (Int32 × sS)) (f_X5_readUnit : Nat → Int32 → Int32 → sS → Option (Int32 × sS)) (f_X5_readWord : Nat → Int32 → Int32 → sS → Option (Int32 × sS)) (vs : List Value) (σ : sS) : Option (sZ Int32) := (g_r vs).bind fun a0 => (g_i a0.2).bind fun a1 => (g_i a1.2).bind fun a2 => (g_e a2.2).bind fun _ => T_X5_readWord_0 f_X5_readAnd f_X5_readBinder f_X5_readIf f_X5_readInner f_X5_readNot f_X5_readOr f_X5_readUnit f_X5_readWord a0.1 a1.1 a2.1 σ
noncomputable def T_X5_readWord_98 (f_X5_readAnd : Nat → Int32 → Int32 → sS → Option (Int32 × sS)) (f_X5_readBinder : Nat → Int32 → Int32 → Int32 → Int32 → sS → Option (Int32 × sS)) (f_X5_readIf : Nat → Int32 → Int32 → sS → Option (Int32 × sS)) (f_X5_readInner : Nat → Int32 → Int32 → sS → Option (Int32 × sS)) (f_X5_readNot : Nat → Int32 → Int32 → sS → Option (Int32 × sS)) (f_X5_readOr : Nat → Int32 → Int32 → sS → Option (Int32 × sS)) (f_X5_readUnit : Nat → Int32 → Int32 → sS → Option (Int32 × sS)) (f_X5_readWord : Nat → Int32 → Int32 → sS → Option (Int32 × sS)) (v0 : Nat) (v2 : Int32) (v3 : Int32) (v4 : Int32) (σ : sS) : Option (sZ Int32) :=
  some (.inl (103, [.ref v0, .int v2, .int v3, .int v4, .int 1], σ))
noncomputable def U_X5_readWord_98 (f_X5_readAnd : Nat → Int32 → Int32 → sS → Option (Int32 × sS)) (f_X5_readBinder : Nat → Int32 → Int32 → Int32 → Int32 → sS → Option (Int32 × sS)) (f_X5_readIf : Nat → Int32 → Int32 → sS → Option (Int32 × sS)) (f_X5_readInner : Nat → Int32 → Int32 → sS → Option (Int32 × sS)) (f_X5_readNot : Nat → Int32 → Int32 → sS → Option (Int32 × sS)) (f_X5_readOr : Nat → Int32 → Int32 → sS → Option (Int32 × sS)) (f_X5_readUnit : Nat → Int32 → Int32 → sS → Option (Int32 × sS)) (f_X5_readWord : Nat → Int32 → Int32 → sS → Option (Int32 × sS)) (vs : List Value) (σ : sS) : Option (sZ Int32) := (g_r vs).bind fun a0 => (g_i a0.2).bind fun a1 => (g_i a1.2).bind fun a2 => (g_i a2.2).bind fun a3 => (g_e a3.2).bind fun _ => T_X5_readWord_98 f_X5_readAnd f_X5_readBinder f_X5_readIf f_X5_readInner f_X5_readNot f_X5_readOr f_X5_readUnit f_X5_readWord a0.1 a1.1 a2.1 a3.1 σ
noncomputable def T_X5_readWord_103 (f_X5_readAnd : Nat → Int32 → Int32 → sS → Option (Int32 × sS)) (f_X5_readBinder : Nat → Int32 → Int32 → Int32 → Int32 → sS → Option (Int32 × sS)) (f_X5_readIf : Nat → Int32 → Int32 → sS → Option (Int32 × sS)) (f_X5_readInner : Nat → Int32 → Int32 → sS → Option (Int32 × sS)) (f_X5_readNot : Nat → Int32 → Int32 → sS → Option (Int32 × sS)) (f_X5_readOr : Nat → Int32 → Int32 → sS → Option (Int32 × sS)) (f_X5_readUnit : Nat → Int32 → Int32 → sS → Option (Int32 × sS)) (f_X5_readWord : Nat → Int32 → Int32 → sS → Option (Int32 × sS)) (v0 : Nat) (v2 : Int32) (v3 : Int32) (v4 : Int32) (w0 : Int32) (σ : sS) : Option (sZ Int32) :=
  if w0 = 0 then (some (.inl (122, [.ref v0, .int v3], σ)))
  else (if v2 = 0 then (some (.inl (122, [.ref v0, .int v3], σ)))
  else ((F_X5_mayTakeSign v0 v3 σ).bind fun q1 =>
  if q1.1 = 0 then (some (.inl (122, [.ref v0, .int v3], q1.2)))
  else ((s_pf q1.2 v0 5 4 (.int v4)).bind fun σ2 =>
  (s_fr σ2 v0 5 2).bind fun x3 =>
  (F_X5_byteAt v0 v3 σ2).bind fun q4 =>
  (F_X5_letterOf q4.1 q4.2).bind fun q5 =>
  (F_X2_makeAtom x3 q5.1 3 q5.2).bind fun q6 =>
  some (.inr (q6.1, q6.2)))))
noncomputable def U_X5_readWord_103 (f_X5_readAnd : Nat → Int32 → Int32 → sS → Option (Int32 × sS)) (f_X5_readBinder : Nat → Int32 → Int32 → Int32 → Int32 → sS → Option (Int32 × sS)) (f_X5_readIf : Nat → Int32 → Int32 → sS → Option (Int32 × sS)) (f_X5_readInner : Nat → Int32 → Int32 → sS → Option (Int32 × sS)) (f_X5_readNot : Nat → Int32 → Int32 → sS → Option (Int32 × sS)) (f_X5_readOr : Nat → Int32 → Int32 → sS → Option (Int32 × sS)) (f_X5_readUnit : Nat → Int32 → Int32 → sS → Option (Int32 × sS)) (f_X5_readWord : Nat → Int32 → Int32 → sS → Option (Int32 × sS)) (vs : List Value) (σ : sS) : Option (sZ Int32) := (g_r vs).bind fun a0 => (g_i a0.2).bind fun a1 => (g_i a1.2).bind fun a2 => (g_i a2.2).bind fun a3 => (g_i a3.2).bind fun a4 => (g_e a4.2).bind fun _ => T_X5_readWord_103 f_X5_readAnd f_X5_readBinder f_X5_readIf f_X5_readInner f_X5_readNot f_X5_readOr f_X5_readUnit f_X5_readWord a0.1 a1.1 a2.1 a3.1 a4.1 σ
noncomputable def T_X5_readWord_122 (f_X5_readAnd : Nat → Int32 → Int32 → sS → Option (Int32 × sS)) (f_X5_readBinder : Nat → Int32 → Int32 → Int32 → Int32 → sS → Option (Int32 × sS)) (f_X5_readIf : Nat → Int32 → Int32 → sS → Option (Int32 × sS)) (f_X5_readInner : Nat → Int32 → Int32 → sS → Option (Int32 × sS)) (f_X5_readNot : Nat → Int32 → Int32 → sS → Option (Int32 × sS)) (f_X5_readOr : Nat → Int32 → Int32 → sS → Option (Int32 × sS)) (f_X5_readUnit : Nat → Int32 → Int32 → sS → Option (Int32 × sS)) (f_X5_readWord : Nat → Int32 → Int32 → sS → Option (Int32 × sS)) (v0 : Nat) (v3 : Int32) (σ : sS) : Option (sZ Int32) :=
  (F_X5_fail v0 v3 σ).bind fun q1 =>
  some (.inr (q1.1, q1.2))
noncomputable def U_X5_readWord_122 (f_X5_readAnd : Nat → Int32 → Int32 → sS → Option (Int32 × sS)) (f_X5_readBinder : Nat → Int32 → Int32 → Int32 → Int32 → sS → Option (Int32 × sS)) (f_X5_readIf : Nat → Int32 → Int32 → sS → Option (Int32 × sS)) (f_X5_readInner : Nat → Int32 → Int32 → sS → Option (Int32 × sS)) (f_X5_readNot : Nat → Int32 → Int32 → sS → Option (Int32 × sS)) (f_X5_readOr : Nat → Int32 → Int32 → sS → Option (Int32 × sS)) (f_X5_readUnit : Nat → Int32 → Int32 → sS → Option (Int32 × sS)) (f_X5_readWord : Nat → Int32 → Int32 → sS → Option (Int32 × sS)) (vs : List Value) (σ : sS) : Option (sZ Int32) := (g_r vs).bind fun a0 => (g_i a0.2).bind fun a1 => (g_e a1.2).bind fun _ => T_X5_readWord_122 f_X5_readAnd f_X5_readBinder f_X5_readIf f_X5_readInner f_X5_readNot f_X5_readOr f_X5_readUnit f_X5_readWord a0.1 a1.1 σ
noncomputable def S_X5_readWord (f_X5_readAnd : Nat → Int32 → Int32 → sS → Option (Int32 × sS)) (f_X5_readBinder : Nat → Int32 → Int32 → Int32 → Int32 → sS → Option (Int32 × sS)) (f_X5_readIf : Nat → Int32 → Int32 → sS → Option (Int32 × sS)) (f_X5_readInner : Nat → Int32 → Int32 → sS → Option (Int32 × sS)) (f_X5_readNot : Nat → Int32 → Int32 → sS → Option (Int32 × sS)) (f_X5_readOr : Nat → Int32 → Int32 → sS → Option (Int32 × sS)) (f_X5_readUnit : Nat → Int32 → Int32 → sS → Option (Int32 × sS)) (f_X5_readWord : Nat → Int32 → Int32 → sS → Option (Int32 × sS)) (x : sL) : Option (sZ Int32) := if x.1 = 0 then U_X5_readWord_0 f_X5_readAnd f_X5_readBinder f_X5_readIf f_X5_readInner f_X5_readNot f_X5_readOr f_X5_readUnit f_X5_readWord x.2.1 x.2.2 else if x.1 = 98 then U_X5_readWord_98 f_X5_readAnd f_X5_readBinder f_X5_readIf f_X5_readInner f_X5_readNot f_X5_readOr f_X5_readUnit f_X5_readWord x.2.1 x.2.2 else if x.1 = 103 then U_X5_readWord_103 f_X5_readAnd f_X5_readBinder f_X5_readIf f_X5_readInner f_X5_readNot f_X5_readOr f_X5_readUnit f_X5_readWord x.2.1 x.2.2 else if x.1 = 122 then U_X5_readWord_122 f_X5_readAnd f_X5_readBinder f_X5_readIf f_X5_readInner f_X5_readNot f_X5_readOr f_X5_readUnit f_X5_readWord x.2.1 x.2.2 else none
def Y_X5_readWord (pc : Nat) : List Nat := if pc = 0 then [0, 1, 2] else if pc = 98 then [0, 2, 3, 4] else if pc = 103 then [0, 2, 3, 4] else if pc = 122 then [0, 3] else []
noncomputable def Q_X5_readAnd : Nat → (Nat → Int32 → Int32 → sS → Option (Int32 × sS)) × (Nat → Int32 → Int32 → Int32 → Int32 → sS → Option (Int32 × sS)) × (Nat → Int32 → Int32 → sS → Option (Int32 × sS)) × (Nat → Int32 → Int32 → sS → Option (Int32 × sS)) × (Nat → Int32 → Int32 → sS → Option (Int32 × sS)) × (Nat → Int32 → Int32 → sS → Option (Int32 × sS)) × (Nat → Int32 → Int32 → sS → Option (Int32 × sS)) × (Nat → Int32 → Int32 → sS → Option (Int32 × sS))
  | 0 => (fun _ _ _ _ => none, fun _ _ _ _ _ _ => none, fun _ _ _ _ => none, fun _ _ _ _ => none, fun _ _ _ _ => none, fun _ _ _ _ => none, fun _ _ _ _ => none, fun _ _ _ _ => none)
  | k + 1 => (fun v0 v1 v2 σ => (s_is σ v0 5).bind fun _ => s_run (S_X5_readAnd (Q_X5_readAnd k).1 (Q_X5_readAnd k).2.1 (Q_X5_readAnd k).2.2.1 (Q_X5_readAnd k).2.2.2.1 (Q_X5_readAnd k).2.2.2.2.1 (Q_X5_readAnd k).2.2.2.2.2.1 (Q_X5_readAnd k).2.2.2.2.2.2.1 (Q_X5_readAnd k).2.2.2.2.2.2.2) (0, [.ref v0, .int v1, .int v2], σ),
    fun v0 v1 v2 v3 v4 σ => (s_is σ v0 5).bind fun _ => s_run (S_X5_readBinder (Q_X5_readAnd k).1 (Q_X5_readAnd k).2.1 (Q_X5_readAnd k).2.2.1 (Q_X5_readAnd k).2.2.2.1 (Q_X5_readAnd k).2.2.2.2.1 (Q_X5_readAnd k).2.2.2.2.2.1 (Q_X5_readAnd k).2.2.2.2.2.2.1 (Q_X5_readAnd k).2.2.2.2.2.2.2) (0, [.ref v0, .int v1, .int v2, .int v3, .int v4], σ),
    fun v0 v1 v2 σ => (s_is σ v0 5).bind fun _ => s_run (S_X5_readIf (Q_X5_readAnd k).1 (Q_X5_readAnd k).2.1 (Q_X5_readAnd k).2.2.1 (Q_X5_readAnd k).2.2.2.1 (Q_X5_readAnd k).2.2.2.2.1 (Q_X5_readAnd k).2.2.2.2.2.1 (Q_X5_readAnd k).2.2.2.2.2.2.1 (Q_X5_readAnd k).2.2.2.2.2.2.2) (0, [.ref v0, .int v1, .int v2], σ),
    fun v0 v1 v2 σ => (s_is σ v0 5).bind fun _ => s_run (S_X5_readInner (Q_X5_readAnd k).1 (Q_X5_readAnd k).2.1 (Q_X5_readAnd k).2.2.1 (Q_X5_readAnd k).2.2.2.1 (Q_X5_readAnd k).2.2.2.2.1 (Q_X5_readAnd k).2.2.2.2.2.1 (Q_X5_readAnd k).2.2.2.2.2.2.1 (Q_X5_readAnd k).2.2.2.2.2.2.2) (0, [.ref v0, .int v1, .int v2], σ),
    fun v0 v1 v2 σ => (s_is σ v0 5).bind fun _ => s_run (S_X5_readNot (Q_X5_readAnd k).1 (Q_X5_readAnd k).2.1 (Q_X5_readAnd k).2.2.1 (Q_X5_readAnd k).2.2.2.1 (Q_X5_readAnd k).2.2.2.2.1 (Q_X5_readAnd k).2.2.2.2.2.1 (Q_X5_readAnd k).2.2.2.2.2.2.1 (Q_X5_readAnd k).2.2.2.2.2.2.2) (0, [.ref v0, .int v1, .int v2], σ),
    fun v0 v1 v2 σ => (s_is σ v0 5).bind fun _ => s_run (S_X5_readOr (Q_X5_readAnd k).1 (Q_X5_readAnd k).2.1 (Q_X5_readAnd k).2.2.1 (Q_X5_readAnd k).2.2.2.1 (Q_X5_readAnd k).2.2.2.2.1 (Q_X5_readAnd k).2.2.2.2.2.1 (Q_X5_readAnd k).2.2.2.2.2.2.1 (Q_X5_readAnd k).2.2.2.2.2.2.2) (0, [.ref v0, .int v1, .int v2], σ),
    fun v0 v1 v2 σ => (s_is σ v0 5).bind fun _ => s_run (S_X5_readUnit (Q_X5_readAnd k).1 (Q_X5_readAnd k).2.1 (Q_X5_readAnd k).2.2.1 (Q_X5_readAnd k).2.2.2.1 (Q_X5_readAnd k).2.2.2.2.1 (Q_X5_readAnd k).2.2.2.2.2.1 (Q_X5_readAnd k).2.2.2.2.2.2.1 (Q_X5_readAnd k).2.2.2.2.2.2.2) (0, [.ref v0, .int v1, .int v2], σ),
    fun v0 v1 v2 σ => (s_is σ v0 5).bind fun _ => s_run (S_X5_readWord (Q_X5_readAnd k).1 (Q_X5_readAnd k).2.1 (Q_X5_readAnd k).2.2.1 (Q_X5_readAnd k).2.2.2.1 (Q_X5_readAnd k).2.2.2.2.1 (Q_X5_readAnd k).2.2.2.2.2.1 (Q_X5_readAnd k).2.2.2.2.2.2.1 (Q_X5_readAnd k).2.2.2.2.2.2.2) (0, [.ref v0, .int v1, .int v2], σ))
noncomputable def F_X5_readAnd (k : Nat) : Nat → Int32 → Int32 → sS → Option (Int32 × sS) := (Q_X5_readAnd k).1
noncomputable def F_X5_readBinder (k : Nat) : Nat → Int32 → Int32 → Int32 → Int32 → sS → Option (Int32 × sS) := (Q_X5_readAnd k).2.1
noncomputable def F_X5_readIf (k : Nat) : Nat → Int32 → Int32 → sS → Option (Int32 × sS) := (Q_X5_readAnd k).2.2.1
noncomputable def F_X5_readInner (k : Nat) : Nat → Int32 → Int32 → sS → Option (Int32 × sS) := (Q_X5_readAnd k).2.2.2.1
noncomputable def F_X5_readNot (k : Nat) : Nat → Int32 → Int32 → sS → Option (Int32 × sS) := (Q_X5_readAnd k).2.2.2.2.1
noncomputable def F_X5_readOr (k : Nat) : Nat → Int32 → Int32 → sS → Option (Int32 × sS) := (Q_X5_readAnd k).2.2.2.2.2.1
noncomputable def F_X5_readUnit (k : Nat) : Nat → Int32 → Int32 → sS → Option (Int32 × sS) := (Q_X5_readAnd k).2.2.2.2.2.2.1
noncomputable def F_X5_readWord (k : Nat) : Nat → Int32 → Int32 → sS → Option (Int32 × sS) := (Q_X5_readAnd k).2.2.2.2.2.2.2
theorem l_X5_readAnd_0 (f_X5_readAnd : Nat → Int32 → Int32 → sS → Option (Int32 × sS)) (f_X5_readBinder : Nat → Int32 → Int32 → Int32 → Int32 → sS → Option (Int32 × sS)) (f_X5_readIf : Nat → Int32 → Int32 → sS → Option (Int32 × sS)) (f_X5_readInner : Nat → Int32 → Int32 → sS → Option (Int32 × sS)) (f_X5_readNot : Nat → Int32 → Int32 → sS → Option (Int32 × sS)) (f_X5_readOr : Nat → Int32 → Int32 → sS → Option (Int32 × sS)) (f_X5_readUnit : Nat → Int32 → Int32 → sS → Option (Int32 × sS)) (f_X5_readWord : Nat → Int32 → Int32 → sS → Option (Int32 × sS)) (lG_X5_readAnd : ∀ {y0 : Nat} {y1 : Int32} {y2 : Int32} {σ : sS} {q : Int32 × sS}, f_X5_readAnd y0 y1 y2 σ = some q → s_le σ q.2) (lG_X5_readBinder : ∀ {y0 : Nat} {y1 : Int32} {y2 : Int32} {y3 : Int32} {y4 : Int32} {σ : sS} {q : Int32 × sS}, f_X5_readBinder y0 y1 y2 y3 y4 σ = some q → s_le σ q.2) (lG_X5_readIf : ∀ {y0 : Nat} {y1 : Int32} {y2 : Int32} {σ : sS} {q : Int32 × sS}, f_X5_readIf y0 y1 y2 σ = some q → s_le σ q.2) (lG_X5_readInner : ∀ {y0 : Nat} {y1 : Int32} {y2 : Int32} {σ : sS} {q : Int32 × sS}, f_X5_readInner y0 y1 y2 σ = some q → s_le σ q.2) (lG_X5_readNot : ∀ {y0 : Nat} {y1 : Int32} {y2 : Int32} {σ : sS} {q : Int32 × sS}, f_X5_readNot y0 y1 y2 σ = some q → s_le σ q.2) (lG_X5_readOr : ∀ {y0 : Nat} {y1 : Int32} {y2 : Int32} {σ : sS} {q : Int32 × sS}, f_X5_readOr y0 y1 y2 σ = some q → s_le σ q.2) (lG_X5_readUnit : ∀ {y0 : Nat} {y1 : Int32} {y2 : Int32} {σ : sS} {q : Int32 × sS}, f_X5_readUnit y0 y1 y2 σ = some q → s_le σ q.2) (lG_X5_readWord : ∀ {y0 : Nat} {y1 : Int32} {y2 : Int32} {σ : sS} {q : Int32 × sS}, f_X5_readWord y0 y1 y2 σ = some q → s_le σ q.2) {v0 : Nat} {v1 : Int32} {v2 : Int32} {σ : sS} {z : sZ Int32} (hf : T_X5_readAnd_0 f_X5_readAnd f_X5_readBinder f_X5_readIf f_X5_readInner f_X5_readNot f_X5_readOr f_X5_readUnit f_X5_readWord v0 v1 v2 σ = some z) : s_lz σ z := by
  unfold T_X5_readAnd_0 at hf
  obtain ⟨q1, hh, hf⟩ := s_bind hf
  refine s_lz.tr (lG_X5_readUnit hh) ?_
  cases hf
  exact s_le.rf
theorem l_X5_readAnd_10 (f_X5_readAnd : Nat → Int32 → Int32 → sS → Option (Int32 × sS)) (f_X5_readBinder : Nat → Int32 → Int32 → Int32 → Int32 → sS → Option (Int32 × sS)) (f_X5_readIf : Nat → Int32 → Int32 → sS → Option (Int32 × sS)) (f_X5_readInner : Nat → Int32 → Int32 → sS → Option (Int32 × sS)) (f_X5_readNot : Nat → Int32 → Int32 → sS → Option (Int32 × sS)) (f_X5_readOr : Nat → Int32 → Int32 → sS → Option (Int32 × sS)) (f_X5_readUnit : Nat → Int32 → Int32 → sS → Option (Int32 × sS)) (f_X5_readWord : Nat → Int32 → Int32 → sS → Option (Int32 × sS)) (lG_X5_readAnd : ∀ {y0 : Nat} {y1 : Int32} {y2 : Int32} {σ : sS} {q : Int32 × sS}, f_X5_readAnd y0 y1 y2 σ = some q → s_le σ q.2) (lG_X5_readBinder : ∀ {y0 : Nat} {y1 : Int32} {y2 : Int32} {y3 : Int32} {y4 : Int32} {σ : sS} {q : Int32 × sS}, f_X5_readBinder y0 y1 y2 y3 y4 σ = some q → s_le σ q.2) (lG_X5_readIf : ∀ {y0 : Nat} {y1 : Int32} {y2 : Int32} {σ : sS} {q : Int32 × sS}, f_X5_readIf y0 y1 y2 σ = some q → s_le σ q.2) (lG_X5_readInner : ∀ {y0 : Nat} {y1 : Int32} {y2 : Int32} {σ : sS} {q : Int32 × sS}, f_X5_readInner y0 y1 y2 σ = some q → s_le σ q.2) (lG_X5_readNot : ∀ {y0 : Nat} {y1 : Int32} {y2 : Int32} {σ : sS} {q : Int32 × sS}, f_X5_readNot y0 y1 y2 σ = some q → s_le σ q.2) (lG_X5_readOr : ∀ {y0 : Nat} {y1 : Int32} {y2 : Int32} {σ : sS} {q : Int32 × sS}, f_X5_readOr y0 y1 y2 σ = some q → s_le σ q.2) (lG_X5_readUnit : ∀ {y0 : Nat} {y1 : Int32} {y2 : Int32} {σ : sS} {q : Int32 × sS}, f_X5_readUnit y0 y1 y2 σ = some q → s_le σ q.2) (lG_X5_readWord : ∀ {y0 : Nat} {y1 : Int32} {y2 : Int32} {σ : sS} {q : Int32 × sS}, f_X5_readWord y0 y1 y2 σ = some q → s_le σ q.2) {v0 : Nat} {v1 : Int32} {v2 : Int32} {v3 : Int32} {v4 : Int32} {σ : sS} {z : sZ Int32} (hf : T_X5_readAnd_10 f_X5_readAnd f_X5_readBinder f_X5_readIf f_X5_readInner f_X5_readNot f_X5_readOr f_X5_readUnit f_X5_readWord v0 v1 v2 v3 v4 σ = some z) : s_lz σ z := by
  unfold T_X5_readAnd_10 at hf
  rcases s_ite hf with ⟨-, hf⟩ | ⟨-, hf⟩
  · cases hf
    exact s_le.rf
  · obtain ⟨q1, hh, hf⟩ := s_bind hf
    refine s_lz.tr (l_X5_peek hh) ?_
    rcases s_ite hf with ⟨-, hf⟩ | ⟨-, hf⟩
    · obtain ⟨x2, -, hf⟩ := s_bind hf
      obtain ⟨q3, hh, hf⟩ := s_bind hf
      refine s_lz.tr (l_X5_mayTakeSign hh) ?_
      rcases s_ite hf with ⟨-, hf⟩ | ⟨-, hf⟩
      · cases hf
        exact s_le.rf
      · obtain ⟨x4, -, hf⟩ := s_bind hf
        obtain ⟨σ5, hh, hf⟩ := s_bind hf
        refine s_lz.tr (s_le2 (s_pf_2 hh)) ?_
        obtain ⟨q6, hh, hf⟩ := s_bind hf
        refine s_lz.tr (lG_X5_readUnit hh) ?_
        obtain ⟨q7, hh, hf⟩ := s_bind hf
        refine s_lz.tr (l_X5_join hh) ?_
        cases hf
        exact s_le.rf
    · cases hf
      exact s_le.rf
theorem l_X5_readAnd_s (f_X5_readAnd : Nat → Int32 → Int32 → sS → Option (Int32 × sS)) (f_X5_readBinder : Nat → Int32 → Int32 → Int32 → Int32 → sS → Option (Int32 × sS)) (f_X5_readIf : Nat → Int32 → Int32 → sS → Option (Int32 × sS)) (f_X5_readInner : Nat → Int32 → Int32 → sS → Option (Int32 × sS)) (f_X5_readNot : Nat → Int32 → Int32 → sS → Option (Int32 × sS)) (f_X5_readOr : Nat → Int32 → Int32 → sS → Option (Int32 × sS)) (f_X5_readUnit : Nat → Int32 → Int32 → sS → Option (Int32 × sS)) (f_X5_readWord : Nat → Int32 → Int32 → sS → Option (Int32 × sS)) (lG_X5_readAnd : ∀ {y0 : Nat} {y1 : Int32} {y2 : Int32} {σ : sS} {q : Int32 × sS}, f_X5_readAnd y0 y1 y2 σ = some q → s_le σ q.2) (lG_X5_readBinder : ∀ {y0 : Nat} {y1 : Int32} {y2 : Int32} {y3 : Int32} {y4 : Int32} {σ : sS} {q : Int32 × sS}, f_X5_readBinder y0 y1 y2 y3 y4 σ = some q → s_le σ q.2) (lG_X5_readIf : ∀ {y0 : Nat} {y1 : Int32} {y2 : Int32} {σ : sS} {q : Int32 × sS}, f_X5_readIf y0 y1 y2 σ = some q → s_le σ q.2) (lG_X5_readInner : ∀ {y0 : Nat} {y1 : Int32} {y2 : Int32} {σ : sS} {q : Int32 × sS}, f_X5_readInner y0 y1 y2 σ = some q → s_le σ q.2) (lG_X5_readNot : ∀ {y0 : Nat} {y1 : Int32} {y2 : Int32} {σ : sS} {q : Int32 × sS}, f_X5_readNot y0 y1 y2 σ = some q → s_le σ q.2) (lG_X5_readOr : ∀ {y0 : Nat} {y1 : Int32} {y2 : Int32} {σ : sS} {q : Int32 × sS}, f_X5_readOr y0 y1 y2 σ = some q → s_le σ q.2) (lG_X5_readUnit : ∀ {y0 : Nat} {y1 : Int32} {y2 : Int32} {σ : sS} {q : Int32 × sS}, f_X5_readUnit y0 y1 y2 σ = some q → s_le σ q.2) (lG_X5_readWord : ∀ {y0 : Nat} {y1 : Int32} {y2 : Int32} {σ : sS} {q : Int32 × sS}, f_X5_readWord y0 y1 y2 σ = some q → s_le σ q.2) {x : sL} {z : sZ Int32} (hs : S_X5_readAnd f_X5_readAnd f_X5_readBinder f_X5_readIf f_X5_readInner f_X5_readNot f_X5_readOr f_X5_readUnit f_X5_readWord x = some z) : s_lz x.2.2 z := by
  obtain ⟨pc, vs, σ⟩ := x
  unfold S_X5_readAnd at hs
  dsimp only at hs ⊢
  rcases s_ite hs with ⟨c, hs⟩ | ⟨-, hs⟩
  · subst c
    unfold U_X5_readAnd_0 at hs
    obtain ⟨a0, g0, hs⟩ := s_bind hs
    obtain ⟨a1, g1, hs⟩ := s_bind hs
    obtain ⟨a2, g2, hs⟩ := s_bind hs
    obtain ⟨u9, ge, hs⟩ := s_bind hs
    exact l_X5_readAnd_0 f_X5_readAnd f_X5_readBinder f_X5_readIf f_X5_readInner f_X5_readNot f_X5_readOr f_X5_readUnit f_X5_readWord lG_X5_readAnd lG_X5_readBinder lG_X5_readIf lG_X5_readInner lG_X5_readNot lG_X5_readOr lG_X5_readUnit lG_X5_readWord hs
  rcases s_ite hs with ⟨c, hs⟩ | ⟨-, hs⟩
  · subst c
    unfold U_X5_readAnd_10 at hs
    obtain ⟨a0, g0, hs⟩ := s_bind hs
    obtain ⟨a1, g1, hs⟩ := s_bind hs
    obtain ⟨a2, g2, hs⟩ := s_bind hs
    obtain ⟨a3, g3, hs⟩ := s_bind hs
    obtain ⟨a4, g4, hs⟩ := s_bind hs
    obtain ⟨u9, ge, hs⟩ := s_bind hs
    exact l_X5_readAnd_10 f_X5_readAnd f_X5_readBinder f_X5_readIf f_X5_readInner f_X5_readNot f_X5_readOr f_X5_readUnit f_X5_readWord lG_X5_readAnd lG_X5_readBinder lG_X5_readIf lG_X5_readInner lG_X5_readNot lG_X5_readOr lG_X5_readUnit lG_X5_readWord hs
  cases hs
set_option maxRecDepth 100000 in
set_option maxHeartbeats 4000000 in
theorem v_X5_readAnd_0 (f_X5_readAnd : Nat → Int32 → Int32 → sS → Option (Int32 × sS)) (f_X5_readBinder : Nat → Int32 → Int32 → Int32 → Int32 → sS → Option (Int32 × sS)) (f_X5_readIf : Nat → Int32 → Int32 → sS → Option (Int32 × sS)) (f_X5_readInner : Nat → Int32 → Int32 → sS → Option (Int32 × sS)) (f_X5_readNot : Nat → Int32 → Int32 → sS → Option (Int32 × sS)) (f_X5_readOr : Nat → Int32 → Int32 → sS → Option (Int32 × sS)) (f_X5_readUnit : Nat → Int32 → Int32 → sS → Option (Int32 × sS)) (f_X5_readWord : Nat → Int32 → Int32 → sS → Option (Int32 × sS)) {G : sG} {d : Nat} (lG_X5_readAnd : ∀ {y0 : Nat} {y1 : Int32} {y2 : Int32} {σ : sS} {q : Int32 × sS}, f_X5_readAnd y0 y1 y2 σ = some q → s_le σ q.2) (lG_X5_readBinder : ∀ {y0 : Nat} {y1 : Int32} {y2 : Int32} {y3 : Int32} {y4 : Int32} {σ : sS} {q : Int32 × sS}, f_X5_readBinder y0 y1 y2 y3 y4 σ = some q → s_le σ q.2) (lG_X5_readIf : ∀ {y0 : Nat} {y1 : Int32} {y2 : Int32} {σ : sS} {q : Int32 × sS}, f_X5_readIf y0 y1 y2 σ = some q → s_le σ q.2) (lG_X5_readInner : ∀ {y0 : Nat} {y1 : Int32} {y2 : Int32} {σ : sS} {q : Int32 × sS}, f_X5_readInner y0 y1 y2 σ = some q → s_le σ q.2) (lG_X5_readNot : ∀ {y0 : Nat} {y1 : Int32} {y2 : Int32} {σ : sS} {q : Int32 × sS}, f_X5_readNot y0 y1 y2 σ = some q → s_le σ q.2) (lG_X5_readOr : ∀ {y0 : Nat} {y1 : Int32} {y2 : Int32} {σ : sS} {q : Int32 × sS}, f_X5_readOr y0 y1 y2 σ = some q → s_le σ q.2) (lG_X5_readUnit : ∀ {y0 : Nat} {y1 : Int32} {y2 : Int32} {σ : sS} {q : Int32 × sS}, f_X5_readUnit y0 y1 y2 σ = some q → s_le σ q.2) (lG_X5_readWord : ∀ {y0 : Nat} {y1 : Int32} {y2 : Int32} {σ : sS} {q : Int32 × sS}, f_X5_readWord y0 y1 y2 σ = some q → s_le σ q.2) (hG_X5_readAnd : ∀ {y0 : Nat} {y1 : Int32} {y2 : Int32} {σ : sS} {q : Int32 × sS}, f_X5_readAnd y0 y1 y2 σ = some q → s_T G (d + 71) M_X5_readAnd [.ref y0, .int y1, .int y2] σ (e_I q) ∧ ∃ fs, σ.1 y0 = some (.inr (5, fs))) (hG_X5_readBinder : ∀ {y0 : Nat} {y1 : Int32} {y2 : Int32} {y3 : Int32} {y4 : Int32} {σ : sS} {q : Int32 × sS}, f_X5_readBinder y0 y1 y2 y3 y4 σ = some q → s_T G (d + 71) M_X5_readBinder [.ref y0, .int y1, .int y2, .int y3, .int y4] σ (e_I q) ∧ ∃ fs, σ.1 y0 = some (.inr (5, fs))) (hG_X5_readIf : ∀ {y0 : Nat} {y1 : Int32} {y2 : Int32} {σ : sS} {q : Int32 × sS}, f_X5_readIf y0 y1 y2 σ = some q → s_T G (d + 71) M_X5_readIf [.ref y0, .int y1, .int y2] σ (e_I q) ∧ ∃ fs, σ.1 y0 = some (.inr (5, fs))) (hG_X5_readInner : ∀ {y0 : Nat} {y1 : Int32} {y2 : Int32} {σ : sS} {q : Int32 × sS}, f_X5_readInner y0 y1 y2 σ = some q → s_T G (d + 71) M_X5_readInner [.ref y0, .int y1, .int y2] σ (e_I q) ∧ ∃ fs, σ.1 y0 = some (.inr (5, fs))) (hG_X5_readNot : ∀ {y0 : Nat} {y1 : Int32} {y2 : Int32} {σ : sS} {q : Int32 × sS}, f_X5_readNot y0 y1 y2 σ = some q → s_T G (d + 71) M_X5_readNot [.ref y0, .int y1, .int y2] σ (e_I q) ∧ ∃ fs, σ.1 y0 = some (.inr (5, fs))) (hG_X5_readOr : ∀ {y0 : Nat} {y1 : Int32} {y2 : Int32} {σ : sS} {q : Int32 × sS}, f_X5_readOr y0 y1 y2 σ = some q → s_T G (d + 71) M_X5_readOr [.ref y0, .int y1, .int y2] σ (e_I q) ∧ ∃ fs, σ.1 y0 = some (.inr (5, fs))) (hG_X5_readUnit : ∀ {y0 : Nat} {y1 : Int32} {y2 : Int32} {σ : sS} {q : Int32 × sS}, f_X5_readUnit y0 y1 y2 σ = some q → s_T G (d + 71) M_X5_readUnit [.ref y0, .int y1, .int y2] σ (e_I q) ∧ ∃ fs, σ.1 y0 = some (.inr (5, fs))) (hG_X5_readWord : ∀ {y0 : Nat} {y1 : Int32} {y2 : Int32} {σ : sS} {q : Int32 × sS}, f_X5_readWord y0 y1 y2 σ = some q → s_T G (d + 71) M_X5_readWord [.ref y0, .int y1, .int y2] σ (e_I q) ∧ ∃ fs, σ.1 y0 = some (.inr (5, fs))) {vs0 : List Value} {σ0 : sS} {v0 : Nat} {v1 : Int32} {v2 : Int32} {σ : sS} {z : sZ Int32} {r : Int32 × sS} (hf : T_X5_readAnd_0 f_X5_readAnd f_X5_readBinder f_X5_readIf f_X5_readInner f_X5_readNot f_X5_readOr f_X5_readUnit f_X5_readWord v0 v1 v2 σ = some z) (k : s_K G (d + 72) M_X5_readAnd vs0 σ0 Y_X5_readAnd e_I z r) : s_V G (d + 72) M_X5_readAnd vs0 σ0 Y_X5_readAnd (0, [.ref v0, .int v1, .int v2], σ) (e_I r) := by
  have le0 : s_le σ (e_I r).2 := s_lek hem_I (l_X5_readAnd_0 f_X5_readAnd f_X5_readBinder f_X5_readIf f_X5_readInner f_X5_readNot f_X5_readOr f_X5_readUnit f_X5_readWord lG_X5_readAnd lG_X5_readBinder lG_X5_readIf lG_X5_readInner lG_X5_readNot lG_X5_readOr lG_X5_readUnit lG_X5_readWord hf) k
  refine ⟨le0, ?_⟩
  intro p e s m below meth c H locs cells slots ls X I hn1 hn2 hl
  have hn : cells + σ0.2.1 ≤ σ.2.1 ∧ slots + σ0.2.2.1 ≤ σ.2.2.1 := ⟨hn1, hn2⟩
  have hl : lv_has ls 5 [(0, .ref v0), (1, .int v1), (2, .int v2)] := hl
  have hx := X.1
  have hb : c.code = cX5_readAnd := X.2.1
  have hown : s.vm.findClass RX5 = some m.cls := X.2.2.2.2.2.1
  have hts := X.2.2.2.2.2.2.1
  refine W.eq (g2 := F0 m 0 ls []) rfl ?_
  unfold T_X5_readAnd_0 at hf
  obtain ⟨q1, h1, hf⟩ := s_bind hf
  cases hf
  have k : s_V G (d + 72) M_X5_readAnd vs0 σ0 Y_X5_readAnd (10, [.ref v0, .int v1, .int v2, .int q1.1, .int 0], q1.2) (e_I r) := k
  have le2 : s_le q1.2 (e_I r).2 := k.1
  refine lv_aload_n hx hb dX5_readAnd_0 rfl (lv_at hl 0 rfl) ?_
  refine lv_iload_n hx hb dX5_readAnd_1 rfl (lv_at hl 1 rfl) ?_
  refine lv_iload_n hx hb dX5_readAnd_2 rfl (lv_at hl 2 rfl) ?_
  refine r_callV (Y := M_X5_readUnit) (v := some (.int q1.1)) X I w_713 my_X5_readUnit (by omega) (hG_X5_readUnit h1).1 (hG_X5_readUnit h1).2 rfl rfl hl.1 rfl (Nat.le_of_ble_eq_true rfl) hn le2 dX5_readAnd_3 (fun H locs cells slots I hn1 hn2 => ?_)
  have I : s_I G q1.2 s H locs := I
  have hn : cells + σ0.2.1 ≤ q1.2.2.1 ∧ slots + σ0.2.2.1 ≤ q1.2.2.2.1 := ⟨hn1, hn2⟩
  refine lv_istore_n (lv' := [(3, .int q1.1), (0, .ref v0), (1, .int v1), (2, .int v2)]) hx hb dX5_readAnd_6 rfl hl (by decide) rfl (fun ls hl => ?_)
  refine lv_iconst (v := 0) hx hb dX5_readAnd_7 (by decide) ?_
  refine lv_istore (lv' := [(4, .int 0), (3, .int q1.1), (0, .ref v0), (1, .int v1), (2, .int v2)]) hx hb dX5_readAnd_8 hl (by decide) rfl (fun ls hl => ?_)
  exact k.2 p e s m below meth c _ _ _ _ _ X I hn.1 hn.2 (lv_sub hl [2, 3, 4, 1, 0] rfl)
set_option maxRecDepth 100000 in
set_option maxHeartbeats 4000000 in
theorem v_X5_readAnd_10 (f_X5_readAnd : Nat → Int32 → Int32 → sS → Option (Int32 × sS)) (f_X5_readBinder : Nat → Int32 → Int32 → Int32 → Int32 → sS → Option (Int32 × sS)) (f_X5_readIf : Nat → Int32 → Int32 → sS → Option (Int32 × sS)) (f_X5_readInner : Nat → Int32 → Int32 → sS → Option (Int32 × sS)) (f_X5_readNot : Nat → Int32 → Int32 → sS → Option (Int32 × sS)) (f_X5_readOr : Nat → Int32 → Int32 → sS → Option (Int32 × sS)) (f_X5_readUnit : Nat → Int32 → Int32 → sS → Option (Int32 × sS)) (f_X5_readWord : Nat → Int32 → Int32 → sS → Option (Int32 × sS)) {G : sG} {d : Nat} (lG_X5_readAnd : ∀ {y0 : Nat} {y1 : Int32} {y2 : Int32} {σ : sS} {q : Int32 × sS}, f_X5_readAnd y0 y1 y2 σ = some q → s_le σ q.2) (lG_X5_readBinder : ∀ {y0 : Nat} {y1 : Int32} {y2 : Int32} {y3 : Int32} {y4 : Int32} {σ : sS} {q : Int32 × sS}, f_X5_readBinder y0 y1 y2 y3 y4 σ = some q → s_le σ q.2) (lG_X5_readIf : ∀ {y0 : Nat} {y1 : Int32} {y2 : Int32} {σ : sS} {q : Int32 × sS}, f_X5_readIf y0 y1 y2 σ = some q → s_le σ q.2) (lG_X5_readInner : ∀ {y0 : Nat} {y1 : Int32} {y2 : Int32} {σ : sS} {q : Int32 × sS}, f_X5_readInner y0 y1 y2 σ = some q → s_le σ q.2) (lG_X5_readNot : ∀ {y0 : Nat} {y1 : Int32} {y2 : Int32} {σ : sS} {q : Int32 × sS}, f_X5_readNot y0 y1 y2 σ = some q → s_le σ q.2) (lG_X5_readOr : ∀ {y0 : Nat} {y1 : Int32} {y2 : Int32} {σ : sS} {q : Int32 × sS}, f_X5_readOr y0 y1 y2 σ = some q → s_le σ q.2) (lG_X5_readUnit : ∀ {y0 : Nat} {y1 : Int32} {y2 : Int32} {σ : sS} {q : Int32 × sS}, f_X5_readUnit y0 y1 y2 σ = some q → s_le σ q.2) (lG_X5_readWord : ∀ {y0 : Nat} {y1 : Int32} {y2 : Int32} {σ : sS} {q : Int32 × sS}, f_X5_readWord y0 y1 y2 σ = some q → s_le σ q.2) (hG_X5_readAnd : ∀ {y0 : Nat} {y1 : Int32} {y2 : Int32} {σ : sS} {q : Int32 × sS}, f_X5_readAnd y0 y1 y2 σ = some q → s_T G (d + 71) M_X5_readAnd [.ref y0, .int y1, .int y2] σ (e_I q) ∧ ∃ fs, σ.1 y0 = some (.inr (5, fs))) (hG_X5_readBinder : ∀ {y0 : Nat} {y1 : Int32} {y2 : Int32} {y3 : Int32} {y4 : Int32} {σ : sS} {q : Int32 × sS}, f_X5_readBinder y0 y1 y2 y3 y4 σ = some q → s_T G (d + 71) M_X5_readBinder [.ref y0, .int y1, .int y2, .int y3, .int y4] σ (e_I q) ∧ ∃ fs, σ.1 y0 = some (.inr (5, fs))) (hG_X5_readIf : ∀ {y0 : Nat} {y1 : Int32} {y2 : Int32} {σ : sS} {q : Int32 × sS}, f_X5_readIf y0 y1 y2 σ = some q → s_T G (d + 71) M_X5_readIf [.ref y0, .int y1, .int y2] σ (e_I q) ∧ ∃ fs, σ.1 y0 = some (.inr (5, fs))) (hG_X5_readInner : ∀ {y0 : Nat} {y1 : Int32} {y2 : Int32} {σ : sS} {q : Int32 × sS}, f_X5_readInner y0 y1 y2 σ = some q → s_T G (d + 71) M_X5_readInner [.ref y0, .int y1, .int y2] σ (e_I q) ∧ ∃ fs, σ.1 y0 = some (.inr (5, fs))) (hG_X5_readNot : ∀ {y0 : Nat} {y1 : Int32} {y2 : Int32} {σ : sS} {q : Int32 × sS}, f_X5_readNot y0 y1 y2 σ = some q → s_T G (d + 71) M_X5_readNot [.ref y0, .int y1, .int y2] σ (e_I q) ∧ ∃ fs, σ.1 y0 = some (.inr (5, fs))) (hG_X5_readOr : ∀ {y0 : Nat} {y1 : Int32} {y2 : Int32} {σ : sS} {q : Int32 × sS}, f_X5_readOr y0 y1 y2 σ = some q → s_T G (d + 71) M_X5_readOr [.ref y0, .int y1, .int y2] σ (e_I q) ∧ ∃ fs, σ.1 y0 = some (.inr (5, fs))) (hG_X5_readUnit : ∀ {y0 : Nat} {y1 : Int32} {y2 : Int32} {σ : sS} {q : Int32 × sS}, f_X5_readUnit y0 y1 y2 σ = some q → s_T G (d + 71) M_X5_readUnit [.ref y0, .int y1, .int y2] σ (e_I q) ∧ ∃ fs, σ.1 y0 = some (.inr (5, fs))) (hG_X5_readWord : ∀ {y0 : Nat} {y1 : Int32} {y2 : Int32} {σ : sS} {q : Int32 × sS}, f_X5_readWord y0 y1 y2 σ = some q → s_T G (d + 71) M_X5_readWord [.ref y0, .int y1, .int y2] σ (e_I q) ∧ ∃ fs, σ.1 y0 = some (.inr (5, fs))) {vs0 : List Value} {σ0 : sS} {v0 : Nat} {v1 : Int32} {v2 : Int32} {v3 : Int32} {v4 : Int32} {σ : sS} {z : sZ Int32} {r : Int32 × sS} (hf : T_X5_readAnd_10 f_X5_readAnd f_X5_readBinder f_X5_readIf f_X5_readInner f_X5_readNot f_X5_readOr f_X5_readUnit f_X5_readWord v0 v1 v2 v3 v4 σ = some z) (k : s_K G (d + 72) M_X5_readAnd vs0 σ0 Y_X5_readAnd e_I z r) : s_V G (d + 72) M_X5_readAnd vs0 σ0 Y_X5_readAnd (10, [.ref v0, .int v1, .int v2, .int v3, .int v4], σ) (e_I r) := by
  have le0 : s_le σ (e_I r).2 := s_lek hem_I (l_X5_readAnd_10 f_X5_readAnd f_X5_readBinder f_X5_readIf f_X5_readInner f_X5_readNot f_X5_readOr f_X5_readUnit f_X5_readWord lG_X5_readAnd lG_X5_readBinder lG_X5_readIf lG_X5_readInner lG_X5_readNot lG_X5_readOr lG_X5_readUnit lG_X5_readWord hf) k
  refine ⟨le0, ?_⟩
  intro p e s m below meth c H locs cells slots ls X I hn1 hn2 hl
  have hn : cells + σ0.2.1 ≤ σ.2.1 ∧ slots + σ0.2.2.1 ≤ σ.2.2.1 := ⟨hn1, hn2⟩
  have hl : lv_has ls 5 [(0, .ref v0), (1, .int v1), (2, .int v2), (3, .int v3), (4, .int v4)] := hl
  have hx := X.1
  have hb : c.code = cX5_readAnd := X.2.1
  have hown : s.vm.findClass RX5 = some m.cls := X.2.2.2.2.2.1
  have hts := X.2.2.2.2.2.2.1
  refine W.eq (g2 := F0 m 10 ls []) rfl ?_
  unfold T_X5_readAnd_10 at hf
  refine lv_iload hx hb dX5_readAnd_10 (lv_at hl 4 rfl) ?_
  refine lv_sipush (v := 400) hx hb dX5_readAnd_12 (by decide) ?_
  rcases s_ite hf with ⟨c1, hf⟩ | ⟨c1, hf⟩
  · refine lv_icmp_ge (tgt := 67) hx hb dX5_readAnd_15 (by decide) (fun _ => ?_) (fun n => absurd c1 n)
    cases hf
    have k : _ = r := k
    subst k
    refine lv_iload_n hx hb dX5_readAnd_67 rfl (lv_at hl 3 rfl) ?_
    exact r_iret X I rfl rfl rfl hn dX5_readAnd_68
  · refine lv_icmp_ge (tgt := 67) hx hb dX5_readAnd_15 (by decide) (fun n => absurd n c1) (fun _ => ?_)
    obtain ⟨q1, h2, hf⟩ := s_bind hf
    have le3 : s_le q1.2 (e_I r).2 := by
      refine s_lek hem_I ?_ k
      rcases s_ite hf with ⟨-, hf⟩ | ⟨-, hf⟩
      · obtain ⟨x2, -, hf⟩ := s_bind hf
        obtain ⟨q3, hh, hf⟩ := s_bind hf
        refine s_lz.tr (l_X5_mayTakeSign hh) ?_
        rcases s_ite hf with ⟨-, hf⟩ | ⟨-, hf⟩
        · cases hf
          exact s_le.rf
        · obtain ⟨x4, -, hf⟩ := s_bind hf
          obtain ⟨σ5, hh, hf⟩ := s_bind hf
          refine s_lz.tr (s_le2 (s_pf_2 hh)) ?_
          obtain ⟨q6, hh, hf⟩ := s_bind hf
          refine s_lz.tr (lG_X5_readUnit hh) ?_
          obtain ⟨q7, hh, hf⟩ := s_bind hf
          refine s_lz.tr (l_X5_join hh) ?_
          cases hf
          exact s_le.rf
      · cases hf
        exact s_le.rf
    refine lv_aload_n hx hb dX5_readAnd_18 rfl (lv_at hl 0 rfl) ?_
    refine r_callV (Y := M_X5_peek) (v := some (.int q1.1)) X I w_717 my_X5_peek (by omega) (t_X5_peek (G := G) (d := d + 69) h2) (b_X5_peek h2) rfl rfl hl.1 rfl (Nat.le_of_ble_eq_true rfl) hn le3 dX5_readAnd_19 (fun H locs cells slots I hn1 hn2 => ?_)
    have I : s_I G q1.2 s H locs := I
    have hn : cells + σ0.2.1 ≤ q1.2.2.1 ∧ slots + σ0.2.2.1 ≤ q1.2.2.2.1 := ⟨hn1, hn2⟩
    refine lv_bipush (v := 38) hx hb dX5_readAnd_22 (by decide) ?_
    rcases s_ite hf with ⟨c4, hf⟩ | ⟨c4, hf⟩
    · refine lv_icmp_ne (tgt := 67) hx hb dX5_readAnd_24 (by decide) (fun n => absurd c4 n) (fun _ => ?_)
      obtain ⟨x2, h5, hf⟩ := s_bind hf
      obtain ⟨q3, h6, hf⟩ := s_bind hf
      have le7 : s_le q3.2 (e_I r).2 := by
        refine s_lek hem_I ?_ k
        rcases s_ite hf with ⟨-, hf⟩ | ⟨-, hf⟩
        · cases hf
          exact s_le.rf
        · obtain ⟨x4, -, hf⟩ := s_bind hf
          obtain ⟨σ5, hh, hf⟩ := s_bind hf
          refine s_lz.tr (s_le2 (s_pf_2 hh)) ?_
          obtain ⟨q6, hh, hf⟩ := s_bind hf
          refine s_lz.tr (lG_X5_readUnit hh) ?_
          obtain ⟨q7, hh, hf⟩ := s_bind hf
          refine s_lz.tr (l_X5_join hh) ?_
          cases hf
          exact s_le.rf
      refine lv_aload_n hx hb dX5_readAnd_27 rfl (lv_at hl 0 rfl) ?_
      refine lv_aload_n hx hb dX5_readAnd_28 rfl (lv_at hl 0 rfl) ?_
      refine r_gi X I fl_X5_29 h5 dX5_readAnd_29 ?_
      refine r_callV (Y := M_X5_mayTakeSign) (v := some (.int q3.1)) X I w_737 my_X5_mayTakeSign (by omega) (t_X5_mayTakeSign (G := G) (d := d + 69) h6) (b_X5_mayTakeSign h6) rfl rfl hl.1 rfl (Nat.le_of_ble_eq_true rfl) hn le7 dX5_readAnd_32 (fun H locs cells slots I hn1 hn2 => ?_)
      have I : s_I G q3.2 s H locs := I
      have hn : cells + σ0.2.1 ≤ q3.2.2.1 ∧ slots + σ0.2.2.1 ≤ q3.2.2.2.1 := ⟨hn1, hn2⟩
      rcases s_ite hf with ⟨c8, hf⟩ | ⟨c8, hf⟩
      · refine lv_if_eq (tgt := 67) hx hb dX5_readAnd_35 (by decide) (fun _ => ?_) (fun n => absurd c8 n)
        cases hf
        have k : _ = r := k
        subst k
        refine lv_iload_n hx hb dX5_readAnd_67 rfl (lv_at hl 3 rfl) ?_
        exact r_iret X I rfl rfl rfl hn dX5_readAnd_68
      · refine lv_if_eq (tgt := 67) hx hb dX5_readAnd_35 (by decide) (fun n => absurd n c8) (fun _ => ?_)
        obtain ⟨x4, h9, hf⟩ := s_bind hf
        obtain ⟨σ5, h10, hf⟩ := s_bind hf
        obtain ⟨q6, h11, hf⟩ := s_bind hf
        obtain ⟨q7, h12, hf⟩ := s_bind hf
        cases hf
        have k : s_V G (d + 72) M_X5_readAnd vs0 σ0 Y_X5_readAnd (10, [.ref v0, .int v1, .int v2, .int q7.1, .int (v4 + 1)], q7.2) (e_I r) := k
        have le13 : s_le q7.2 (e_I r).2 := k.1
        have le14 := s_le.tr (l_X5_join h12) le13
        have le15 := s_le.tr (lG_X5_readUnit h11) le14
        refine lv_aload_n hx hb dX5_readAnd_38 rfl (lv_at hl 0 rfl) ?_
        refine lv_dup hx hb dX5_readAnd_39 rfl ?_
        refine r_gi X I fl_X5_29 h9 dX5_readAnd_40 ?_
        refine lv_iconst (v := 1) hx hb dX5_readAnd_43 (by decide) ?_
        refine lv_iadd hx hb dX5_readAnd_44 ?_
        refine r_put X I fp_X5_29 (fun h => by cases h) h10 rfl rfl dX5_readAnd_45 (fun H locs I => ?_)
        have hn := s_k2 (s_pf_2 h10) hn
        refine lv_aload_n hx hb dX5_readAnd_48 rfl (lv_at hl 0 rfl) ?_
        refine lv_iconst (v := 2) hx hb dX5_readAnd_49 (by decide) ?_
        refine lv_iload_n hx hb dX5_readAnd_50 rfl (lv_at hl 3 rfl) ?_
        refine lv_aload_n hx hb dX5_readAnd_51 rfl (lv_at hl 0 rfl) ?_
        refine lv_iload_n hx hb dX5_readAnd_52 rfl (lv_at hl 1 rfl) ?_
        refine lv_iload_n hx hb dX5_readAnd_53 rfl (lv_at hl 2 rfl) ?_
        refine r_callV (Y := M_X5_readUnit) (v := some (.int q6.1)) X I w_713 my_X5_readUnit (by omega) (hG_X5_readUnit h11).1 (hG_X5_readUnit h11).2 rfl rfl hl.1 rfl (Nat.le_of_ble_eq_true rfl) hn le14 dX5_readAnd_54 (fun H locs cells slots I hn1 hn2 => ?_)
        have I : s_I G q6.2 s H locs := I
        have hn : cells + σ0.2.1 ≤ q6.2.2.1 ∧ slots + σ0.2.2.1 ≤ q6.2.2.2.1 := ⟨hn1, hn2⟩
        refine r_callV (Y := M_X5_join) (v := some (.int q7.1)) X I w_741 my_X5_join (by omega) (t_X5_join (G := G) (d := d + 67) h12) (b_X5_join h12) rfl rfl hl.1 rfl (Nat.le_of_ble_eq_true rfl) hn le13 dX5_readAnd_57 (fun H locs cells slots I hn1 hn2 => ?_)
        have I : s_I G q7.2 s H locs := I
        have hn : cells + σ0.2.1 ≤ q7.2.2.1 ∧ slots + σ0.2.2.1 ≤ q7.2.2.2.1 := ⟨hn1, hn2⟩
        refine lv_istore_n (lv' := [(3, .int q7.1), (0, .ref v0), (1, .int v1), (2, .int v2), (4, .int v4)]) hx hb dX5_readAnd_60 rfl hl (by decide) rfl (fun ls hl => ?_)
        refine lv_iinc (v := (v4 + 1)) (lv' := [(4, .int (v4 + 1)), (3, .int q7.1), (0, .ref v0), (1, .int v1), (2, .int v2)]) hx hb dX5_readAnd_61 hl (k := 4) rfl rfl (by decide) rfl (fun ls hl => ?_)
        refine lv_goto (tgt := 10) hx hb dX5_readAnd_64 (by decide) ?_
        exact k.2 p e s m below meth c _ _ _ _ _ X I hn.1 hn.2 (lv_sub hl [2, 3, 4, 1, 0] rfl)
    · refine lv_icmp_ne (tgt := 67) hx hb dX5_readAnd_24 (by decide) (fun _ => ?_) (fun n => absurd n c4)
      cases hf
      have k : _ = r := k
      subst k
      refine lv_iload_n hx hb dX5_readAnd_67 rfl (lv_at hl 3 rfl) ?_
      exact r_iret X I rfl rfl rfl hn dX5_readAnd_68
theorem v_X5_readAnd (f_X5_readAnd : Nat → Int32 → Int32 → sS → Option (Int32 × sS)) (f_X5_readBinder : Nat → Int32 → Int32 → Int32 → Int32 → sS → Option (Int32 × sS)) (f_X5_readIf : Nat → Int32 → Int32 → sS → Option (Int32 × sS)) (f_X5_readInner : Nat → Int32 → Int32 → sS → Option (Int32 × sS)) (f_X5_readNot : Nat → Int32 → Int32 → sS → Option (Int32 × sS)) (f_X5_readOr : Nat → Int32 → Int32 → sS → Option (Int32 × sS)) (f_X5_readUnit : Nat → Int32 → Int32 → sS → Option (Int32 × sS)) (f_X5_readWord : Nat → Int32 → Int32 → sS → Option (Int32 × sS)) {G : sG} {d : Nat} (lG_X5_readAnd : ∀ {y0 : Nat} {y1 : Int32} {y2 : Int32} {σ : sS} {q : Int32 × sS}, f_X5_readAnd y0 y1 y2 σ = some q → s_le σ q.2) (lG_X5_readBinder : ∀ {y0 : Nat} {y1 : Int32} {y2 : Int32} {y3 : Int32} {y4 : Int32} {σ : sS} {q : Int32 × sS}, f_X5_readBinder y0 y1 y2 y3 y4 σ = some q → s_le σ q.2) (lG_X5_readIf : ∀ {y0 : Nat} {y1 : Int32} {y2 : Int32} {σ : sS} {q : Int32 × sS}, f_X5_readIf y0 y1 y2 σ = some q → s_le σ q.2) (lG_X5_readInner : ∀ {y0 : Nat} {y1 : Int32} {y2 : Int32} {σ : sS} {q : Int32 × sS}, f_X5_readInner y0 y1 y2 σ = some q → s_le σ q.2) (lG_X5_readNot : ∀ {y0 : Nat} {y1 : Int32} {y2 : Int32} {σ : sS} {q : Int32 × sS}, f_X5_readNot y0 y1 y2 σ = some q → s_le σ q.2) (lG_X5_readOr : ∀ {y0 : Nat} {y1 : Int32} {y2 : Int32} {σ : sS} {q : Int32 × sS}, f_X5_readOr y0 y1 y2 σ = some q → s_le σ q.2) (lG_X5_readUnit : ∀ {y0 : Nat} {y1 : Int32} {y2 : Int32} {σ : sS} {q : Int32 × sS}, f_X5_readUnit y0 y1 y2 σ = some q → s_le σ q.2) (lG_X5_readWord : ∀ {y0 : Nat} {y1 : Int32} {y2 : Int32} {σ : sS} {q : Int32 × sS}, f_X5_readWord y0 y1 y2 σ = some q → s_le σ q.2) (hG_X5_readAnd : ∀ {y0 : Nat} {y1 : Int32} {y2 : Int32} {σ : sS} {q : Int32 × sS}, f_X5_readAnd y0 y1 y2 σ = some q → s_T G (d + 71) M_X5_readAnd [.ref y0, .int y1, .int y2] σ (e_I q) ∧ ∃ fs, σ.1 y0 = some (.inr (5, fs))) (hG_X5_readBinder : ∀ {y0 : Nat} {y1 : Int32} {y2 : Int32} {y3 : Int32} {y4 : Int32} {σ : sS} {q : Int32 × sS}, f_X5_readBinder y0 y1 y2 y3 y4 σ = some q → s_T G (d + 71) M_X5_readBinder [.ref y0, .int y1, .int y2, .int y3, .int y4] σ (e_I q) ∧ ∃ fs, σ.1 y0 = some (.inr (5, fs))) (hG_X5_readIf : ∀ {y0 : Nat} {y1 : Int32} {y2 : Int32} {σ : sS} {q : Int32 × sS}, f_X5_readIf y0 y1 y2 σ = some q → s_T G (d + 71) M_X5_readIf [.ref y0, .int y1, .int y2] σ (e_I q) ∧ ∃ fs, σ.1 y0 = some (.inr (5, fs))) (hG_X5_readInner : ∀ {y0 : Nat} {y1 : Int32} {y2 : Int32} {σ : sS} {q : Int32 × sS}, f_X5_readInner y0 y1 y2 σ = some q → s_T G (d + 71) M_X5_readInner [.ref y0, .int y1, .int y2] σ (e_I q) ∧ ∃ fs, σ.1 y0 = some (.inr (5, fs))) (hG_X5_readNot : ∀ {y0 : Nat} {y1 : Int32} {y2 : Int32} {σ : sS} {q : Int32 × sS}, f_X5_readNot y0 y1 y2 σ = some q → s_T G (d + 71) M_X5_readNot [.ref y0, .int y1, .int y2] σ (e_I q) ∧ ∃ fs, σ.1 y0 = some (.inr (5, fs))) (hG_X5_readOr : ∀ {y0 : Nat} {y1 : Int32} {y2 : Int32} {σ : sS} {q : Int32 × sS}, f_X5_readOr y0 y1 y2 σ = some q → s_T G (d + 71) M_X5_readOr [.ref y0, .int y1, .int y2] σ (e_I q) ∧ ∃ fs, σ.1 y0 = some (.inr (5, fs))) (hG_X5_readUnit : ∀ {y0 : Nat} {y1 : Int32} {y2 : Int32} {σ : sS} {q : Int32 × sS}, f_X5_readUnit y0 y1 y2 σ = some q → s_T G (d + 71) M_X5_readUnit [.ref y0, .int y1, .int y2] σ (e_I q) ∧ ∃ fs, σ.1 y0 = some (.inr (5, fs))) (hG_X5_readWord : ∀ {y0 : Nat} {y1 : Int32} {y2 : Int32} {σ : sS} {q : Int32 × sS}, f_X5_readWord y0 y1 y2 σ = some q → s_T G (d + 71) M_X5_readWord [.ref y0, .int y1, .int y2] σ (e_I q) ∧ ∃ fs, σ.1 y0 = some (.inr (5, fs))) {vs0 : List Value} {σ0 : sS} {x : sL} {z : sZ Int32} {r : Int32 × sS} (hs : S_X5_readAnd f_X5_readAnd f_X5_readBinder f_X5_readIf f_X5_readInner f_X5_readNot f_X5_readOr f_X5_readUnit f_X5_readWord x = some z) (k : s_K G (d + 72) M_X5_readAnd vs0 σ0 Y_X5_readAnd e_I z r) : s_V G (d + 72) M_X5_readAnd vs0 σ0 Y_X5_readAnd x (e_I r) := by
  obtain ⟨pc, vs, σ⟩ := x
  unfold S_X5_readAnd at hs
  dsimp only at hs
  rcases s_ite hs with ⟨c, hs⟩ | ⟨-, hs⟩
  · subst c
    unfold U_X5_readAnd_0 at hs
    obtain ⟨a0, g0, hs⟩ := s_bind hs
    obtain ⟨a1, g1, hs⟩ := s_bind hs
    obtain ⟨a2, g2, hs⟩ := s_bind hs
    obtain ⟨u9, ge, hs⟩ := s_bind hs
    rw [g_r_to g0, g_i_to g1, g_i_to g2, g_e_to ge]
    exact v_X5_readAnd_0 f_X5_readAnd f_X5_readBinder f_X5_readIf f_X5_readInner f_X5_readNot f_X5_readOr f_X5_readUnit f_X5_readWord lG_X5_readAnd lG_X5_readBinder lG_X5_readIf lG_X5_readInner lG_X5_readNot lG_X5_readOr lG_X5_readUnit lG_X5_readWord hG_X5_readAnd hG_X5_readBinder hG_X5_readIf hG_X5_readInner hG_X5_readNot hG_X5_readOr hG_X5_readUnit hG_X5_readWord hs k
  rcases s_ite hs with ⟨c, hs⟩ | ⟨-, hs⟩
  · subst c
    unfold U_X5_readAnd_10 at hs
    obtain ⟨a0, g0, hs⟩ := s_bind hs
    obtain ⟨a1, g1, hs⟩ := s_bind hs
    obtain ⟨a2, g2, hs⟩ := s_bind hs
    obtain ⟨a3, g3, hs⟩ := s_bind hs
    obtain ⟨a4, g4, hs⟩ := s_bind hs
    obtain ⟨u9, ge, hs⟩ := s_bind hs
    rw [g_r_to g0, g_i_to g1, g_i_to g2, g_i_to g3, g_i_to g4, g_e_to ge]
    exact v_X5_readAnd_10 f_X5_readAnd f_X5_readBinder f_X5_readIf f_X5_readInner f_X5_readNot f_X5_readOr f_X5_readUnit f_X5_readWord lG_X5_readAnd lG_X5_readBinder lG_X5_readIf lG_X5_readInner lG_X5_readNot lG_X5_readOr lG_X5_readUnit lG_X5_readWord hG_X5_readAnd hG_X5_readBinder hG_X5_readIf hG_X5_readInner hG_X5_readNot hG_X5_readOr hG_X5_readUnit hG_X5_readWord hs k
  cases hs
theorem l_X5_readBinder_0 (f_X5_readAnd : Nat → Int32 → Int32 → sS → Option (Int32 × sS)) (f_X5_readBinder : Nat → Int32 → Int32 → Int32 → Int32 → sS → Option (Int32 × sS)) (f_X5_readIf : Nat → Int32 → Int32 → sS → Option (Int32 × sS)) (f_X5_readInner : Nat → Int32 → Int32 → sS → Option (Int32 × sS)) (f_X5_readNot : Nat → Int32 → Int32 → sS → Option (Int32 × sS)) (f_X5_readOr : Nat → Int32 → Int32 → sS → Option (Int32 × sS)) (f_X5_readUnit : Nat → Int32 → Int32 → sS → Option (Int32 × sS)) (f_X5_readWord : Nat → Int32 → Int32 → sS → Option (Int32 × sS)) (lG_X5_readAnd : ∀ {y0 : Nat} {y1 : Int32} {y2 : Int32} {σ : sS} {q : Int32 × sS}, f_X5_readAnd y0 y1 y2 σ = some q → s_le σ q.2) (lG_X5_readBinder : ∀ {y0 : Nat} {y1 : Int32} {y2 : Int32} {y3 : Int32} {y4 : Int32} {σ : sS} {q : Int32 × sS}, f_X5_readBinder y0 y1 y2 y3 y4 σ = some q → s_le σ q.2) (lG_X5_readIf : ∀ {y0 : Nat} {y1 : Int32} {y2 : Int32} {σ : sS} {q : Int32 × sS}, f_X5_readIf y0 y1 y2 σ = some q → s_le σ q.2) (lG_X5_readInner : ∀ {y0 : Nat} {y1 : Int32} {y2 : Int32} {σ : sS} {q : Int32 × sS}, f_X5_readInner y0 y1 y2 σ = some q → s_le σ q.2) (lG_X5_readNot : ∀ {y0 : Nat} {y1 : Int32} {y2 : Int32} {σ : sS} {q : Int32 × sS}, f_X5_readNot y0 y1 y2 σ = some q → s_le σ q.2) (lG_X5_readOr : ∀ {y0 : Nat} {y1 : Int32} {y2 : Int32} {σ : sS} {q : Int32 × sS}, f_X5_readOr y0 y1 y2 σ = some q → s_le σ q.2) (lG_X5_readUnit : ∀ {y0 : Nat} {y1 : Int32} {y2 : Int32} {σ : sS} {q : Int32 × sS}, f_X5_readUnit y0 y1 y2 σ = some q → s_le σ q.2) (lG_X5_readWord : ∀ {y0 : Nat} {y1 : Int32} {y2 : Int32} {σ : sS} {q : Int32 × sS}, f_X5_readWord y0 y1 y2 σ = some q → s_le σ q.2) {v0 : Nat} {v1 : Int32} {v2 : Int32} {v3 : Int32} {v4 : Int32} {σ : sS} {z : sZ Int32} (hf : T_X5_readBinder_0 f_X5_readAnd f_X5_readBinder f_X5_readIf f_X5_readInner f_X5_readNot f_X5_readOr f_X5_readUnit f_X5_readWord v0 v1 v2 v3 v4 σ = some z) : s_lz σ z := by
  unfold T_X5_readBinder_0 at hf
  rcases s_ite hf with ⟨-, hf⟩ | ⟨-, hf⟩
  · obtain ⟨q1, hh, hf⟩ := s_bind hf
    refine s_lz.tr (l_X5_mayGoDeeper hh) ?_
    rcases s_ite hf with ⟨-, hf⟩ | ⟨-, hf⟩
    · cases hf
      exact s_le.rf
    · obtain ⟨x2, -, hf⟩ := s_bind hf
      obtain ⟨q3, hh, hf⟩ := s_bind hf
      refine s_lz.tr (l_X5_mayTakeSign hh) ?_
      rcases s_ite hf with ⟨-, hf⟩ | ⟨-, hf⟩
      · cases hf
        exact s_le.rf
      · obtain ⟨σ4, hh, hf⟩ := s_bind hf
        refine s_lz.tr (s_le2 (s_pf_2 hh)) ?_
        obtain ⟨q5, hh, hf⟩ := s_bind hf
        refine s_lz.tr (lG_X5_readUnit hh) ?_
        obtain ⟨x6, -, hf⟩ := s_bind hf
        rcases s_ite hf with ⟨-, hf⟩ | ⟨-, hf⟩
        · obtain ⟨x7, -, hf⟩ := s_bind hf
          obtain ⟨x8, -, hf⟩ := s_bind hf
          obtain ⟨q9, hh, hf⟩ := s_bind hf
          refine s_lz.tr (l_X2_makeBinder hh) ?_
          cases hf
          exact s_le.rf
        · cases hf
          exact s_le.rf
  · obtain ⟨x10, -, hf⟩ := s_bind hf
    obtain ⟨q11, hh, hf⟩ := s_bind hf
    refine s_lz.tr (l_X5_fail hh) ?_
    cases hf
    exact s_le.rf
theorem l_X5_readBinder_s (f_X5_readAnd : Nat → Int32 → Int32 → sS → Option (Int32 × sS)) (f_X5_readBinder : Nat → Int32 → Int32 → Int32 → Int32 → sS → Option (Int32 × sS)) (f_X5_readIf : Nat → Int32 → Int32 → sS → Option (Int32 × sS)) (f_X5_readInner : Nat → Int32 → Int32 → sS → Option (Int32 × sS)) (f_X5_readNot : Nat → Int32 → Int32 → sS → Option (Int32 × sS)) (f_X5_readOr : Nat → Int32 → Int32 → sS → Option (Int32 × sS)) (f_X5_readUnit : Nat → Int32 → Int32 → sS → Option (Int32 × sS)) (f_X5_readWord : Nat → Int32 → Int32 → sS → Option (Int32 × sS)) (lG_X5_readAnd : ∀ {y0 : Nat} {y1 : Int32} {y2 : Int32} {σ : sS} {q : Int32 × sS}, f_X5_readAnd y0 y1 y2 σ = some q → s_le σ q.2) (lG_X5_readBinder : ∀ {y0 : Nat} {y1 : Int32} {y2 : Int32} {y3 : Int32} {y4 : Int32} {σ : sS} {q : Int32 × sS}, f_X5_readBinder y0 y1 y2 y3 y4 σ = some q → s_le σ q.2) (lG_X5_readIf : ∀ {y0 : Nat} {y1 : Int32} {y2 : Int32} {σ : sS} {q : Int32 × sS}, f_X5_readIf y0 y1 y2 σ = some q → s_le σ q.2) (lG_X5_readInner : ∀ {y0 : Nat} {y1 : Int32} {y2 : Int32} {σ : sS} {q : Int32 × sS}, f_X5_readInner y0 y1 y2 σ = some q → s_le σ q.2) (lG_X5_readNot : ∀ {y0 : Nat} {y1 : Int32} {y2 : Int32} {σ : sS} {q : Int32 × sS}, f_X5_readNot y0 y1 y2 σ = some q → s_le σ q.2) (lG_X5_readOr : ∀ {y0 : Nat} {y1 : Int32} {y2 : Int32} {σ : sS} {q : Int32 × sS}, f_X5_readOr y0 y1 y2 σ = some q → s_le σ q.2) (lG_X5_readUnit : ∀ {y0 : Nat} {y1 : Int32} {y2 : Int32} {σ : sS} {q : Int32 × sS}, f_X5_readUnit y0 y1 y2 σ = some q → s_le σ q.2) (lG_X5_readWord : ∀ {y0 : Nat} {y1 : Int32} {y2 : Int32} {σ : sS} {q : Int32 × sS}, f_X5_readWord y0 y1 y2 σ = some q → s_le σ q.2) {x : sL} {z : sZ Int32} (hs : S_X5_readBinder f_X5_readAnd f_X5_readBinder f_X5_readIf f_X5_readInner f_X5_readNot f_X5_readOr f_X5_readUnit f_X5_readWord x = some z) : s_lz x.2.2 z := by
  obtain ⟨pc, vs, σ⟩ := x
  unfold S_X5_readBinder at hs
  dsimp only at hs ⊢
  rcases s_ite hs with ⟨c, hs⟩ | ⟨-, hs⟩
  · subst c
    unfold U_X5_readBinder_0 at hs
    obtain ⟨a0, g0, hs⟩ := s_bind hs
    obtain ⟨a1, g1, hs⟩ := s_bind hs
    obtain ⟨a2, g2, hs⟩ := s_bind hs
    obtain ⟨a3, g3, hs⟩ := s_bind hs
    obtain ⟨a4, g4, hs⟩ := s_bind hs
    obtain ⟨u9, ge, hs⟩ := s_bind hs
    exact l_X5_readBinder_0 f_X5_readAnd f_X5_readBinder f_X5_readIf f_X5_readInner f_X5_readNot f_X5_readOr f_X5_readUnit f_X5_readWord lG_X5_readAnd lG_X5_readBinder lG_X5_readIf lG_X5_readInner lG_X5_readNot lG_X5_readOr lG_X5_readUnit lG_X5_readWord hs
  cases hs
set_option maxRecDepth 100000 in
set_option maxHeartbeats 4000000 in
theorem v_X5_readBinder_0 (f_X5_readAnd : Nat → Int32 → Int32 → sS → Option (Int32 × sS)) (f_X5_readBinder : Nat → Int32 → Int32 → Int32 → Int32 → sS → Option (Int32 × sS)) (f_X5_readIf : Nat → Int32 → Int32 → sS → Option (Int32 × sS)) (f_X5_readInner : Nat → Int32 → Int32 → sS → Option (Int32 × sS)) (f_X5_readNot : Nat → Int32 → Int32 → sS → Option (Int32 × sS)) (f_X5_readOr : Nat → Int32 → Int32 → sS → Option (Int32 × sS)) (f_X5_readUnit : Nat → Int32 → Int32 → sS → Option (Int32 × sS)) (f_X5_readWord : Nat → Int32 → Int32 → sS → Option (Int32 × sS)) {G : sG} {d : Nat} (lG_X5_readAnd : ∀ {y0 : Nat} {y1 : Int32} {y2 : Int32} {σ : sS} {q : Int32 × sS}, f_X5_readAnd y0 y1 y2 σ = some q → s_le σ q.2) (lG_X5_readBinder : ∀ {y0 : Nat} {y1 : Int32} {y2 : Int32} {y3 : Int32} {y4 : Int32} {σ : sS} {q : Int32 × sS}, f_X5_readBinder y0 y1 y2 y3 y4 σ = some q → s_le σ q.2) (lG_X5_readIf : ∀ {y0 : Nat} {y1 : Int32} {y2 : Int32} {σ : sS} {q : Int32 × sS}, f_X5_readIf y0 y1 y2 σ = some q → s_le σ q.2) (lG_X5_readInner : ∀ {y0 : Nat} {y1 : Int32} {y2 : Int32} {σ : sS} {q : Int32 × sS}, f_X5_readInner y0 y1 y2 σ = some q → s_le σ q.2) (lG_X5_readNot : ∀ {y0 : Nat} {y1 : Int32} {y2 : Int32} {σ : sS} {q : Int32 × sS}, f_X5_readNot y0 y1 y2 σ = some q → s_le σ q.2) (lG_X5_readOr : ∀ {y0 : Nat} {y1 : Int32} {y2 : Int32} {σ : sS} {q : Int32 × sS}, f_X5_readOr y0 y1 y2 σ = some q → s_le σ q.2) (lG_X5_readUnit : ∀ {y0 : Nat} {y1 : Int32} {y2 : Int32} {σ : sS} {q : Int32 × sS}, f_X5_readUnit y0 y1 y2 σ = some q → s_le σ q.2) (lG_X5_readWord : ∀ {y0 : Nat} {y1 : Int32} {y2 : Int32} {σ : sS} {q : Int32 × sS}, f_X5_readWord y0 y1 y2 σ = some q → s_le σ q.2) (hG_X5_readAnd : ∀ {y0 : Nat} {y1 : Int32} {y2 : Int32} {σ : sS} {q : Int32 × sS}, f_X5_readAnd y0 y1 y2 σ = some q → s_T G (d + 71) M_X5_readAnd [.ref y0, .int y1, .int y2] σ (e_I q) ∧ ∃ fs, σ.1 y0 = some (.inr (5, fs))) (hG_X5_readBinder : ∀ {y0 : Nat} {y1 : Int32} {y2 : Int32} {y3 : Int32} {y4 : Int32} {σ : sS} {q : Int32 × sS}, f_X5_readBinder y0 y1 y2 y3 y4 σ = some q → s_T G (d + 71) M_X5_readBinder [.ref y0, .int y1, .int y2, .int y3, .int y4] σ (e_I q) ∧ ∃ fs, σ.1 y0 = some (.inr (5, fs))) (hG_X5_readIf : ∀ {y0 : Nat} {y1 : Int32} {y2 : Int32} {σ : sS} {q : Int32 × sS}, f_X5_readIf y0 y1 y2 σ = some q → s_T G (d + 71) M_X5_readIf [.ref y0, .int y1, .int y2] σ (e_I q) ∧ ∃ fs, σ.1 y0 = some (.inr (5, fs))) (hG_X5_readInner : ∀ {y0 : Nat} {y1 : Int32} {y2 : Int32} {σ : sS} {q : Int32 × sS}, f_X5_readInner y0 y1 y2 σ = some q → s_T G (d + 71) M_X5_readInner [.ref y0, .int y1, .int y2] σ (e_I q) ∧ ∃ fs, σ.1 y0 = some (.inr (5, fs))) (hG_X5_readNot : ∀ {y0 : Nat} {y1 : Int32} {y2 : Int32} {σ : sS} {q : Int32 × sS}, f_X5_readNot y0 y1 y2 σ = some q → s_T G (d + 71) M_X5_readNot [.ref y0, .int y1, .int y2] σ (e_I q) ∧ ∃ fs, σ.1 y0 = some (.inr (5, fs))) (hG_X5_readOr : ∀ {y0 : Nat} {y1 : Int32} {y2 : Int32} {σ : sS} {q : Int32 × sS}, f_X5_readOr y0 y1 y2 σ = some q → s_T G (d + 71) M_X5_readOr [.ref y0, .int y1, .int y2] σ (e_I q) ∧ ∃ fs, σ.1 y0 = some (.inr (5, fs))) (hG_X5_readUnit : ∀ {y0 : Nat} {y1 : Int32} {y2 : Int32} {σ : sS} {q : Int32 × sS}, f_X5_readUnit y0 y1 y2 σ = some q → s_T G (d + 71) M_X5_readUnit [.ref y0, .int y1, .int y2] σ (e_I q) ∧ ∃ fs, σ.1 y0 = some (.inr (5, fs))) (hG_X5_readWord : ∀ {y0 : Nat} {y1 : Int32} {y2 : Int32} {σ : sS} {q : Int32 × sS}, f_X5_readWord y0 y1 y2 σ = some q → s_T G (d + 71) M_X5_readWord [.ref y0, .int y1, .int y2] σ (e_I q) ∧ ∃ fs, σ.1 y0 = some (.inr (5, fs))) {vs0 : List Value} {σ0 : sS} {v0 : Nat} {v1 : Int32} {v2 : Int32} {v3 : Int32} {v4 : Int32} {σ : sS} {z : sZ Int32} {r : Int32 × sS} (hf : T_X5_readBinder_0 f_X5_readAnd f_X5_readBinder f_X5_readIf f_X5_readInner f_X5_readNot f_X5_readOr f_X5_readUnit f_X5_readWord v0 v1 v2 v3 v4 σ = some z) (k : s_K G (d + 72) M_X5_readBinder vs0 σ0 Y_X5_readBinder e_I z r) : s_V G (d + 72) M_X5_readBinder vs0 σ0 Y_X5_readBinder (0, [.ref v0, .int v1, .int v2, .int v3, .int v4], σ) (e_I r) := by
  have le0 : s_le σ (e_I r).2 := s_lek hem_I (l_X5_readBinder_0 f_X5_readAnd f_X5_readBinder f_X5_readIf f_X5_readInner f_X5_readNot f_X5_readOr f_X5_readUnit f_X5_readWord lG_X5_readAnd lG_X5_readBinder lG_X5_readIf lG_X5_readInner lG_X5_readNot lG_X5_readOr lG_X5_readUnit lG_X5_readWord hf) k
  refine ⟨le0, ?_⟩
  intro p e s m below meth c H locs cells slots ls X I hn1 hn2 hl
  have hn : cells + σ0.2.1 ≤ σ.2.1 ∧ slots + σ0.2.2.1 ≤ σ.2.2.1 := ⟨hn1, hn2⟩
  have hl : lv_has ls 6 [(0, .ref v0), (1, .int v1), (2, .int v2), (3, .int v3), (4, .int v4)] := hl
  have hx := X.1
  have hb : c.code = cX5_readBinder := X.2.1
  have hown : s.vm.findClass RX5 = some m.cls := X.2.2.2.2.2.1
  have hts := X.2.2.2.2.2.2.1
  refine W.eq (g2 := F0 m 0 ls []) rfl ?_
  unfold T_X5_readBinder_0 at hf
  refine lv_iload hx hb dX5_readBinder_0 (lv_at hl 4 rfl) ?_
  rcases s_ite hf with ⟨c1, hf⟩ | ⟨c1, hf⟩
  · refine lv_if_eq (tgt := 14) hx hb dX5_readBinder_2 (by decide) (fun _ => ?_) (fun n => absurd c1 n)
    obtain ⟨q1, h2, hf⟩ := s_bind hf
    have le3 : s_le q1.2 (e_I r).2 := by
      refine s_lek hem_I ?_ k
      rcases s_ite hf with ⟨-, hf⟩ | ⟨-, hf⟩
      · cases hf
        exact s_le.rf
      · obtain ⟨x2, -, hf⟩ := s_bind hf
        obtain ⟨q3, hh, hf⟩ := s_bind hf
        refine s_lz.tr (l_X5_mayTakeSign hh) ?_
        rcases s_ite hf with ⟨-, hf⟩ | ⟨-, hf⟩
        · cases hf
          exact s_le.rf
        · obtain ⟨σ4, hh, hf⟩ := s_bind hf
          refine s_lz.tr (s_le2 (s_pf_2 hh)) ?_
          obtain ⟨q5, hh, hf⟩ := s_bind hf
          refine s_lz.tr (lG_X5_readUnit hh) ?_
          obtain ⟨x6, -, hf⟩ := s_bind hf
          rcases s_ite hf with ⟨-, hf⟩ | ⟨-, hf⟩
          · obtain ⟨x7, -, hf⟩ := s_bind hf
            obtain ⟨x8, -, hf⟩ := s_bind hf
            obtain ⟨q9, hh, hf⟩ := s_bind hf
            refine s_lz.tr (l_X2_makeBinder hh) ?_
            cases hf
            exact s_le.rf
          · cases hf
            exact s_le.rf
    refine lv_aload_n hx hb dX5_readBinder_14 rfl (lv_at hl 0 rfl) ?_
    refine lv_iload_n hx hb dX5_readBinder_15 rfl (lv_at hl 3 rfl) ?_
    refine r_callV (Y := M_X5_mayGoDeeper) (v := some (.int q1.1)) X I w_733 my_X5_mayGoDeeper (by omega) (t_X5_mayGoDeeper (G := G) (d := d + 69) h2) (b_X5_mayGoDeeper h2) rfl rfl hl.1 rfl (Nat.le_of_ble_eq_true rfl) hn le3 dX5_readBinder_16 (fun H locs cells slots I hn1 hn2 => ?_)
    have I : s_I G q1.2 s H locs := I
    have hn : cells + σ0.2.1 ≤ q1.2.2.1 ∧ slots + σ0.2.2.1 ≤ q1.2.2.2.1 := ⟨hn1, hn2⟩
    rcases s_ite hf with ⟨c4, hf⟩ | ⟨c4, hf⟩
    · refine lv_if_eq (tgt := 33) hx hb dX5_readBinder_19 (by decide) (fun _ => ?_) (fun n => absurd c4 n)
      cases hf
      have k : _ = r := k
      subst k
      refine lv_iconst (v := (-1)) hx hb dX5_readBinder_33 (by decide) ?_
      exact r_iret X I rfl rfl rfl hn dX5_readBinder_34
    · refine lv_if_eq (tgt := 33) hx hb dX5_readBinder_19 (by decide) (fun n => absurd n c4) (fun _ => ?_)
      obtain ⟨x2, h5, hf⟩ := s_bind hf
      obtain ⟨q3, h6, hf⟩ := s_bind hf
      have le7 : s_le q3.2 (e_I r).2 := by
        refine s_lek hem_I ?_ k
        rcases s_ite hf with ⟨-, hf⟩ | ⟨-, hf⟩
        · cases hf
          exact s_le.rf
        · obtain ⟨σ4, hh, hf⟩ := s_bind hf
          refine s_lz.tr (s_le2 (s_pf_2 hh)) ?_
          obtain ⟨q5, hh, hf⟩ := s_bind hf
          refine s_lz.tr (lG_X5_readUnit hh) ?_
          obtain ⟨x6, -, hf⟩ := s_bind hf
          rcases s_ite hf with ⟨-, hf⟩ | ⟨-, hf⟩
          · obtain ⟨x7, -, hf⟩ := s_bind hf
            obtain ⟨x8, -, hf⟩ := s_bind hf
            obtain ⟨q9, hh, hf⟩ := s_bind hf
            refine s_lz.tr (l_X2_makeBinder hh) ?_
            cases hf
            exact s_le.rf
          · cases hf
            exact s_le.rf
      refine lv_aload_n hx hb dX5_readBinder_22 rfl (lv_at hl 0 rfl) ?_
      refine lv_aload_n hx hb dX5_readBinder_23 rfl (lv_at hl 0 rfl) ?_
      refine r_gi X I fl_X5_29 h5 dX5_readBinder_24 ?_
      refine r_callV (Y := M_X5_mayTakeSign) (v := some (.int q3.1)) X I w_737 my_X5_mayTakeSign (by omega) (t_X5_mayTakeSign (G := G) (d := d + 69) h6) (b_X5_mayTakeSign h6) rfl rfl hl.1 rfl (Nat.le_of_ble_eq_true rfl) hn le7 dX5_readBinder_27 (fun H locs cells slots I hn1 hn2 => ?_)
      have I : s_I G q3.2 s H locs := I
      have hn : cells + σ0.2.1 ≤ q3.2.2.1 ∧ slots + σ0.2.2.1 ≤ q3.2.2.2.1 := ⟨hn1, hn2⟩
      rcases s_ite hf with ⟨c8, hf⟩ | ⟨c8, hf⟩
      · refine lv_if_ne (tgt := 35) hx hb dX5_readBinder_30 (by decide) (fun n => absurd c8 n) (fun _ => ?_)
        cases hf
        have k : _ = r := k
        subst k
        refine lv_iconst (v := (-1)) hx hb dX5_readBinder_33 (by decide) ?_
        exact r_iret X I rfl rfl rfl hn dX5_readBinder_34
      · refine lv_if_ne (tgt := 35) hx hb dX5_readBinder_30 (by decide) (fun _ => ?_) (fun n => absurd n c8)
        obtain ⟨σ4, h9, hf⟩ := s_bind hf
        obtain ⟨q5, h10, hf⟩ := s_bind hf
        obtain ⟨x6, h11, hf⟩ := s_bind hf
        have le12 : s_le q5.2 (e_I r).2 := by
          refine s_lek hem_I ?_ k
          rcases s_ite hf with ⟨-, hf⟩ | ⟨-, hf⟩
          · obtain ⟨x7, -, hf⟩ := s_bind hf
            obtain ⟨x8, -, hf⟩ := s_bind hf
            obtain ⟨q9, hh, hf⟩ := s_bind hf
            refine s_lz.tr (l_X2_makeBinder hh) ?_
            cases hf
            exact s_le.rf
          · cases hf
            exact s_le.rf
        have le13 := s_le.tr (lG_X5_readUnit h10) le12
        refine lv_aload_n hx hb dX5_readBinder_35 rfl (lv_at hl 0 rfl) ?_
        refine lv_iload_n hx hb dX5_readBinder_36 rfl (lv_at hl 2 rfl) ?_
        refine r_put X I fp_X5_29 (fun h => by cases h) h9 rfl rfl dX5_readBinder_37 (fun H locs I => ?_)
        have hn := s_k2 (s_pf_2 h9) hn
        refine lv_aload_n hx hb dX5_readBinder_40 rfl (lv_at hl 0 rfl) ?_
        refine lv_iload_n hx hb dX5_readBinder_41 rfl (lv_at hl 3 rfl) ?_
        refine lv_iconst (v := 1) hx hb dX5_readBinder_42 (by decide) ?_
        refine lv_iadd hx hb dX5_readBinder_43 ?_
        refine lv_iconst (v := 1) hx hb dX5_readBinder_44 (by decide) ?_
        refine r_callV (Y := M_X5_readUnit) (v := some (.int q5.1)) X I w_713 my_X5_readUnit (by omega) (hG_X5_readUnit h10).1 (hG_X5_readUnit h10).2 rfl rfl hl.1 rfl (Nat.le_of_ble_eq_true rfl) hn le12 dX5_readBinder_45 (fun H locs cells slots I hn1 hn2 => ?_)
        have I : s_I G q5.2 s H locs := I
        have hn : cells + σ0.2.1 ≤ q5.2.2.1 ∧ slots + σ0.2.2.1 ≤ q5.2.2.2.1 := ⟨hn1, hn2⟩
        refine lv_istore (lv' := [(5, .int q5.1), (0, .ref v0), (1, .int v1), (2, .int v2), (3, .int v3), (4, .int v4)]) hx hb dX5_readBinder_48 hl (by decide) rfl (fun ls hl => ?_)
        refine lv_aload_n hx hb dX5_readBinder_50 rfl (lv_at hl 1 rfl) ?_
        refine r_gi X I fl_X5_9 h11 dX5_readBinder_51 ?_
        refine lv_iconst (v := (-1)) hx hb dX5_readBinder_54 (by decide) ?_
        rcases s_ite hf with ⟨c14, hf⟩ | ⟨c14, hf⟩
        · refine lv_icmp_ne (tgt := 75) hx hb dX5_readBinder_55 (by decide) (fun n => absurd c14 n) (fun _ => ?_)
          obtain ⟨x7, h15, hf⟩ := s_bind hf
          obtain ⟨x8, h16, hf⟩ := s_bind hf
          obtain ⟨q9, h17, hf⟩ := s_bind hf
          cases hf
          have k : _ = r := k
          subst k
          have le18 : s_le q9.2 q9.2 := s_le.rf
          refine lv_aload_n hx hb dX5_readBinder_58 rfl (lv_at hl 1 rfl) ?_
          refine r_gr X I fl_X5_19 h15 dX5_readBinder_59 ?_
          refine lv_iload_n hx hb dX5_readBinder_62 rfl (lv_at hl 2 rfl) ?_
          refine lv_iload hx hb dX5_readBinder_63 (lv_at hl 0 rfl) ?_
          refine lv_aload_n hx hb dX5_readBinder_65 rfl (lv_at hl 1 rfl) ?_
          refine r_gi X I fl_X5_26 h16 dX5_readBinder_66 ?_
          refine r_callV (Y := M_X2_makeBinder) (v := some (.int q9.1)) X I w_842 my_X2_makeBinder (by omega) (t_X2_makeBinder (G := G) (d := d + 1) h17) (b_X2_makeBinder h17) rfl rfl hl.1 rfl (Nat.le_of_ble_eq_true rfl) hn le18 dX5_readBinder_69 (fun H locs cells slots I hn1 hn2 => ?_)
          have I : s_I G q9.2 s H locs := I
          have hn : cells + σ0.2.1 ≤ q9.2.2.1 ∧ slots + σ0.2.2.1 ≤ q9.2.2.2.1 := ⟨hn1, hn2⟩
          refine lv_goto (tgt := 76) hx hb dX5_readBinder_72 (by decide) ?_
          exact r_iret X I rfl rfl rfl hn dX5_readBinder_76
        · refine lv_icmp_ne (tgt := 75) hx hb dX5_readBinder_55 (by decide) (fun _ => ?_) (fun n => absurd n c14)
          cases hf
          have k : _ = r := k
          subst k
          refine lv_iconst (v := (-1)) hx hb dX5_readBinder_75 (by decide) ?_
          exact r_iret X I rfl rfl rfl hn dX5_readBinder_76
  · refine lv_if_eq (tgt := 14) hx hb dX5_readBinder_2 (by decide) (fun n => absurd n c1) (fun _ => ?_)
    obtain ⟨x10, h19, hf⟩ := s_bind hf
    obtain ⟨q11, h20, hf⟩ := s_bind hf
    cases hf
    have k : _ = r := k
    subst k
    have le21 : s_le q11.2 q11.2 := s_le.rf
    refine lv_aload_n hx hb dX5_readBinder_5 rfl (lv_at hl 0 rfl) ?_
    refine lv_aload_n hx hb dX5_readBinder_6 rfl (lv_at hl 0 rfl) ?_
    refine r_gi X I fl_X5_29 h19 dX5_readBinder_7 ?_
    refine r_callV (Y := M_X5_fail) (v := some (.int q11.1)) X I w_725 my_X5_fail (by omega) (t_X5_fail (G := G) (d := d + 70) h20) (b_X5_fail h20) rfl rfl hl.1 rfl (Nat.le_of_ble_eq_true rfl) hn le21 dX5_readBinder_10 (fun H locs cells slots I hn1 hn2 => ?_)
    have I : s_I G q11.2 s H locs := I
    have hn : cells + σ0.2.1 ≤ q11.2.2.1 ∧ slots + σ0.2.2.1 ≤ q11.2.2.2.1 := ⟨hn1, hn2⟩
    exact r_iret X I rfl rfl rfl hn dX5_readBinder_13
theorem v_X5_readBinder (f_X5_readAnd : Nat → Int32 → Int32 → sS → Option (Int32 × sS)) (f_X5_readBinder : Nat → Int32 → Int32 → Int32 → Int32 → sS → Option (Int32 × sS)) (f_X5_readIf : Nat → Int32 → Int32 → sS → Option (Int32 × sS)) (f_X5_readInner : Nat → Int32 → Int32 → sS → Option (Int32 × sS)) (f_X5_readNot : Nat → Int32 → Int32 → sS → Option (Int32 × sS)) (f_X5_readOr : Nat → Int32 → Int32 → sS → Option (Int32 × sS)) (f_X5_readUnit : Nat → Int32 → Int32 → sS → Option (Int32 × sS)) (f_X5_readWord : Nat → Int32 → Int32 → sS → Option (Int32 × sS)) {G : sG} {d : Nat} (lG_X5_readAnd : ∀ {y0 : Nat} {y1 : Int32} {y2 : Int32} {σ : sS} {q : Int32 × sS}, f_X5_readAnd y0 y1 y2 σ = some q → s_le σ q.2) (lG_X5_readBinder : ∀ {y0 : Nat} {y1 : Int32} {y2 : Int32} {y3 : Int32} {y4 : Int32} {σ : sS} {q : Int32 × sS}, f_X5_readBinder y0 y1 y2 y3 y4 σ = some q → s_le σ q.2) (lG_X5_readIf : ∀ {y0 : Nat} {y1 : Int32} {y2 : Int32} {σ : sS} {q : Int32 × sS}, f_X5_readIf y0 y1 y2 σ = some q → s_le σ q.2) (lG_X5_readInner : ∀ {y0 : Nat} {y1 : Int32} {y2 : Int32} {σ : sS} {q : Int32 × sS}, f_X5_readInner y0 y1 y2 σ = some q → s_le σ q.2) (lG_X5_readNot : ∀ {y0 : Nat} {y1 : Int32} {y2 : Int32} {σ : sS} {q : Int32 × sS}, f_X5_readNot y0 y1 y2 σ = some q → s_le σ q.2) (lG_X5_readOr : ∀ {y0 : Nat} {y1 : Int32} {y2 : Int32} {σ : sS} {q : Int32 × sS}, f_X5_readOr y0 y1 y2 σ = some q → s_le σ q.2) (lG_X5_readUnit : ∀ {y0 : Nat} {y1 : Int32} {y2 : Int32} {σ : sS} {q : Int32 × sS}, f_X5_readUnit y0 y1 y2 σ = some q → s_le σ q.2) (lG_X5_readWord : ∀ {y0 : Nat} {y1 : Int32} {y2 : Int32} {σ : sS} {q : Int32 × sS}, f_X5_readWord y0 y1 y2 σ = some q → s_le σ q.2) (hG_X5_readAnd : ∀ {y0 : Nat} {y1 : Int32} {y2 : Int32} {σ : sS} {q : Int32 × sS}, f_X5_readAnd y0 y1 y2 σ = some q → s_T G (d + 71) M_X5_readAnd [.ref y0, .int y1, .int y2] σ (e_I q) ∧ ∃ fs, σ.1 y0 = some (.inr (5, fs))) (hG_X5_readBinder : ∀ {y0 : Nat} {y1 : Int32} {y2 : Int32} {y3 : Int32} {y4 : Int32} {σ : sS} {q : Int32 × sS}, f_X5_readBinder y0 y1 y2 y3 y4 σ = some q → s_T G (d + 71) M_X5_readBinder [.ref y0, .int y1, .int y2, .int y3, .int y4] σ (e_I q) ∧ ∃ fs, σ.1 y0 = some (.inr (5, fs))) (hG_X5_readIf : ∀ {y0 : Nat} {y1 : Int32} {y2 : Int32} {σ : sS} {q : Int32 × sS}, f_X5_readIf y0 y1 y2 σ = some q → s_T G (d + 71) M_X5_readIf [.ref y0, .int y1, .int y2] σ (e_I q) ∧ ∃ fs, σ.1 y0 = some (.inr (5, fs))) (hG_X5_readInner : ∀ {y0 : Nat} {y1 : Int32} {y2 : Int32} {σ : sS} {q : Int32 × sS}, f_X5_readInner y0 y1 y2 σ = some q → s_T G (d + 71) M_X5_readInner [.ref y0, .int y1, .int y2] σ (e_I q) ∧ ∃ fs, σ.1 y0 = some (.inr (5, fs))) (hG_X5_readNot : ∀ {y0 : Nat} {y1 : Int32} {y2 : Int32} {σ : sS} {q : Int32 × sS}, f_X5_readNot y0 y1 y2 σ = some q → s_T G (d + 71) M_X5_readNot [.ref y0, .int y1, .int y2] σ (e_I q) ∧ ∃ fs, σ.1 y0 = some (.inr (5, fs))) (hG_X5_readOr : ∀ {y0 : Nat} {y1 : Int32} {y2 : Int32} {σ : sS} {q : Int32 × sS}, f_X5_readOr y0 y1 y2 σ = some q → s_T G (d + 71) M_X5_readOr [.ref y0, .int y1, .int y2] σ (e_I q) ∧ ∃ fs, σ.1 y0 = some (.inr (5, fs))) (hG_X5_readUnit : ∀ {y0 : Nat} {y1 : Int32} {y2 : Int32} {σ : sS} {q : Int32 × sS}, f_X5_readUnit y0 y1 y2 σ = some q → s_T G (d + 71) M_X5_readUnit [.ref y0, .int y1, .int y2] σ (e_I q) ∧ ∃ fs, σ.1 y0 = some (.inr (5, fs))) (hG_X5_readWord : ∀ {y0 : Nat} {y1 : Int32} {y2 : Int32} {σ : sS} {q : Int32 × sS}, f_X5_readWord y0 y1 y2 σ = some q → s_T G (d + 71) M_X5_readWord [.ref y0, .int y1, .int y2] σ (e_I q) ∧ ∃ fs, σ.1 y0 = some (.inr (5, fs))) {vs0 : List Value} {σ0 : sS} {x : sL} {z : sZ Int32} {r : Int32 × sS} (hs : S_X5_readBinder f_X5_readAnd f_X5_readBinder f_X5_readIf f_X5_readInner f_X5_readNot f_X5_readOr f_X5_readUnit f_X5_readWord x = some z) (k : s_K G (d + 72) M_X5_readBinder vs0 σ0 Y_X5_readBinder e_I z r) : s_V G (d + 72) M_X5_readBinder vs0 σ0 Y_X5_readBinder x (e_I r) := by
  obtain ⟨pc, vs, σ⟩ := x
  unfold S_X5_readBinder at hs
  dsimp only at hs
  rcases s_ite hs with ⟨c, hs⟩ | ⟨-, hs⟩
  · subst c
    unfold U_X5_readBinder_0 at hs
    obtain ⟨a0, g0, hs⟩ := s_bind hs
    obtain ⟨a1, g1, hs⟩ := s_bind hs
    obtain ⟨a2, g2, hs⟩ := s_bind hs
    obtain ⟨a3, g3, hs⟩ := s_bind hs
    obtain ⟨a4, g4, hs⟩ := s_bind hs
    obtain ⟨u9, ge, hs⟩ := s_bind hs
    rw [g_r_to g0, g_i_to g1, g_i_to g2, g_i_to g3, g_i_to g4, g_e_to ge]
    exact v_X5_readBinder_0 f_X5_readAnd f_X5_readBinder f_X5_readIf f_X5_readInner f_X5_readNot f_X5_readOr f_X5_readUnit f_X5_readWord lG_X5_readAnd lG_X5_readBinder lG_X5_readIf lG_X5_readInner lG_X5_readNot lG_X5_readOr lG_X5_readUnit lG_X5_readWord hG_X5_readAnd hG_X5_readBinder hG_X5_readIf hG_X5_readInner hG_X5_readNot hG_X5_readOr hG_X5_readUnit hG_X5_readWord hs k
  cases hs
theorem l_X5_readIf_0 (f_X5_readAnd : Nat → Int32 → Int32 → sS → Option (Int32 × sS)) (f_X5_readBinder : Nat → Int32 → Int32 → Int32 → Int32 → sS → Option (Int32 × sS)) (f_X5_readIf : Nat → Int32 → Int32 → sS → Option (Int32 × sS)) (f_X5_readInner : Nat → Int32 → Int32 → sS → Option (Int32 × sS)) (f_X5_readNot : Nat → Int32 → Int32 → sS → Option (Int32 × sS)) (f_X5_readOr : Nat → Int32 → Int32 → sS → Option (Int32 × sS)) (f_X5_readUnit : Nat → Int32 → Int32 → sS → Option (Int32 × sS)) (f_X5_readWord : Nat → Int32 → Int32 → sS → Option (Int32 × sS)) (lG_X5_readAnd : ∀ {y0 : Nat} {y1 : Int32} {y2 : Int32} {σ : sS} {q : Int32 × sS}, f_X5_readAnd y0 y1 y2 σ = some q → s_le σ q.2) (lG_X5_readBinder : ∀ {y0 : Nat} {y1 : Int32} {y2 : Int32} {y3 : Int32} {y4 : Int32} {σ : sS} {q : Int32 × sS}, f_X5_readBinder y0 y1 y2 y3 y4 σ = some q → s_le σ q.2) (lG_X5_readIf : ∀ {y0 : Nat} {y1 : Int32} {y2 : Int32} {σ : sS} {q : Int32 × sS}, f_X5_readIf y0 y1 y2 σ = some q → s_le σ q.2) (lG_X5_readInner : ∀ {y0 : Nat} {y1 : Int32} {y2 : Int32} {σ : sS} {q : Int32 × sS}, f_X5_readInner y0 y1 y2 σ = some q → s_le σ q.2) (lG_X5_readNot : ∀ {y0 : Nat} {y1 : Int32} {y2 : Int32} {σ : sS} {q : Int32 × sS}, f_X5_readNot y0 y1 y2 σ = some q → s_le σ q.2) (lG_X5_readOr : ∀ {y0 : Nat} {y1 : Int32} {y2 : Int32} {σ : sS} {q : Int32 × sS}, f_X5_readOr y0 y1 y2 σ = some q → s_le σ q.2) (lG_X5_readUnit : ∀ {y0 : Nat} {y1 : Int32} {y2 : Int32} {σ : sS} {q : Int32 × sS}, f_X5_readUnit y0 y1 y2 σ = some q → s_le σ q.2) (lG_X5_readWord : ∀ {y0 : Nat} {y1 : Int32} {y2 : Int32} {σ : sS} {q : Int32 × sS}, f_X5_readWord y0 y1 y2 σ = some q → s_le σ q.2) {v0 : Nat} {v1 : Int32} {v2 : Int32} {σ : sS} {z : sZ Int32} (hf : T_X5_readIf_0 f_X5_readAnd f_X5_readBinder f_X5_readIf f_X5_readInner f_X5_readNot f_X5_readOr f_X5_readUnit f_X5_readWord v0 v1 v2 σ = some z) : s_lz σ z := by
  unfold T_X5_readIf_0 at hf
  obtain ⟨q1, hh, hf⟩ := s_bind hf
  refine s_lz.tr (lG_X5_readOr hh) ?_
  obtain ⟨q2, hh, hf⟩ := s_bind hf
  refine s_lz.tr (l_X5_peek hh) ?_
  rcases s_ite hf with ⟨-, hf⟩ | ⟨-, hf⟩
  · obtain ⟨q3, hh, hf⟩ := s_bind hf
    refine s_lz.tr (l_X5_mayGoDeeper hh) ?_
    rcases s_ite hf with ⟨-, hf⟩ | ⟨-, hf⟩
    · cases hf
      exact s_le.rf
    · obtain ⟨x4, -, hf⟩ := s_bind hf
      obtain ⟨q5, hh, hf⟩ := s_bind hf
      refine s_lz.tr (l_X5_mayTakeSign hh) ?_
      rcases s_ite hf with ⟨-, hf⟩ | ⟨-, hf⟩
      · cases hf
        exact s_le.rf
      · obtain ⟨x6, -, hf⟩ := s_bind hf
        obtain ⟨σ7, hh, hf⟩ := s_bind hf
        refine s_lz.tr (s_le2 (s_pf_2 hh)) ?_
        obtain ⟨q8, hh, hf⟩ := s_bind hf
        refine s_lz.tr (lG_X5_readIf hh) ?_
        obtain ⟨q9, hh, hf⟩ := s_bind hf
        refine s_lz.tr (l_X5_join hh) ?_
        cases hf
        exact s_le.rf
  · cases hf
    exact s_le.rf
theorem l_X5_readIf_s (f_X5_readAnd : Nat → Int32 → Int32 → sS → Option (Int32 × sS)) (f_X5_readBinder : Nat → Int32 → Int32 → Int32 → Int32 → sS → Option (Int32 × sS)) (f_X5_readIf : Nat → Int32 → Int32 → sS → Option (Int32 × sS)) (f_X5_readInner : Nat → Int32 → Int32 → sS → Option (Int32 × sS)) (f_X5_readNot : Nat → Int32 → Int32 → sS → Option (Int32 × sS)) (f_X5_readOr : Nat → Int32 → Int32 → sS → Option (Int32 × sS)) (f_X5_readUnit : Nat → Int32 → Int32 → sS → Option (Int32 × sS)) (f_X5_readWord : Nat → Int32 → Int32 → sS → Option (Int32 × sS)) (lG_X5_readAnd : ∀ {y0 : Nat} {y1 : Int32} {y2 : Int32} {σ : sS} {q : Int32 × sS}, f_X5_readAnd y0 y1 y2 σ = some q → s_le σ q.2) (lG_X5_readBinder : ∀ {y0 : Nat} {y1 : Int32} {y2 : Int32} {y3 : Int32} {y4 : Int32} {σ : sS} {q : Int32 × sS}, f_X5_readBinder y0 y1 y2 y3 y4 σ = some q → s_le σ q.2) (lG_X5_readIf : ∀ {y0 : Nat} {y1 : Int32} {y2 : Int32} {σ : sS} {q : Int32 × sS}, f_X5_readIf y0 y1 y2 σ = some q → s_le σ q.2) (lG_X5_readInner : ∀ {y0 : Nat} {y1 : Int32} {y2 : Int32} {σ : sS} {q : Int32 × sS}, f_X5_readInner y0 y1 y2 σ = some q → s_le σ q.2) (lG_X5_readNot : ∀ {y0 : Nat} {y1 : Int32} {y2 : Int32} {σ : sS} {q : Int32 × sS}, f_X5_readNot y0 y1 y2 σ = some q → s_le σ q.2) (lG_X5_readOr : ∀ {y0 : Nat} {y1 : Int32} {y2 : Int32} {σ : sS} {q : Int32 × sS}, f_X5_readOr y0 y1 y2 σ = some q → s_le σ q.2) (lG_X5_readUnit : ∀ {y0 : Nat} {y1 : Int32} {y2 : Int32} {σ : sS} {q : Int32 × sS}, f_X5_readUnit y0 y1 y2 σ = some q → s_le σ q.2) (lG_X5_readWord : ∀ {y0 : Nat} {y1 : Int32} {y2 : Int32} {σ : sS} {q : Int32 × sS}, f_X5_readWord y0 y1 y2 σ = some q → s_le σ q.2) {x : sL} {z : sZ Int32} (hs : S_X5_readIf f_X5_readAnd f_X5_readBinder f_X5_readIf f_X5_readInner f_X5_readNot f_X5_readOr f_X5_readUnit f_X5_readWord x = some z) : s_lz x.2.2 z := by
  obtain ⟨pc, vs, σ⟩ := x
  unfold S_X5_readIf at hs
  dsimp only at hs ⊢
  rcases s_ite hs with ⟨c, hs⟩ | ⟨-, hs⟩
  · subst c
    unfold U_X5_readIf_0 at hs
    obtain ⟨a0, g0, hs⟩ := s_bind hs
    obtain ⟨a1, g1, hs⟩ := s_bind hs
    obtain ⟨a2, g2, hs⟩ := s_bind hs
    obtain ⟨u9, ge, hs⟩ := s_bind hs
    exact l_X5_readIf_0 f_X5_readAnd f_X5_readBinder f_X5_readIf f_X5_readInner f_X5_readNot f_X5_readOr f_X5_readUnit f_X5_readWord lG_X5_readAnd lG_X5_readBinder lG_X5_readIf lG_X5_readInner lG_X5_readNot lG_X5_readOr lG_X5_readUnit lG_X5_readWord hs
  cases hs
set_option maxRecDepth 100000 in
set_option maxHeartbeats 4000000 in
theorem v_X5_readIf_0 (f_X5_readAnd : Nat → Int32 → Int32 → sS → Option (Int32 × sS)) (f_X5_readBinder : Nat → Int32 → Int32 → Int32 → Int32 → sS → Option (Int32 × sS)) (f_X5_readIf : Nat → Int32 → Int32 → sS → Option (Int32 × sS)) (f_X5_readInner : Nat → Int32 → Int32 → sS → Option (Int32 × sS)) (f_X5_readNot : Nat → Int32 → Int32 → sS → Option (Int32 × sS)) (f_X5_readOr : Nat → Int32 → Int32 → sS → Option (Int32 × sS)) (f_X5_readUnit : Nat → Int32 → Int32 → sS → Option (Int32 × sS)) (f_X5_readWord : Nat → Int32 → Int32 → sS → Option (Int32 × sS)) {G : sG} {d : Nat} (lG_X5_readAnd : ∀ {y0 : Nat} {y1 : Int32} {y2 : Int32} {σ : sS} {q : Int32 × sS}, f_X5_readAnd y0 y1 y2 σ = some q → s_le σ q.2) (lG_X5_readBinder : ∀ {y0 : Nat} {y1 : Int32} {y2 : Int32} {y3 : Int32} {y4 : Int32} {σ : sS} {q : Int32 × sS}, f_X5_readBinder y0 y1 y2 y3 y4 σ = some q → s_le σ q.2) (lG_X5_readIf : ∀ {y0 : Nat} {y1 : Int32} {y2 : Int32} {σ : sS} {q : Int32 × sS}, f_X5_readIf y0 y1 y2 σ = some q → s_le σ q.2) (lG_X5_readInner : ∀ {y0 : Nat} {y1 : Int32} {y2 : Int32} {σ : sS} {q : Int32 × sS}, f_X5_readInner y0 y1 y2 σ = some q → s_le σ q.2) (lG_X5_readNot : ∀ {y0 : Nat} {y1 : Int32} {y2 : Int32} {σ : sS} {q : Int32 × sS}, f_X5_readNot y0 y1 y2 σ = some q → s_le σ q.2) (lG_X5_readOr : ∀ {y0 : Nat} {y1 : Int32} {y2 : Int32} {σ : sS} {q : Int32 × sS}, f_X5_readOr y0 y1 y2 σ = some q → s_le σ q.2) (lG_X5_readUnit : ∀ {y0 : Nat} {y1 : Int32} {y2 : Int32} {σ : sS} {q : Int32 × sS}, f_X5_readUnit y0 y1 y2 σ = some q → s_le σ q.2) (lG_X5_readWord : ∀ {y0 : Nat} {y1 : Int32} {y2 : Int32} {σ : sS} {q : Int32 × sS}, f_X5_readWord y0 y1 y2 σ = some q → s_le σ q.2) (hG_X5_readAnd : ∀ {y0 : Nat} {y1 : Int32} {y2 : Int32} {σ : sS} {q : Int32 × sS}, f_X5_readAnd y0 y1 y2 σ = some q → s_T G (d + 71) M_X5_readAnd [.ref y0, .int y1, .int y2] σ (e_I q) ∧ ∃ fs, σ.1 y0 = some (.inr (5, fs))) (hG_X5_readBinder : ∀ {y0 : Nat} {y1 : Int32} {y2 : Int32} {y3 : Int32} {y4 : Int32} {σ : sS} {q : Int32 × sS}, f_X5_readBinder y0 y1 y2 y3 y4 σ = some q → s_T G (d + 71) M_X5_readBinder [.ref y0, .int y1, .int y2, .int y3, .int y4] σ (e_I q) ∧ ∃ fs, σ.1 y0 = some (.inr (5, fs))) (hG_X5_readIf : ∀ {y0 : Nat} {y1 : Int32} {y2 : Int32} {σ : sS} {q : Int32 × sS}, f_X5_readIf y0 y1 y2 σ = some q → s_T G (d + 71) M_X5_readIf [.ref y0, .int y1, .int y2] σ (e_I q) ∧ ∃ fs, σ.1 y0 = some (.inr (5, fs))) (hG_X5_readInner : ∀ {y0 : Nat} {y1 : Int32} {y2 : Int32} {σ : sS} {q : Int32 × sS}, f_X5_readInner y0 y1 y2 σ = some q → s_T G (d + 71) M_X5_readInner [.ref y0, .int y1, .int y2] σ (e_I q) ∧ ∃ fs, σ.1 y0 = some (.inr (5, fs))) (hG_X5_readNot : ∀ {y0 : Nat} {y1 : Int32} {y2 : Int32} {σ : sS} {q : Int32 × sS}, f_X5_readNot y0 y1 y2 σ = some q → s_T G (d + 71) M_X5_readNot [.ref y0, .int y1, .int y2] σ (e_I q) ∧ ∃ fs, σ.1 y0 = some (.inr (5, fs))) (hG_X5_readOr : ∀ {y0 : Nat} {y1 : Int32} {y2 : Int32} {σ : sS} {q : Int32 × sS}, f_X5_readOr y0 y1 y2 σ = some q → s_T G (d + 71) M_X5_readOr [.ref y0, .int y1, .int y2] σ (e_I q) ∧ ∃ fs, σ.1 y0 = some (.inr (5, fs))) (hG_X5_readUnit : ∀ {y0 : Nat} {y1 : Int32} {y2 : Int32} {σ : sS} {q : Int32 × sS}, f_X5_readUnit y0 y1 y2 σ = some q → s_T G (d + 71) M_X5_readUnit [.ref y0, .int y1, .int y2] σ (e_I q) ∧ ∃ fs, σ.1 y0 = some (.inr (5, fs))) (hG_X5_readWord : ∀ {y0 : Nat} {y1 : Int32} {y2 : Int32} {σ : sS} {q : Int32 × sS}, f_X5_readWord y0 y1 y2 σ = some q → s_T G (d + 71) M_X5_readWord [.ref y0, .int y1, .int y2] σ (e_I q) ∧ ∃ fs, σ.1 y0 = some (.inr (5, fs))) {vs0 : List Value} {σ0 : sS} {v0 : Nat} {v1 : Int32} {v2 : Int32} {σ : sS} {z : sZ Int32} {r : Int32 × sS} (hf : T_X5_readIf_0 f_X5_readAnd f_X5_readBinder f_X5_readIf f_X5_readInner f_X5_readNot f_X5_readOr f_X5_readUnit f_X5_readWord v0 v1 v2 σ = some z) (k : s_K G (d + 72) M_X5_readIf vs0 σ0 Y_X5_readIf e_I z r) : s_V G (d + 72) M_X5_readIf vs0 σ0 Y_X5_readIf (0, [.ref v0, .int v1, .int v2], σ) (e_I r) := by
  have le0 : s_le σ (e_I r).2 := s_lek hem_I (l_X5_readIf_0 f_X5_readAnd f_X5_readBinder f_X5_readIf f_X5_readInner f_X5_readNot f_X5_readOr f_X5_readUnit f_X5_readWord lG_X5_readAnd lG_X5_readBinder lG_X5_readIf lG_X5_readInner lG_X5_readNot lG_X5_readOr lG_X5_readUnit lG_X5_readWord hf) k
  refine ⟨le0, ?_⟩
  intro p e s m below meth c H locs cells slots ls X I hn1 hn2 hl
  have hn : cells + σ0.2.1 ≤ σ.2.1 ∧ slots + σ0.2.2.1 ≤ σ.2.2.1 := ⟨hn1, hn2⟩
  have hl : lv_has ls 5 [(0, .ref v0), (1, .int v1), (2, .int v2)] := hl
  have hx := X.1
  have hb : c.code = cX5_readIf := X.2.1
  have hown : s.vm.findClass RX5 = some m.cls := X.2.2.2.2.2.1
  have hts := X.2.2.2.2.2.2.1
  refine W.eq (g2 := F0 m 0 ls []) rfl ?_
  unfold T_X5_readIf_0 at hf
  obtain ⟨q1, h1, hf⟩ := s_bind hf
  obtain ⟨q2, h2, hf⟩ := s_bind hf
  have le3 : s_le q2.2 (e_I r).2 := by
    refine s_lek hem_I ?_ k
    rcases s_ite hf with ⟨-, hf⟩ | ⟨-, hf⟩
    · obtain ⟨q3, hh, hf⟩ := s_bind hf
      refine s_lz.tr (l_X5_mayGoDeeper hh) ?_
      rcases s_ite hf with ⟨-, hf⟩ | ⟨-, hf⟩
      · cases hf
        exact s_le.rf
      · obtain ⟨x4, -, hf⟩ := s_bind hf
        obtain ⟨q5, hh, hf⟩ := s_bind hf
        refine s_lz.tr (l_X5_mayTakeSign hh) ?_
        rcases s_ite hf with ⟨-, hf⟩ | ⟨-, hf⟩
        · cases hf
          exact s_le.rf
        · obtain ⟨x6, -, hf⟩ := s_bind hf
          obtain ⟨σ7, hh, hf⟩ := s_bind hf
          refine s_lz.tr (s_le2 (s_pf_2 hh)) ?_
          obtain ⟨q8, hh, hf⟩ := s_bind hf
          refine s_lz.tr (lG_X5_readIf hh) ?_
          obtain ⟨q9, hh, hf⟩ := s_bind hf
          refine s_lz.tr (l_X5_join hh) ?_
          cases hf
          exact s_le.rf
    · cases hf
      exact s_le.rf
  have le4 := s_le.tr (l_X5_peek h2) le3
  refine lv_aload_n hx hb dX5_readIf_0 rfl (lv_at hl 0 rfl) ?_
  refine lv_iload_n hx hb dX5_readIf_1 rfl (lv_at hl 1 rfl) ?_
  refine lv_iload_n hx hb dX5_readIf_2 rfl (lv_at hl 2 rfl) ?_
  refine r_callV (Y := M_X5_readOr) (v := some (.int q1.1)) X I w_705 my_X5_readOr (by omega) (hG_X5_readOr h1).1 (hG_X5_readOr h1).2 rfl rfl hl.1 rfl (Nat.le_of_ble_eq_true rfl) hn le4 dX5_readIf_3 (fun H locs cells slots I hn1 hn2 => ?_)
  have I : s_I G q1.2 s H locs := I
  have hn : cells + σ0.2.1 ≤ q1.2.2.1 ∧ slots + σ0.2.2.1 ≤ q1.2.2.2.1 := ⟨hn1, hn2⟩
  refine lv_istore_n (lv' := [(3, .int q1.1), (0, .ref v0), (1, .int v1), (2, .int v2)]) hx hb dX5_readIf_6 rfl hl (by decide) rfl (fun ls hl => ?_)
  refine lv_aload_n hx hb dX5_readIf_7 rfl (lv_at hl 1 rfl) ?_
  refine r_callV (Y := M_X5_peek) (v := some (.int q2.1)) X I w_717 my_X5_peek (by omega) (t_X5_peek (G := G) (d := d + 69) h2) (b_X5_peek h2) rfl rfl hl.1 rfl (Nat.le_of_ble_eq_true rfl) hn le3 dX5_readIf_8 (fun H locs cells slots I hn1 hn2 => ?_)
  have I : s_I G q2.2 s H locs := I
  have hn : cells + σ0.2.1 ≤ q2.2.2.1 ∧ slots + σ0.2.2.1 ≤ q2.2.2.2.1 := ⟨hn1, hn2⟩
  refine lv_bipush (v := 62) hx hb dX5_readIf_11 (by decide) ?_
  rcases s_ite hf with ⟨c5, hf⟩ | ⟨c5, hf⟩
  · refine lv_icmp_ne (tgt := 35) hx hb dX5_readIf_13 (by decide) (fun n => absurd c5 n) (fun _ => ?_)
    obtain ⟨q3, h6, hf⟩ := s_bind hf
    have le7 : s_le q3.2 (e_I r).2 := by
      refine s_lek hem_I ?_ k
      rcases s_ite hf with ⟨-, hf⟩ | ⟨-, hf⟩
      · cases hf
        exact s_le.rf
      · obtain ⟨x4, -, hf⟩ := s_bind hf
        obtain ⟨q5, hh, hf⟩ := s_bind hf
        refine s_lz.tr (l_X5_mayTakeSign hh) ?_
        rcases s_ite hf with ⟨-, hf⟩ | ⟨-, hf⟩
        · cases hf
          exact s_le.rf
        · obtain ⟨x6, -, hf⟩ := s_bind hf
          obtain ⟨σ7, hh, hf⟩ := s_bind hf
          refine s_lz.tr (s_le2 (s_pf_2 hh)) ?_
          obtain ⟨q8, hh, hf⟩ := s_bind hf
          refine s_lz.tr (lG_X5_readIf hh) ?_
          obtain ⟨q9, hh, hf⟩ := s_bind hf
          refine s_lz.tr (l_X5_join hh) ?_
          cases hf
          exact s_le.rf
    refine lv_aload_n hx hb dX5_readIf_16 rfl (lv_at hl 1 rfl) ?_
    refine lv_iload_n hx hb dX5_readIf_17 rfl (lv_at hl 2 rfl) ?_
    refine r_callV (Y := M_X5_mayGoDeeper) (v := some (.int q3.1)) X I w_733 my_X5_mayGoDeeper (by omega) (t_X5_mayGoDeeper (G := G) (d := d + 69) h6) (b_X5_mayGoDeeper h6) rfl rfl hl.1 rfl (Nat.le_of_ble_eq_true rfl) hn le7 dX5_readIf_18 (fun H locs cells slots I hn1 hn2 => ?_)
    have I : s_I G q3.2 s H locs := I
    have hn : cells + σ0.2.1 ≤ q3.2.2.1 ∧ slots + σ0.2.2.1 ≤ q3.2.2.2.1 := ⟨hn1, hn2⟩
    rcases s_ite hf with ⟨c8, hf⟩ | ⟨c8, hf⟩
    · refine lv_if_eq (tgt := 35) hx hb dX5_readIf_21 (by decide) (fun _ => ?_) (fun n => absurd c8 n)
      cases hf
      have k : _ = r := k
      subst k
      refine lv_iload_n hx hb dX5_readIf_35 rfl (lv_at hl 0 rfl) ?_
      exact r_iret X I rfl rfl rfl hn dX5_readIf_36
    · refine lv_if_eq (tgt := 35) hx hb dX5_readIf_21 (by decide) (fun n => absurd n c8) (fun _ => ?_)
      obtain ⟨x4, h9, hf⟩ := s_bind hf
      obtain ⟨q5, h10, hf⟩ := s_bind hf
      have le11 : s_le q5.2 (e_I r).2 := by
        refine s_lek hem_I ?_ k
        rcases s_ite hf with ⟨-, hf⟩ | ⟨-, hf⟩
        · cases hf
          exact s_le.rf
        · obtain ⟨x6, -, hf⟩ := s_bind hf
          obtain ⟨σ7, hh, hf⟩ := s_bind hf
          refine s_lz.tr (s_le2 (s_pf_2 hh)) ?_
          obtain ⟨q8, hh, hf⟩ := s_bind hf
          refine s_lz.tr (lG_X5_readIf hh) ?_
          obtain ⟨q9, hh, hf⟩ := s_bind hf
          refine s_lz.tr (l_X5_join hh) ?_
          cases hf
          exact s_le.rf
      refine lv_aload_n hx hb dX5_readIf_24 rfl (lv_at hl 1 rfl) ?_
      refine lv_aload_n hx hb dX5_readIf_25 rfl (lv_at hl 1 rfl) ?_
      refine r_gi X I fl_X5_29 h9 dX5_readIf_26 ?_
      refine r_callV (Y := M_X5_mayTakeSign) (v := some (.int q5.1)) X I w_737 my_X5_mayTakeSign (by omega) (t_X5_mayTakeSign (G := G) (d := d + 69) h10) (b_X5_mayTakeSign h10) rfl rfl hl.1 rfl (Nat.le_of_ble_eq_true rfl) hn le11 dX5_readIf_29 (fun H locs cells slots I hn1 hn2 => ?_)
      have I : s_I G q5.2 s H locs := I
      have hn : cells + σ0.2.1 ≤ q5.2.2.1 ∧ slots + σ0.2.2.1 ≤ q5.2.2.2.1 := ⟨hn1, hn2⟩
      rcases s_ite hf with ⟨c12, hf⟩ | ⟨c12, hf⟩
      · refine lv_if_ne (tgt := 37) hx hb dX5_readIf_32 (by decide) (fun n => absurd c12 n) (fun _ => ?_)
        cases hf
        have k : _ = r := k
        subst k
        refine lv_iload_n hx hb dX5_readIf_35 rfl (lv_at hl 0 rfl) ?_
        exact r_iret X I rfl rfl rfl hn dX5_readIf_36
      · refine lv_if_ne (tgt := 37) hx hb dX5_readIf_32 (by decide) (fun _ => ?_) (fun n => absurd n c12)
        obtain ⟨x6, h13, hf⟩ := s_bind hf
        obtain ⟨σ7, h14, hf⟩ := s_bind hf
        obtain ⟨q8, h15, hf⟩ := s_bind hf
        obtain ⟨q9, h16, hf⟩ := s_bind hf
        cases hf
        have k : _ = r := k
        subst k
        have le17 : s_le q9.2 q9.2 := s_le.rf
        have le18 := s_le.tr (l_X5_join h16) le17
        have le19 := s_le.tr (lG_X5_readIf h15) le18
        refine lv_aload_n hx hb dX5_readIf_37 rfl (lv_at hl 1 rfl) ?_
        refine lv_dup hx hb dX5_readIf_38 rfl ?_
        refine r_gi X I fl_X5_29 h13 dX5_readIf_39 ?_
        refine lv_iconst (v := 1) hx hb dX5_readIf_42 (by decide) ?_
        refine lv_iadd hx hb dX5_readIf_43 ?_
        refine r_put X I fp_X5_29 (fun h => by cases h) h14 rfl rfl dX5_readIf_44 (fun H locs I => ?_)
        have hn := s_k2 (s_pf_2 h14) hn
        refine lv_aload_n hx hb dX5_readIf_47 rfl (lv_at hl 1 rfl) ?_
        refine lv_iload_n hx hb dX5_readIf_48 rfl (lv_at hl 2 rfl) ?_
        refine lv_iconst (v := 1) hx hb dX5_readIf_49 (by decide) ?_
        refine lv_iadd hx hb dX5_readIf_50 ?_
        refine lv_iload_n hx hb dX5_readIf_51 rfl (lv_at hl 3 rfl) ?_
        refine r_callV (Y := M_X5_readIf) (v := some (.int q8.1)) X I w_701 my_X5_readIf (by omega) (hG_X5_readIf h15).1 (hG_X5_readIf h15).2 rfl rfl hl.1 rfl (Nat.le_of_ble_eq_true rfl) hn le18 dX5_readIf_52 (fun H locs cells slots I hn1 hn2 => ?_)
        have I : s_I G q8.2 s H locs := I
        have hn : cells + σ0.2.1 ≤ q8.2.2.1 ∧ slots + σ0.2.2.1 ≤ q8.2.2.2.1 := ⟨hn1, hn2⟩
        refine lv_istore (lv' := [(4, .int q8.1), (3, .int q1.1), (0, .ref v0), (1, .int v1), (2, .int v2)]) hx hb dX5_readIf_55 hl (by decide) rfl (fun ls hl => ?_)
        refine lv_aload_n hx hb dX5_readIf_57 rfl (lv_at hl 2 rfl) ?_
        refine lv_iconst (v := 4) hx hb dX5_readIf_58 (by decide) ?_
        refine lv_iload_n hx hb dX5_readIf_59 rfl (lv_at hl 1 rfl) ?_
        refine lv_iload hx hb dX5_readIf_60 (lv_at hl 0 rfl) ?_
        refine r_callV (Y := M_X5_join) (v := some (.int q9.1)) X I w_741 my_X5_join (by omega) (t_X5_join (G := G) (d := d + 67) h16) (b_X5_join h16) rfl rfl hl.1 rfl (Nat.le_of_ble_eq_true rfl) hn le17 dX5_readIf_62 (fun H locs cells slots I hn1 hn2 => ?_)
        have I : s_I G q9.2 s H locs := I
        have hn : cells + σ0.2.1 ≤ q9.2.2.1 ∧ slots + σ0.2.2.1 ≤ q9.2.2.2.1 := ⟨hn1, hn2⟩
        exact r_iret X I rfl rfl rfl hn dX5_readIf_65
  · refine lv_icmp_ne (tgt := 35) hx hb dX5_readIf_13 (by decide) (fun _ => ?_) (fun n => absurd n c5)
    cases hf
    have k : _ = r := k
    subst k
    refine lv_iload_n hx hb dX5_readIf_35 rfl (lv_at hl 0 rfl) ?_
    exact r_iret X I rfl rfl rfl hn dX5_readIf_36
theorem v_X5_readIf (f_X5_readAnd : Nat → Int32 → Int32 → sS → Option (Int32 × sS)) (f_X5_readBinder : Nat → Int32 → Int32 → Int32 → Int32 → sS → Option (Int32 × sS)) (f_X5_readIf : Nat → Int32 → Int32 → sS → Option (Int32 × sS)) (f_X5_readInner : Nat → Int32 → Int32 → sS → Option (Int32 × sS)) (f_X5_readNot : Nat → Int32 → Int32 → sS → Option (Int32 × sS)) (f_X5_readOr : Nat → Int32 → Int32 → sS → Option (Int32 × sS)) (f_X5_readUnit : Nat → Int32 → Int32 → sS → Option (Int32 × sS)) (f_X5_readWord : Nat → Int32 → Int32 → sS → Option (Int32 × sS)) {G : sG} {d : Nat} (lG_X5_readAnd : ∀ {y0 : Nat} {y1 : Int32} {y2 : Int32} {σ : sS} {q : Int32 × sS}, f_X5_readAnd y0 y1 y2 σ = some q → s_le σ q.2) (lG_X5_readBinder : ∀ {y0 : Nat} {y1 : Int32} {y2 : Int32} {y3 : Int32} {y4 : Int32} {σ : sS} {q : Int32 × sS}, f_X5_readBinder y0 y1 y2 y3 y4 σ = some q → s_le σ q.2) (lG_X5_readIf : ∀ {y0 : Nat} {y1 : Int32} {y2 : Int32} {σ : sS} {q : Int32 × sS}, f_X5_readIf y0 y1 y2 σ = some q → s_le σ q.2) (lG_X5_readInner : ∀ {y0 : Nat} {y1 : Int32} {y2 : Int32} {σ : sS} {q : Int32 × sS}, f_X5_readInner y0 y1 y2 σ = some q → s_le σ q.2) (lG_X5_readNot : ∀ {y0 : Nat} {y1 : Int32} {y2 : Int32} {σ : sS} {q : Int32 × sS}, f_X5_readNot y0 y1 y2 σ = some q → s_le σ q.2) (lG_X5_readOr : ∀ {y0 : Nat} {y1 : Int32} {y2 : Int32} {σ : sS} {q : Int32 × sS}, f_X5_readOr y0 y1 y2 σ = some q → s_le σ q.2) (lG_X5_readUnit : ∀ {y0 : Nat} {y1 : Int32} {y2 : Int32} {σ : sS} {q : Int32 × sS}, f_X5_readUnit y0 y1 y2 σ = some q → s_le σ q.2) (lG_X5_readWord : ∀ {y0 : Nat} {y1 : Int32} {y2 : Int32} {σ : sS} {q : Int32 × sS}, f_X5_readWord y0 y1 y2 σ = some q → s_le σ q.2) (hG_X5_readAnd : ∀ {y0 : Nat} {y1 : Int32} {y2 : Int32} {σ : sS} {q : Int32 × sS}, f_X5_readAnd y0 y1 y2 σ = some q → s_T G (d + 71) M_X5_readAnd [.ref y0, .int y1, .int y2] σ (e_I q) ∧ ∃ fs, σ.1 y0 = some (.inr (5, fs))) (hG_X5_readBinder : ∀ {y0 : Nat} {y1 : Int32} {y2 : Int32} {y3 : Int32} {y4 : Int32} {σ : sS} {q : Int32 × sS}, f_X5_readBinder y0 y1 y2 y3 y4 σ = some q → s_T G (d + 71) M_X5_readBinder [.ref y0, .int y1, .int y2, .int y3, .int y4] σ (e_I q) ∧ ∃ fs, σ.1 y0 = some (.inr (5, fs))) (hG_X5_readIf : ∀ {y0 : Nat} {y1 : Int32} {y2 : Int32} {σ : sS} {q : Int32 × sS}, f_X5_readIf y0 y1 y2 σ = some q → s_T G (d + 71) M_X5_readIf [.ref y0, .int y1, .int y2] σ (e_I q) ∧ ∃ fs, σ.1 y0 = some (.inr (5, fs))) (hG_X5_readInner : ∀ {y0 : Nat} {y1 : Int32} {y2 : Int32} {σ : sS} {q : Int32 × sS}, f_X5_readInner y0 y1 y2 σ = some q → s_T G (d + 71) M_X5_readInner [.ref y0, .int y1, .int y2] σ (e_I q) ∧ ∃ fs, σ.1 y0 = some (.inr (5, fs))) (hG_X5_readNot : ∀ {y0 : Nat} {y1 : Int32} {y2 : Int32} {σ : sS} {q : Int32 × sS}, f_X5_readNot y0 y1 y2 σ = some q → s_T G (d + 71) M_X5_readNot [.ref y0, .int y1, .int y2] σ (e_I q) ∧ ∃ fs, σ.1 y0 = some (.inr (5, fs))) (hG_X5_readOr : ∀ {y0 : Nat} {y1 : Int32} {y2 : Int32} {σ : sS} {q : Int32 × sS}, f_X5_readOr y0 y1 y2 σ = some q → s_T G (d + 71) M_X5_readOr [.ref y0, .int y1, .int y2] σ (e_I q) ∧ ∃ fs, σ.1 y0 = some (.inr (5, fs))) (hG_X5_readUnit : ∀ {y0 : Nat} {y1 : Int32} {y2 : Int32} {σ : sS} {q : Int32 × sS}, f_X5_readUnit y0 y1 y2 σ = some q → s_T G (d + 71) M_X5_readUnit [.ref y0, .int y1, .int y2] σ (e_I q) ∧ ∃ fs, σ.1 y0 = some (.inr (5, fs))) (hG_X5_readWord : ∀ {y0 : Nat} {y1 : Int32} {y2 : Int32} {σ : sS} {q : Int32 × sS}, f_X5_readWord y0 y1 y2 σ = some q → s_T G (d + 71) M_X5_readWord [.ref y0, .int y1, .int y2] σ (e_I q) ∧ ∃ fs, σ.1 y0 = some (.inr (5, fs))) {vs0 : List Value} {σ0 : sS} {x : sL} {z : sZ Int32} {r : Int32 × sS} (hs : S_X5_readIf f_X5_readAnd f_X5_readBinder f_X5_readIf f_X5_readInner f_X5_readNot f_X5_readOr f_X5_readUnit f_X5_readWord x = some z) (k : s_K G (d + 72) M_X5_readIf vs0 σ0 Y_X5_readIf e_I z r) : s_V G (d + 72) M_X5_readIf vs0 σ0 Y_X5_readIf x (e_I r) := by
  obtain ⟨pc, vs, σ⟩ := x
  unfold S_X5_readIf at hs
  dsimp only at hs
  rcases s_ite hs with ⟨c, hs⟩ | ⟨-, hs⟩
  · subst c
    unfold U_X5_readIf_0 at hs
    obtain ⟨a0, g0, hs⟩ := s_bind hs
    obtain ⟨a1, g1, hs⟩ := s_bind hs
    obtain ⟨a2, g2, hs⟩ := s_bind hs
    obtain ⟨u9, ge, hs⟩ := s_bind hs
    rw [g_r_to g0, g_i_to g1, g_i_to g2, g_e_to ge]
    exact v_X5_readIf_0 f_X5_readAnd f_X5_readBinder f_X5_readIf f_X5_readInner f_X5_readNot f_X5_readOr f_X5_readUnit f_X5_readWord lG_X5_readAnd lG_X5_readBinder lG_X5_readIf lG_X5_readInner lG_X5_readNot lG_X5_readOr lG_X5_readUnit lG_X5_readWord hG_X5_readAnd hG_X5_readBinder hG_X5_readIf hG_X5_readInner hG_X5_readNot hG_X5_readOr hG_X5_readUnit hG_X5_readWord hs k
  cases hs
theorem l_X5_readInner_0 (f_X5_readAnd : Nat → Int32 → Int32 → sS → Option (Int32 × sS)) (f_X5_readBinder : Nat → Int32 → Int32 → Int32 → Int32 → sS → Option (Int32 × sS)) (f_X5_readIf : Nat → Int32 → Int32 → sS → Option (Int32 × sS)) (f_X5_readInner : Nat → Int32 → Int32 → sS → Option (Int32 × sS)) (f_X5_readNot : Nat → Int32 → Int32 → sS → Option (Int32 × sS)) (f_X5_readOr : Nat → Int32 → Int32 → sS → Option (Int32 × sS)) (f_X5_readUnit : Nat → Int32 → Int32 → sS → Option (Int32 × sS)) (f_X5_readWord : Nat → Int32 → Int32 → sS → Option (Int32 × sS)) (lG_X5_readAnd : ∀ {y0 : Nat} {y1 : Int32} {y2 : Int32} {σ : sS} {q : Int32 × sS}, f_X5_readAnd y0 y1 y2 σ = some q → s_le σ q.2) (lG_X5_readBinder : ∀ {y0 : Nat} {y1 : Int32} {y2 : Int32} {y3 : Int32} {y4 : Int32} {σ : sS} {q : Int32 × sS}, f_X5_readBinder y0 y1 y2 y3 y4 σ = some q → s_le σ q.2) (lG_X5_readIf : ∀ {y0 : Nat} {y1 : Int32} {y2 : Int32} {σ : sS} {q : Int32 × sS}, f_X5_readIf y0 y1 y2 σ = some q → s_le σ q.2) (lG_X5_readInner : ∀ {y0 : Nat} {y1 : Int32} {y2 : Int32} {σ : sS} {q : Int32 × sS}, f_X5_readInner y0 y1 y2 σ = some q → s_le σ q.2) (lG_X5_readNot : ∀ {y0 : Nat} {y1 : Int32} {y2 : Int32} {σ : sS} {q : Int32 × sS}, f_X5_readNot y0 y1 y2 σ = some q → s_le σ q.2) (lG_X5_readOr : ∀ {y0 : Nat} {y1 : Int32} {y2 : Int32} {σ : sS} {q : Int32 × sS}, f_X5_readOr y0 y1 y2 σ = some q → s_le σ q.2) (lG_X5_readUnit : ∀ {y0 : Nat} {y1 : Int32} {y2 : Int32} {σ : sS} {q : Int32 × sS}, f_X5_readUnit y0 y1 y2 σ = some q → s_le σ q.2) (lG_X5_readWord : ∀ {y0 : Nat} {y1 : Int32} {y2 : Int32} {σ : sS} {q : Int32 × sS}, f_X5_readWord y0 y1 y2 σ = some q → s_le σ q.2) {v0 : Nat} {v1 : Int32} {v2 : Int32} {σ : sS} {z : sZ Int32} (hf : T_X5_readInner_0 f_X5_readAnd f_X5_readBinder f_X5_readIf f_X5_readInner f_X5_readNot f_X5_readOr f_X5_readUnit f_X5_readWord v0 v1 v2 σ = some z) : s_lz σ z := by
  unfold T_X5_readInner_0 at hf
  obtain ⟨q1, hh, hf⟩ := s_bind hf
  refine s_lz.tr (l_X5_mayGoDeeper hh) ?_
  rcases s_ite hf with ⟨-, hf⟩ | ⟨-, hf⟩
  · cases hf
    exact s_le.rf
  · obtain ⟨x2, -, hf⟩ := s_bind hf
    obtain ⟨σ3, hh, hf⟩ := s_bind hf
    refine s_lz.tr (s_le2 (s_pf_2 hh)) ?_
    obtain ⟨q4, hh, hf⟩ := s_bind hf
    refine s_lz.tr (lG_X5_readIf hh) ?_
    obtain ⟨q5, hh, hf⟩ := s_bind hf
    refine s_lz.tr (l_X5_peek hh) ?_
    rcases s_ite hf with ⟨-, hf⟩ | ⟨-, hf⟩
    · obtain ⟨x10, -, hf⟩ := s_bind hf
      obtain ⟨q11, hh, hf⟩ := s_bind hf
      refine s_lz.tr (l_X5_fail hh) ?_
      cases hf
      exact s_le.rf
    · rcases s_ite hf with ⟨-, hf⟩ | ⟨-, hf⟩
      · obtain ⟨x6, -, hf⟩ := s_bind hf
        obtain ⟨σ7, hh, hf⟩ := s_bind hf
        refine s_lz.tr (s_le2 (s_pf_2 hh)) ?_
        cases hf
        exact s_le.rf
      · obtain ⟨x8, -, hf⟩ := s_bind hf
        obtain ⟨q9, hh, hf⟩ := s_bind hf
        refine s_lz.tr (l_X5_fail hh) ?_
        cases hf
        exact s_le.rf
theorem l_X5_readInner_s (f_X5_readAnd : Nat → Int32 → Int32 → sS → Option (Int32 × sS)) (f_X5_readBinder : Nat → Int32 → Int32 → Int32 → Int32 → sS → Option (Int32 × sS)) (f_X5_readIf : Nat → Int32 → Int32 → sS → Option (Int32 × sS)) (f_X5_readInner : Nat → Int32 → Int32 → sS → Option (Int32 × sS)) (f_X5_readNot : Nat → Int32 → Int32 → sS → Option (Int32 × sS)) (f_X5_readOr : Nat → Int32 → Int32 → sS → Option (Int32 × sS)) (f_X5_readUnit : Nat → Int32 → Int32 → sS → Option (Int32 × sS)) (f_X5_readWord : Nat → Int32 → Int32 → sS → Option (Int32 × sS)) (lG_X5_readAnd : ∀ {y0 : Nat} {y1 : Int32} {y2 : Int32} {σ : sS} {q : Int32 × sS}, f_X5_readAnd y0 y1 y2 σ = some q → s_le σ q.2) (lG_X5_readBinder : ∀ {y0 : Nat} {y1 : Int32} {y2 : Int32} {y3 : Int32} {y4 : Int32} {σ : sS} {q : Int32 × sS}, f_X5_readBinder y0 y1 y2 y3 y4 σ = some q → s_le σ q.2) (lG_X5_readIf : ∀ {y0 : Nat} {y1 : Int32} {y2 : Int32} {σ : sS} {q : Int32 × sS}, f_X5_readIf y0 y1 y2 σ = some q → s_le σ q.2) (lG_X5_readInner : ∀ {y0 : Nat} {y1 : Int32} {y2 : Int32} {σ : sS} {q : Int32 × sS}, f_X5_readInner y0 y1 y2 σ = some q → s_le σ q.2) (lG_X5_readNot : ∀ {y0 : Nat} {y1 : Int32} {y2 : Int32} {σ : sS} {q : Int32 × sS}, f_X5_readNot y0 y1 y2 σ = some q → s_le σ q.2) (lG_X5_readOr : ∀ {y0 : Nat} {y1 : Int32} {y2 : Int32} {σ : sS} {q : Int32 × sS}, f_X5_readOr y0 y1 y2 σ = some q → s_le σ q.2) (lG_X5_readUnit : ∀ {y0 : Nat} {y1 : Int32} {y2 : Int32} {σ : sS} {q : Int32 × sS}, f_X5_readUnit y0 y1 y2 σ = some q → s_le σ q.2) (lG_X5_readWord : ∀ {y0 : Nat} {y1 : Int32} {y2 : Int32} {σ : sS} {q : Int32 × sS}, f_X5_readWord y0 y1 y2 σ = some q → s_le σ q.2) {x : sL} {z : sZ Int32} (hs : S_X5_readInner f_X5_readAnd f_X5_readBinder f_X5_readIf f_X5_readInner f_X5_readNot f_X5_readOr f_X5_readUnit f_X5_readWord x = some z) : s_lz x.2.2 z := by
  obtain ⟨pc, vs, σ⟩ := x
  unfold S_X5_readInner at hs
  dsimp only at hs ⊢
  rcases s_ite hs with ⟨c, hs⟩ | ⟨-, hs⟩
  · subst c
    unfold U_X5_readInner_0 at hs
    obtain ⟨a0, g0, hs⟩ := s_bind hs
    obtain ⟨a1, g1, hs⟩ := s_bind hs
    obtain ⟨a2, g2, hs⟩ := s_bind hs
    obtain ⟨u9, ge, hs⟩ := s_bind hs
    exact l_X5_readInner_0 f_X5_readAnd f_X5_readBinder f_X5_readIf f_X5_readInner f_X5_readNot f_X5_readOr f_X5_readUnit f_X5_readWord lG_X5_readAnd lG_X5_readBinder lG_X5_readIf lG_X5_readInner lG_X5_readNot lG_X5_readOr lG_X5_readUnit lG_X5_readWord hs
  cases hs
set_option maxRecDepth 100000 in
set_option maxHeartbeats 4000000 in
theorem v_X5_readInner_0 (f_X5_readAnd : Nat → Int32 → Int32 → sS → Option (Int32 × sS)) (f_X5_readBinder : Nat → Int32 → Int32 → Int32 → Int32 → sS → Option (Int32 × sS)) (f_X5_readIf : Nat → Int32 → Int32 → sS → Option (Int32 × sS)) (f_X5_readInner : Nat → Int32 → Int32 → sS → Option (Int32 × sS)) (f_X5_readNot : Nat → Int32 → Int32 → sS → Option (Int32 × sS)) (f_X5_readOr : Nat → Int32 → Int32 → sS → Option (Int32 × sS)) (f_X5_readUnit : Nat → Int32 → Int32 → sS → Option (Int32 × sS)) (f_X5_readWord : Nat → Int32 → Int32 → sS → Option (Int32 × sS)) {G : sG} {d : Nat} (lG_X5_readAnd : ∀ {y0 : Nat} {y1 : Int32} {y2 : Int32} {σ : sS} {q : Int32 × sS}, f_X5_readAnd y0 y1 y2 σ = some q → s_le σ q.2) (lG_X5_readBinder : ∀ {y0 : Nat} {y1 : Int32} {y2 : Int32} {y3 : Int32} {y4 : Int32} {σ : sS} {q : Int32 × sS}, f_X5_readBinder y0 y1 y2 y3 y4 σ = some q → s_le σ q.2) (lG_X5_readIf : ∀ {y0 : Nat} {y1 : Int32} {y2 : Int32} {σ : sS} {q : Int32 × sS}, f_X5_readIf y0 y1 y2 σ = some q → s_le σ q.2) (lG_X5_readInner : ∀ {y0 : Nat} {y1 : Int32} {y2 : Int32} {σ : sS} {q : Int32 × sS}, f_X5_readInner y0 y1 y2 σ = some q → s_le σ q.2) (lG_X5_readNot : ∀ {y0 : Nat} {y1 : Int32} {y2 : Int32} {σ : sS} {q : Int32 × sS}, f_X5_readNot y0 y1 y2 σ = some q → s_le σ q.2) (lG_X5_readOr : ∀ {y0 : Nat} {y1 : Int32} {y2 : Int32} {σ : sS} {q : Int32 × sS}, f_X5_readOr y0 y1 y2 σ = some q → s_le σ q.2) (lG_X5_readUnit : ∀ {y0 : Nat} {y1 : Int32} {y2 : Int32} {σ : sS} {q : Int32 × sS}, f_X5_readUnit y0 y1 y2 σ = some q → s_le σ q.2) (lG_X5_readWord : ∀ {y0 : Nat} {y1 : Int32} {y2 : Int32} {σ : sS} {q : Int32 × sS}, f_X5_readWord y0 y1 y2 σ = some q → s_le σ q.2) (hG_X5_readAnd : ∀ {y0 : Nat} {y1 : Int32} {y2 : Int32} {σ : sS} {q : Int32 × sS}, f_X5_readAnd y0 y1 y2 σ = some q → s_T G (d + 71) M_X5_readAnd [.ref y0, .int y1, .int y2] σ (e_I q) ∧ ∃ fs, σ.1 y0 = some (.inr (5, fs))) (hG_X5_readBinder : ∀ {y0 : Nat} {y1 : Int32} {y2 : Int32} {y3 : Int32} {y4 : Int32} {σ : sS} {q : Int32 × sS}, f_X5_readBinder y0 y1 y2 y3 y4 σ = some q → s_T G (d + 71) M_X5_readBinder [.ref y0, .int y1, .int y2, .int y3, .int y4] σ (e_I q) ∧ ∃ fs, σ.1 y0 = some (.inr (5, fs))) (hG_X5_readIf : ∀ {y0 : Nat} {y1 : Int32} {y2 : Int32} {σ : sS} {q : Int32 × sS}, f_X5_readIf y0 y1 y2 σ = some q → s_T G (d + 71) M_X5_readIf [.ref y0, .int y1, .int y2] σ (e_I q) ∧ ∃ fs, σ.1 y0 = some (.inr (5, fs))) (hG_X5_readInner : ∀ {y0 : Nat} {y1 : Int32} {y2 : Int32} {σ : sS} {q : Int32 × sS}, f_X5_readInner y0 y1 y2 σ = some q → s_T G (d + 71) M_X5_readInner [.ref y0, .int y1, .int y2] σ (e_I q) ∧ ∃ fs, σ.1 y0 = some (.inr (5, fs))) (hG_X5_readNot : ∀ {y0 : Nat} {y1 : Int32} {y2 : Int32} {σ : sS} {q : Int32 × sS}, f_X5_readNot y0 y1 y2 σ = some q → s_T G (d + 71) M_X5_readNot [.ref y0, .int y1, .int y2] σ (e_I q) ∧ ∃ fs, σ.1 y0 = some (.inr (5, fs))) (hG_X5_readOr : ∀ {y0 : Nat} {y1 : Int32} {y2 : Int32} {σ : sS} {q : Int32 × sS}, f_X5_readOr y0 y1 y2 σ = some q → s_T G (d + 71) M_X5_readOr [.ref y0, .int y1, .int y2] σ (e_I q) ∧ ∃ fs, σ.1 y0 = some (.inr (5, fs))) (hG_X5_readUnit : ∀ {y0 : Nat} {y1 : Int32} {y2 : Int32} {σ : sS} {q : Int32 × sS}, f_X5_readUnit y0 y1 y2 σ = some q → s_T G (d + 71) M_X5_readUnit [.ref y0, .int y1, .int y2] σ (e_I q) ∧ ∃ fs, σ.1 y0 = some (.inr (5, fs))) (hG_X5_readWord : ∀ {y0 : Nat} {y1 : Int32} {y2 : Int32} {σ : sS} {q : Int32 × sS}, f_X5_readWord y0 y1 y2 σ = some q → s_T G (d + 71) M_X5_readWord [.ref y0, .int y1, .int y2] σ (e_I q) ∧ ∃ fs, σ.1 y0 = some (.inr (5, fs))) {vs0 : List Value} {σ0 : sS} {v0 : Nat} {v1 : Int32} {v2 : Int32} {σ : sS} {z : sZ Int32} {r : Int32 × sS} (hf : T_X5_readInner_0 f_X5_readAnd f_X5_readBinder f_X5_readIf f_X5_readInner f_X5_readNot f_X5_readOr f_X5_readUnit f_X5_readWord v0 v1 v2 σ = some z) (k : s_K G (d + 72) M_X5_readInner vs0 σ0 Y_X5_readInner e_I z r) : s_V G (d + 72) M_X5_readInner vs0 σ0 Y_X5_readInner (0, [.ref v0, .int v1, .int v2], σ) (e_I r) := by
  have le0 : s_le σ (e_I r).2 := s_lek hem_I (l_X5_readInner_0 f_X5_readAnd f_X5_readBinder f_X5_readIf f_X5_readInner f_X5_readNot f_X5_readOr f_X5_readUnit f_X5_readWord lG_X5_readAnd lG_X5_readBinder lG_X5_readIf lG_X5_readInner lG_X5_readNot lG_X5_readOr lG_X5_readUnit lG_X5_readWord hf) k
  refine ⟨le0, ?_⟩
  intro p e s m below meth c H locs cells slots ls X I hn1 hn2 hl
  have hn : cells + σ0.2.1 ≤ σ.2.1 ∧ slots + σ0.2.2.1 ≤ σ.2.2.1 := ⟨hn1, hn2⟩
  have hl : lv_has ls 5 [(0, .ref v0), (1, .int v1), (2, .int v2)] := hl
  have hx := X.1
  have hb : c.code = cX5_readInner := X.2.1
  have hown : s.vm.findClass RX5 = some m.cls := X.2.2.2.2.2.1
  have hts := X.2.2.2.2.2.2.1
  refine W.eq (g2 := F0 m 0 ls []) rfl ?_
  unfold T_X5_readInner_0 at hf
  obtain ⟨q1, h1, hf⟩ := s_bind hf
  have le2 : s_le q1.2 (e_I r).2 := by
    refine s_lek hem_I ?_ k
    rcases s_ite hf with ⟨-, hf⟩ | ⟨-, hf⟩
    · cases hf
      exact s_le.rf
    · obtain ⟨x2, -, hf⟩ := s_bind hf
      obtain ⟨σ3, hh, hf⟩ := s_bind hf
      refine s_lz.tr (s_le2 (s_pf_2 hh)) ?_
      obtain ⟨q4, hh, hf⟩ := s_bind hf
      refine s_lz.tr (lG_X5_readIf hh) ?_
      obtain ⟨q5, hh, hf⟩ := s_bind hf
      refine s_lz.tr (l_X5_peek hh) ?_
      rcases s_ite hf with ⟨-, hf⟩ | ⟨-, hf⟩
      · obtain ⟨x10, -, hf⟩ := s_bind hf
        obtain ⟨q11, hh, hf⟩ := s_bind hf
        refine s_lz.tr (l_X5_fail hh) ?_
        cases hf
        exact s_le.rf
      · rcases s_ite hf with ⟨-, hf⟩ | ⟨-, hf⟩
        · obtain ⟨x6, -, hf⟩ := s_bind hf
          obtain ⟨σ7, hh, hf⟩ := s_bind hf
          refine s_lz.tr (s_le2 (s_pf_2 hh)) ?_
          cases hf
          exact s_le.rf
        · obtain ⟨x8, -, hf⟩ := s_bind hf
          obtain ⟨q9, hh, hf⟩ := s_bind hf
          refine s_lz.tr (l_X5_fail hh) ?_
          cases hf
          exact s_le.rf
  refine lv_aload_n hx hb dX5_readInner_0 rfl (lv_at hl 0 rfl) ?_
  refine lv_iload_n hx hb dX5_readInner_1 rfl (lv_at hl 1 rfl) ?_
  refine r_callV (Y := M_X5_mayGoDeeper) (v := some (.int q1.1)) X I w_733 my_X5_mayGoDeeper (by omega) (t_X5_mayGoDeeper (G := G) (d := d + 69) h1) (b_X5_mayGoDeeper h1) rfl rfl hl.1 rfl (Nat.le_of_ble_eq_true rfl) hn le2 dX5_readInner_2 (fun H locs cells slots I hn1 hn2 => ?_)
  have I : s_I G q1.2 s H locs := I
  have hn : cells + σ0.2.1 ≤ q1.2.2.1 ∧ slots + σ0.2.2.1 ≤ q1.2.2.2.1 := ⟨hn1, hn2⟩
  rcases s_ite hf with ⟨c3, hf⟩ | ⟨c3, hf⟩
  · refine lv_if_ne (tgt := 10) hx hb dX5_readInner_5 (by decide) (fun n => absurd c3 n) (fun _ => ?_)
    cases hf
    have k : _ = r := k
    subst k
    refine lv_iconst (v := (-1)) hx hb dX5_readInner_8 (by decide) ?_
    exact r_iret X I rfl rfl rfl hn dX5_readInner_9
  · refine lv_if_ne (tgt := 10) hx hb dX5_readInner_5 (by decide) (fun _ => ?_) (fun n => absurd n c3)
    obtain ⟨x2, h4, hf⟩ := s_bind hf
    obtain ⟨σ3, h5, hf⟩ := s_bind hf
    obtain ⟨q4, h6, hf⟩ := s_bind hf
    obtain ⟨q5, h7, hf⟩ := s_bind hf
    have le8 : s_le q5.2 (e_I r).2 := by
      refine s_lek hem_I ?_ k
      rcases s_ite hf with ⟨-, hf⟩ | ⟨-, hf⟩
      · obtain ⟨x10, -, hf⟩ := s_bind hf
        obtain ⟨q11, hh, hf⟩ := s_bind hf
        refine s_lz.tr (l_X5_fail hh) ?_
        cases hf
        exact s_le.rf
      · rcases s_ite hf with ⟨-, hf⟩ | ⟨-, hf⟩
        · obtain ⟨x6, -, hf⟩ := s_bind hf
          obtain ⟨σ7, hh, hf⟩ := s_bind hf
          refine s_lz.tr (s_le2 (s_pf_2 hh)) ?_
          cases hf
          exact s_le.rf
        · obtain ⟨x8, -, hf⟩ := s_bind hf
          obtain ⟨q9, hh, hf⟩ := s_bind hf
          refine s_lz.tr (l_X5_fail hh) ?_
          cases hf
          exact s_le.rf
    have le9 := s_le.tr (l_X5_peek h7) le8
    have le10 := s_le.tr (lG_X5_readIf h6) le9
    refine lv_aload_n hx hb dX5_readInner_10 rfl (lv_at hl 0 rfl) ?_
    refine lv_dup hx hb dX5_readInner_11 rfl ?_
    refine r_gi X I fl_X5_29 h4 dX5_readInner_12 ?_
    refine lv_iconst (v := 1) hx hb dX5_readInner_15 (by decide) ?_
    refine lv_iadd hx hb dX5_readInner_16 ?_
    refine r_put X I fp_X5_29 (fun h => by cases h) h5 rfl rfl dX5_readInner_17 (fun H locs I => ?_)
    have hn := s_k2 (s_pf_2 h5) hn
    refine lv_aload_n hx hb dX5_readInner_20 rfl (lv_at hl 0 rfl) ?_
    refine lv_iload_n hx hb dX5_readInner_21 rfl (lv_at hl 1 rfl) ?_
    refine lv_iconst (v := 1) hx hb dX5_readInner_22 (by decide) ?_
    refine lv_iadd hx hb dX5_readInner_23 ?_
    refine lv_iload_n hx hb dX5_readInner_24 rfl (lv_at hl 2 rfl) ?_
    refine r_callV (Y := M_X5_readIf) (v := some (.int q4.1)) X I w_701 my_X5_readIf (by omega) (hG_X5_readIf h6).1 (hG_X5_readIf h6).2 rfl rfl hl.1 rfl (Nat.le_of_ble_eq_true rfl) hn le9 dX5_readInner_25 (fun H locs cells slots I hn1 hn2 => ?_)
    have I : s_I G q4.2 s H locs := I
    have hn : cells + σ0.2.1 ≤ q4.2.2.1 ∧ slots + σ0.2.2.1 ≤ q4.2.2.2.1 := ⟨hn1, hn2⟩
    refine lv_istore_n (lv' := [(3, .int q4.1), (0, .ref v0), (1, .int v1), (2, .int v2)]) hx hb dX5_readInner_28 rfl hl (by decide) rfl (fun ls hl => ?_)
    refine lv_aload_n hx hb dX5_readInner_29 rfl (lv_at hl 1 rfl) ?_
    refine r_callV (Y := M_X5_peek) (v := some (.int q5.1)) X I w_717 my_X5_peek (by omega) (t_X5_peek (G := G) (d := d + 69) h7) (b_X5_peek h7) rfl rfl hl.1 rfl (Nat.le_of_ble_eq_true rfl) hn le8 dX5_readInner_30 (fun H locs cells slots I hn1 hn2 => ?_)
    have I : s_I G q5.2 s H locs := I
    have hn : cells + σ0.2.1 ≤ q5.2.2.1 ∧ slots + σ0.2.2.1 ≤ q5.2.2.2.1 := ⟨hn1, hn2⟩
    refine lv_istore (lv' := [(4, .int q5.1), (3, .int q4.1), (0, .ref v0), (1, .int v1), (2, .int v2)]) hx hb dX5_readInner_33 hl (by decide) rfl (fun ls hl => ?_)
    refine lv_iload hx hb dX5_readInner_35 (lv_at hl 0 rfl) ?_
    refine lv_iconst (v := (-1)) hx hb dX5_readInner_37 (by decide) ?_
    rcases s_ite hf with ⟨c11, hf⟩ | ⟨c11, hf⟩
    · refine lv_icmp_ne (tgt := 50) hx hb dX5_readInner_38 (by decide) (fun n => absurd c11 n) (fun _ => ?_)
      obtain ⟨x10, h12, hf⟩ := s_bind hf
      obtain ⟨q11, h13, hf⟩ := s_bind hf
      cases hf
      have k : _ = r := k
      subst k
      have le14 : s_le q11.2 q11.2 := s_le.rf
      refine lv_aload_n hx hb dX5_readInner_41 rfl (lv_at hl 2 rfl) ?_
      refine lv_aload_n hx hb dX5_readInner_42 rfl (lv_at hl 2 rfl) ?_
      refine r_gi X I fl_X5_23 h12 dX5_readInner_43 ?_
      refine r_callV (Y := M_X5_fail) (v := some (.int q11.1)) X I w_725 my_X5_fail (by omega) (t_X5_fail (G := G) (d := d + 70) h13) (b_X5_fail h13) rfl rfl hl.1 rfl (Nat.le_of_ble_eq_true rfl) hn le14 dX5_readInner_46 (fun H locs cells slots I hn1 hn2 => ?_)
      have I : s_I G q11.2 s H locs := I
      have hn : cells + σ0.2.1 ≤ q11.2.2.1 ∧ slots + σ0.2.2.1 ≤ q11.2.2.2.1 := ⟨hn1, hn2⟩
      exact r_iret X I rfl rfl rfl hn dX5_readInner_49
    · refine lv_icmp_ne (tgt := 50) hx hb dX5_readInner_38 (by decide) (fun _ => ?_) (fun n => absurd n c11)
      refine lv_iload hx hb dX5_readInner_50 (lv_at hl 0 rfl) ?_
      refine lv_bipush (v := 41) hx hb dX5_readInner_52 (by decide) ?_
      rcases s_ite hf with ⟨c15, hf⟩ | ⟨c15, hf⟩
      · refine lv_icmp_eq (tgt := 66) hx hb dX5_readInner_54 (by decide) (fun _ => ?_) (fun n => absurd c15 n)
        obtain ⟨x6, h16, hf⟩ := s_bind hf
        obtain ⟨σ7, h17, hf⟩ := s_bind hf
        cases hf
        have k : _ = r := k
        subst k
        have le18 : s_le σ7 σ7 := s_le.rf
        refine lv_aload_n hx hb dX5_readInner_66 rfl (lv_at hl 2 rfl) ?_
        refine lv_dup hx hb dX5_readInner_67 rfl ?_
        refine r_gi X I fl_X5_29 h16 dX5_readInner_68 ?_
        refine lv_iconst (v := 1) hx hb dX5_readInner_71 (by decide) ?_
        refine lv_iadd hx hb dX5_readInner_72 ?_
        refine r_put X I fp_X5_29 (fun h => by cases h) h17 rfl rfl dX5_readInner_73 (fun H locs I => ?_)
        have hn := s_k2 (s_pf_2 h17) hn
        refine lv_iload_n hx hb dX5_readInner_76 rfl (lv_at hl 1 rfl) ?_
        exact r_iret X I rfl rfl rfl hn dX5_readInner_77
      · refine lv_icmp_eq (tgt := 66) hx hb dX5_readInner_54 (by decide) (fun n => absurd n c15) (fun _ => ?_)
        obtain ⟨x8, h19, hf⟩ := s_bind hf
        obtain ⟨q9, h20, hf⟩ := s_bind hf
        cases hf
        have k : _ = r := k
        subst k
        have le21 : s_le q9.2 q9.2 := s_le.rf
        refine lv_aload_n hx hb dX5_readInner_57 rfl (lv_at hl 2 rfl) ?_
        refine lv_aload_n hx hb dX5_readInner_58 rfl (lv_at hl 2 rfl) ?_
        refine r_gi X I fl_X5_29 h19 dX5_readInner_59 ?_
        refine r_callV (Y := M_X5_fail) (v := some (.int q9.1)) X I w_725 my_X5_fail (by omega) (t_X5_fail (G := G) (d := d + 70) h20) (b_X5_fail h20) rfl rfl hl.1 rfl (Nat.le_of_ble_eq_true rfl) hn le21 dX5_readInner_62 (fun H locs cells slots I hn1 hn2 => ?_)
        have I : s_I G q9.2 s H locs := I
        have hn : cells + σ0.2.1 ≤ q9.2.2.1 ∧ slots + σ0.2.2.1 ≤ q9.2.2.2.1 := ⟨hn1, hn2⟩
        exact r_iret X I rfl rfl rfl hn dX5_readInner_65
theorem v_X5_readInner (f_X5_readAnd : Nat → Int32 → Int32 → sS → Option (Int32 × sS)) (f_X5_readBinder : Nat → Int32 → Int32 → Int32 → Int32 → sS → Option (Int32 × sS)) (f_X5_readIf : Nat → Int32 → Int32 → sS → Option (Int32 × sS)) (f_X5_readInner : Nat → Int32 → Int32 → sS → Option (Int32 × sS)) (f_X5_readNot : Nat → Int32 → Int32 → sS → Option (Int32 × sS)) (f_X5_readOr : Nat → Int32 → Int32 → sS → Option (Int32 × sS)) (f_X5_readUnit : Nat → Int32 → Int32 → sS → Option (Int32 × sS)) (f_X5_readWord : Nat → Int32 → Int32 → sS → Option (Int32 × sS)) {G : sG} {d : Nat} (lG_X5_readAnd : ∀ {y0 : Nat} {y1 : Int32} {y2 : Int32} {σ : sS} {q : Int32 × sS}, f_X5_readAnd y0 y1 y2 σ = some q → s_le σ q.2) (lG_X5_readBinder : ∀ {y0 : Nat} {y1 : Int32} {y2 : Int32} {y3 : Int32} {y4 : Int32} {σ : sS} {q : Int32 × sS}, f_X5_readBinder y0 y1 y2 y3 y4 σ = some q → s_le σ q.2) (lG_X5_readIf : ∀ {y0 : Nat} {y1 : Int32} {y2 : Int32} {σ : sS} {q : Int32 × sS}, f_X5_readIf y0 y1 y2 σ = some q → s_le σ q.2) (lG_X5_readInner : ∀ {y0 : Nat} {y1 : Int32} {y2 : Int32} {σ : sS} {q : Int32 × sS}, f_X5_readInner y0 y1 y2 σ = some q → s_le σ q.2) (lG_X5_readNot : ∀ {y0 : Nat} {y1 : Int32} {y2 : Int32} {σ : sS} {q : Int32 × sS}, f_X5_readNot y0 y1 y2 σ = some q → s_le σ q.2) (lG_X5_readOr : ∀ {y0 : Nat} {y1 : Int32} {y2 : Int32} {σ : sS} {q : Int32 × sS}, f_X5_readOr y0 y1 y2 σ = some q → s_le σ q.2) (lG_X5_readUnit : ∀ {y0 : Nat} {y1 : Int32} {y2 : Int32} {σ : sS} {q : Int32 × sS}, f_X5_readUnit y0 y1 y2 σ = some q → s_le σ q.2) (lG_X5_readWord : ∀ {y0 : Nat} {y1 : Int32} {y2 : Int32} {σ : sS} {q : Int32 × sS}, f_X5_readWord y0 y1 y2 σ = some q → s_le σ q.2) (hG_X5_readAnd : ∀ {y0 : Nat} {y1 : Int32} {y2 : Int32} {σ : sS} {q : Int32 × sS}, f_X5_readAnd y0 y1 y2 σ = some q → s_T G (d + 71) M_X5_readAnd [.ref y0, .int y1, .int y2] σ (e_I q) ∧ ∃ fs, σ.1 y0 = some (.inr (5, fs))) (hG_X5_readBinder : ∀ {y0 : Nat} {y1 : Int32} {y2 : Int32} {y3 : Int32} {y4 : Int32} {σ : sS} {q : Int32 × sS}, f_X5_readBinder y0 y1 y2 y3 y4 σ = some q → s_T G (d + 71) M_X5_readBinder [.ref y0, .int y1, .int y2, .int y3, .int y4] σ (e_I q) ∧ ∃ fs, σ.1 y0 = some (.inr (5, fs))) (hG_X5_readIf : ∀ {y0 : Nat} {y1 : Int32} {y2 : Int32} {σ : sS} {q : Int32 × sS}, f_X5_readIf y0 y1 y2 σ = some q → s_T G (d + 71) M_X5_readIf [.ref y0, .int y1, .int y2] σ (e_I q) ∧ ∃ fs, σ.1 y0 = some (.inr (5, fs))) (hG_X5_readInner : ∀ {y0 : Nat} {y1 : Int32} {y2 : Int32} {σ : sS} {q : Int32 × sS}, f_X5_readInner y0 y1 y2 σ = some q → s_T G (d + 71) M_X5_readInner [.ref y0, .int y1, .int y2] σ (e_I q) ∧ ∃ fs, σ.1 y0 = some (.inr (5, fs))) (hG_X5_readNot : ∀ {y0 : Nat} {y1 : Int32} {y2 : Int32} {σ : sS} {q : Int32 × sS}, f_X5_readNot y0 y1 y2 σ = some q → s_T G (d + 71) M_X5_readNot [.ref y0, .int y1, .int y2] σ (e_I q) ∧ ∃ fs, σ.1 y0 = some (.inr (5, fs))) (hG_X5_readOr : ∀ {y0 : Nat} {y1 : Int32} {y2 : Int32} {σ : sS} {q : Int32 × sS}, f_X5_readOr y0 y1 y2 σ = some q → s_T G (d + 71) M_X5_readOr [.ref y0, .int y1, .int y2] σ (e_I q) ∧ ∃ fs, σ.1 y0 = some (.inr (5, fs))) (hG_X5_readUnit : ∀ {y0 : Nat} {y1 : Int32} {y2 : Int32} {σ : sS} {q : Int32 × sS}, f_X5_readUnit y0 y1 y2 σ = some q → s_T G (d + 71) M_X5_readUnit [.ref y0, .int y1, .int y2] σ (e_I q) ∧ ∃ fs, σ.1 y0 = some (.inr (5, fs))) (hG_X5_readWord : ∀ {y0 : Nat} {y1 : Int32} {y2 : Int32} {σ : sS} {q : Int32 × sS}, f_X5_readWord y0 y1 y2 σ = some q → s_T G (d + 71) M_X5_readWord [.ref y0, .int y1, .int y2] σ (e_I q) ∧ ∃ fs, σ.1 y0 = some (.inr (5, fs))) {vs0 : List Value} {σ0 : sS} {x : sL} {z : sZ Int32} {r : Int32 × sS} (hs : S_X5_readInner f_X5_readAnd f_X5_readBinder f_X5_readIf f_X5_readInner f_X5_readNot f_X5_readOr f_X5_readUnit f_X5_readWord x = some z) (k : s_K G (d + 72) M_X5_readInner vs0 σ0 Y_X5_readInner e_I z r) : s_V G (d + 72) M_X5_readInner vs0 σ0 Y_X5_readInner x (e_I r) := by
  obtain ⟨pc, vs, σ⟩ := x
  unfold S_X5_readInner at hs
  dsimp only at hs
  rcases s_ite hs with ⟨c, hs⟩ | ⟨-, hs⟩
  · subst c
    unfold U_X5_readInner_0 at hs
    obtain ⟨a0, g0, hs⟩ := s_bind hs
    obtain ⟨a1, g1, hs⟩ := s_bind hs
    obtain ⟨a2, g2, hs⟩ := s_bind hs
    obtain ⟨u9, ge, hs⟩ := s_bind hs
    rw [g_r_to g0, g_i_to g1, g_i_to g2, g_e_to ge]
    exact v_X5_readInner_0 f_X5_readAnd f_X5_readBinder f_X5_readIf f_X5_readInner f_X5_readNot f_X5_readOr f_X5_readUnit f_X5_readWord lG_X5_readAnd lG_X5_readBinder lG_X5_readIf lG_X5_readInner lG_X5_readNot lG_X5_readOr lG_X5_readUnit lG_X5_readWord hG_X5_readAnd hG_X5_readBinder hG_X5_readIf hG_X5_readInner hG_X5_readNot hG_X5_readOr hG_X5_readUnit hG_X5_readWord hs k
  cases hs
theorem l_X5_readNot_0 (f_X5_readAnd : Nat → Int32 → Int32 → sS → Option (Int32 × sS)) (f_X5_readBinder : Nat → Int32 → Int32 → Int32 → Int32 → sS → Option (Int32 × sS)) (f_X5_readIf : Nat → Int32 → Int32 → sS → Option (Int32 × sS)) (f_X5_readInner : Nat → Int32 → Int32 → sS → Option (Int32 × sS)) (f_X5_readNot : Nat → Int32 → Int32 → sS → Option (Int32 × sS)) (f_X5_readOr : Nat → Int32 → Int32 → sS → Option (Int32 × sS)) (f_X5_readUnit : Nat → Int32 → Int32 → sS → Option (Int32 × sS)) (f_X5_readWord : Nat → Int32 → Int32 → sS → Option (Int32 × sS)) (lG_X5_readAnd : ∀ {y0 : Nat} {y1 : Int32} {y2 : Int32} {σ : sS} {q : Int32 × sS}, f_X5_readAnd y0 y1 y2 σ = some q → s_le σ q.2) (lG_X5_readBinder : ∀ {y0 : Nat} {y1 : Int32} {y2 : Int32} {y3 : Int32} {y4 : Int32} {σ : sS} {q : Int32 × sS}, f_X5_readBinder y0 y1 y2 y3 y4 σ = some q → s_le σ q.2) (lG_X5_readIf : ∀ {y0 : Nat} {y1 : Int32} {y2 : Int32} {σ : sS} {q : Int32 × sS}, f_X5_readIf y0 y1 y2 σ = some q → s_le σ q.2) (lG_X5_readInner : ∀ {y0 : Nat} {y1 : Int32} {y2 : Int32} {σ : sS} {q : Int32 × sS}, f_X5_readInner y0 y1 y2 σ = some q → s_le σ q.2) (lG_X5_readNot : ∀ {y0 : Nat} {y1 : Int32} {y2 : Int32} {σ : sS} {q : Int32 × sS}, f_X5_readNot y0 y1 y2 σ = some q → s_le σ q.2) (lG_X5_readOr : ∀ {y0 : Nat} {y1 : Int32} {y2 : Int32} {σ : sS} {q : Int32 × sS}, f_X5_readOr y0 y1 y2 σ = some q → s_le σ q.2) (lG_X5_readUnit : ∀ {y0 : Nat} {y1 : Int32} {y2 : Int32} {σ : sS} {q : Int32 × sS}, f_X5_readUnit y0 y1 y2 σ = some q → s_le σ q.2) (lG_X5_readWord : ∀ {y0 : Nat} {y1 : Int32} {y2 : Int32} {σ : sS} {q : Int32 × sS}, f_X5_readWord y0 y1 y2 σ = some q → s_le σ q.2) {v0 : Nat} {v1 : Int32} {v2 : Int32} {σ : sS} {z : sZ Int32} (hf : T_X5_readNot_0 f_X5_readAnd f_X5_readBinder f_X5_readIf f_X5_readInner f_X5_readNot f_X5_readOr f_X5_readUnit f_X5_readWord v0 v1 v2 σ = some z) : s_lz σ z := by
  unfold T_X5_readNot_0 at hf
  obtain ⟨q1, hh, hf⟩ := s_bind hf
  refine s_lz.tr (l_X5_mayGoDeeper hh) ?_
  rcases s_ite hf with ⟨-, hf⟩ | ⟨-, hf⟩
  · cases hf
    exact s_le.rf
  · obtain ⟨x2, -, hf⟩ := s_bind hf
    obtain ⟨q3, hh, hf⟩ := s_bind hf
    refine s_lz.tr (l_X5_mayTakeSign hh) ?_
    rcases s_ite hf with ⟨-, hf⟩ | ⟨-, hf⟩
    · cases hf
      exact s_le.rf
    · obtain ⟨x4, -, hf⟩ := s_bind hf
      obtain ⟨σ5, hh, hf⟩ := s_bind hf
      refine s_lz.tr (s_le2 (s_pf_2 hh)) ?_
      obtain ⟨q6, hh, hf⟩ := s_bind hf
      refine s_lz.tr (lG_X5_readUnit hh) ?_
      obtain ⟨q7, hh, hf⟩ := s_bind hf
      refine s_lz.tr (l_X5_join hh) ?_
      cases hf
      exact s_le.rf
theorem l_X5_readNot_s (f_X5_readAnd : Nat → Int32 → Int32 → sS → Option (Int32 × sS)) (f_X5_readBinder : Nat → Int32 → Int32 → Int32 → Int32 → sS → Option (Int32 × sS)) (f_X5_readIf : Nat → Int32 → Int32 → sS → Option (Int32 × sS)) (f_X5_readInner : Nat → Int32 → Int32 → sS → Option (Int32 × sS)) (f_X5_readNot : Nat → Int32 → Int32 → sS → Option (Int32 × sS)) (f_X5_readOr : Nat → Int32 → Int32 → sS → Option (Int32 × sS)) (f_X5_readUnit : Nat → Int32 → Int32 → sS → Option (Int32 × sS)) (f_X5_readWord : Nat → Int32 → Int32 → sS → Option (Int32 × sS)) (lG_X5_readAnd : ∀ {y0 : Nat} {y1 : Int32} {y2 : Int32} {σ : sS} {q : Int32 × sS}, f_X5_readAnd y0 y1 y2 σ = some q → s_le σ q.2) (lG_X5_readBinder : ∀ {y0 : Nat} {y1 : Int32} {y2 : Int32} {y3 : Int32} {y4 : Int32} {σ : sS} {q : Int32 × sS}, f_X5_readBinder y0 y1 y2 y3 y4 σ = some q → s_le σ q.2) (lG_X5_readIf : ∀ {y0 : Nat} {y1 : Int32} {y2 : Int32} {σ : sS} {q : Int32 × sS}, f_X5_readIf y0 y1 y2 σ = some q → s_le σ q.2) (lG_X5_readInner : ∀ {y0 : Nat} {y1 : Int32} {y2 : Int32} {σ : sS} {q : Int32 × sS}, f_X5_readInner y0 y1 y2 σ = some q → s_le σ q.2) (lG_X5_readNot : ∀ {y0 : Nat} {y1 : Int32} {y2 : Int32} {σ : sS} {q : Int32 × sS}, f_X5_readNot y0 y1 y2 σ = some q → s_le σ q.2) (lG_X5_readOr : ∀ {y0 : Nat} {y1 : Int32} {y2 : Int32} {σ : sS} {q : Int32 × sS}, f_X5_readOr y0 y1 y2 σ = some q → s_le σ q.2) (lG_X5_readUnit : ∀ {y0 : Nat} {y1 : Int32} {y2 : Int32} {σ : sS} {q : Int32 × sS}, f_X5_readUnit y0 y1 y2 σ = some q → s_le σ q.2) (lG_X5_readWord : ∀ {y0 : Nat} {y1 : Int32} {y2 : Int32} {σ : sS} {q : Int32 × sS}, f_X5_readWord y0 y1 y2 σ = some q → s_le σ q.2) {x : sL} {z : sZ Int32} (hs : S_X5_readNot f_X5_readAnd f_X5_readBinder f_X5_readIf f_X5_readInner f_X5_readNot f_X5_readOr f_X5_readUnit f_X5_readWord x = some z) : s_lz x.2.2 z := by
  obtain ⟨pc, vs, σ⟩ := x
  unfold S_X5_readNot at hs
  dsimp only at hs ⊢
  rcases s_ite hs with ⟨c, hs⟩ | ⟨-, hs⟩
  · subst c
    unfold U_X5_readNot_0 at hs
    obtain ⟨a0, g0, hs⟩ := s_bind hs
    obtain ⟨a1, g1, hs⟩ := s_bind hs
    obtain ⟨a2, g2, hs⟩ := s_bind hs
    obtain ⟨u9, ge, hs⟩ := s_bind hs
    exact l_X5_readNot_0 f_X5_readAnd f_X5_readBinder f_X5_readIf f_X5_readInner f_X5_readNot f_X5_readOr f_X5_readUnit f_X5_readWord lG_X5_readAnd lG_X5_readBinder lG_X5_readIf lG_X5_readInner lG_X5_readNot lG_X5_readOr lG_X5_readUnit lG_X5_readWord hs
  cases hs
set_option maxRecDepth 100000 in
set_option maxHeartbeats 4000000 in
theorem v_X5_readNot_0 (f_X5_readAnd : Nat → Int32 → Int32 → sS → Option (Int32 × sS)) (f_X5_readBinder : Nat → Int32 → Int32 → Int32 → Int32 → sS → Option (Int32 × sS)) (f_X5_readIf : Nat → Int32 → Int32 → sS → Option (Int32 × sS)) (f_X5_readInner : Nat → Int32 → Int32 → sS → Option (Int32 × sS)) (f_X5_readNot : Nat → Int32 → Int32 → sS → Option (Int32 × sS)) (f_X5_readOr : Nat → Int32 → Int32 → sS → Option (Int32 × sS)) (f_X5_readUnit : Nat → Int32 → Int32 → sS → Option (Int32 × sS)) (f_X5_readWord : Nat → Int32 → Int32 → sS → Option (Int32 × sS)) {G : sG} {d : Nat} (lG_X5_readAnd : ∀ {y0 : Nat} {y1 : Int32} {y2 : Int32} {σ : sS} {q : Int32 × sS}, f_X5_readAnd y0 y1 y2 σ = some q → s_le σ q.2) (lG_X5_readBinder : ∀ {y0 : Nat} {y1 : Int32} {y2 : Int32} {y3 : Int32} {y4 : Int32} {σ : sS} {q : Int32 × sS}, f_X5_readBinder y0 y1 y2 y3 y4 σ = some q → s_le σ q.2) (lG_X5_readIf : ∀ {y0 : Nat} {y1 : Int32} {y2 : Int32} {σ : sS} {q : Int32 × sS}, f_X5_readIf y0 y1 y2 σ = some q → s_le σ q.2) (lG_X5_readInner : ∀ {y0 : Nat} {y1 : Int32} {y2 : Int32} {σ : sS} {q : Int32 × sS}, f_X5_readInner y0 y1 y2 σ = some q → s_le σ q.2) (lG_X5_readNot : ∀ {y0 : Nat} {y1 : Int32} {y2 : Int32} {σ : sS} {q : Int32 × sS}, f_X5_readNot y0 y1 y2 σ = some q → s_le σ q.2) (lG_X5_readOr : ∀ {y0 : Nat} {y1 : Int32} {y2 : Int32} {σ : sS} {q : Int32 × sS}, f_X5_readOr y0 y1 y2 σ = some q → s_le σ q.2) (lG_X5_readUnit : ∀ {y0 : Nat} {y1 : Int32} {y2 : Int32} {σ : sS} {q : Int32 × sS}, f_X5_readUnit y0 y1 y2 σ = some q → s_le σ q.2) (lG_X5_readWord : ∀ {y0 : Nat} {y1 : Int32} {y2 : Int32} {σ : sS} {q : Int32 × sS}, f_X5_readWord y0 y1 y2 σ = some q → s_le σ q.2) (hG_X5_readAnd : ∀ {y0 : Nat} {y1 : Int32} {y2 : Int32} {σ : sS} {q : Int32 × sS}, f_X5_readAnd y0 y1 y2 σ = some q → s_T G (d + 71) M_X5_readAnd [.ref y0, .int y1, .int y2] σ (e_I q) ∧ ∃ fs, σ.1 y0 = some (.inr (5, fs))) (hG_X5_readBinder : ∀ {y0 : Nat} {y1 : Int32} {y2 : Int32} {y3 : Int32} {y4 : Int32} {σ : sS} {q : Int32 × sS}, f_X5_readBinder y0 y1 y2 y3 y4 σ = some q → s_T G (d + 71) M_X5_readBinder [.ref y0, .int y1, .int y2, .int y3, .int y4] σ (e_I q) ∧ ∃ fs, σ.1 y0 = some (.inr (5, fs))) (hG_X5_readIf : ∀ {y0 : Nat} {y1 : Int32} {y2 : Int32} {σ : sS} {q : Int32 × sS}, f_X5_readIf y0 y1 y2 σ = some q → s_T G (d + 71) M_X5_readIf [.ref y0, .int y1, .int y2] σ (e_I q) ∧ ∃ fs, σ.1 y0 = some (.inr (5, fs))) (hG_X5_readInner : ∀ {y0 : Nat} {y1 : Int32} {y2 : Int32} {σ : sS} {q : Int32 × sS}, f_X5_readInner y0 y1 y2 σ = some q → s_T G (d + 71) M_X5_readInner [.ref y0, .int y1, .int y2] σ (e_I q) ∧ ∃ fs, σ.1 y0 = some (.inr (5, fs))) (hG_X5_readNot : ∀ {y0 : Nat} {y1 : Int32} {y2 : Int32} {σ : sS} {q : Int32 × sS}, f_X5_readNot y0 y1 y2 σ = some q → s_T G (d + 71) M_X5_readNot [.ref y0, .int y1, .int y2] σ (e_I q) ∧ ∃ fs, σ.1 y0 = some (.inr (5, fs))) (hG_X5_readOr : ∀ {y0 : Nat} {y1 : Int32} {y2 : Int32} {σ : sS} {q : Int32 × sS}, f_X5_readOr y0 y1 y2 σ = some q → s_T G (d + 71) M_X5_readOr [.ref y0, .int y1, .int y2] σ (e_I q) ∧ ∃ fs, σ.1 y0 = some (.inr (5, fs))) (hG_X5_readUnit : ∀ {y0 : Nat} {y1 : Int32} {y2 : Int32} {σ : sS} {q : Int32 × sS}, f_X5_readUnit y0 y1 y2 σ = some q → s_T G (d + 71) M_X5_readUnit [.ref y0, .int y1, .int y2] σ (e_I q) ∧ ∃ fs, σ.1 y0 = some (.inr (5, fs))) (hG_X5_readWord : ∀ {y0 : Nat} {y1 : Int32} {y2 : Int32} {σ : sS} {q : Int32 × sS}, f_X5_readWord y0 y1 y2 σ = some q → s_T G (d + 71) M_X5_readWord [.ref y0, .int y1, .int y2] σ (e_I q) ∧ ∃ fs, σ.1 y0 = some (.inr (5, fs))) {vs0 : List Value} {σ0 : sS} {v0 : Nat} {v1 : Int32} {v2 : Int32} {σ : sS} {z : sZ Int32} {r : Int32 × sS} (hf : T_X5_readNot_0 f_X5_readAnd f_X5_readBinder f_X5_readIf f_X5_readInner f_X5_readNot f_X5_readOr f_X5_readUnit f_X5_readWord v0 v1 v2 σ = some z) (k : s_K G (d + 72) M_X5_readNot vs0 σ0 Y_X5_readNot e_I z r) : s_V G (d + 72) M_X5_readNot vs0 σ0 Y_X5_readNot (0, [.ref v0, .int v1, .int v2], σ) (e_I r) := by
  have le0 : s_le σ (e_I r).2 := s_lek hem_I (l_X5_readNot_0 f_X5_readAnd f_X5_readBinder f_X5_readIf f_X5_readInner f_X5_readNot f_X5_readOr f_X5_readUnit f_X5_readWord lG_X5_readAnd lG_X5_readBinder lG_X5_readIf lG_X5_readInner lG_X5_readNot lG_X5_readOr lG_X5_readUnit lG_X5_readWord hf) k
  refine ⟨le0, ?_⟩
  intro p e s m below meth c H locs cells slots ls X I hn1 hn2 hl
  have hn : cells + σ0.2.1 ≤ σ.2.1 ∧ slots + σ0.2.2.1 ≤ σ.2.2.1 := ⟨hn1, hn2⟩
  have hl : lv_has ls 3 [(0, .ref v0), (1, .int v1), (2, .int v2)] := hl
  have hx := X.1
  have hb : c.code = cX5_readNot := X.2.1
  have hown : s.vm.findClass RX5 = some m.cls := X.2.2.2.2.2.1
  have hts := X.2.2.2.2.2.2.1
  refine W.eq (g2 := F0 m 0 ls []) rfl ?_
  unfold T_X5_readNot_0 at hf
  obtain ⟨q1, h1, hf⟩ := s_bind hf
  have le2 : s_le q1.2 (e_I r).2 := by
    refine s_lek hem_I ?_ k
    rcases s_ite hf with ⟨-, hf⟩ | ⟨-, hf⟩
    · cases hf
      exact s_le.rf
    · obtain ⟨x2, -, hf⟩ := s_bind hf
      obtain ⟨q3, hh, hf⟩ := s_bind hf
      refine s_lz.tr (l_X5_mayTakeSign hh) ?_
      rcases s_ite hf with ⟨-, hf⟩ | ⟨-, hf⟩
      · cases hf
        exact s_le.rf
      · obtain ⟨x4, -, hf⟩ := s_bind hf
        obtain ⟨σ5, hh, hf⟩ := s_bind hf
        refine s_lz.tr (s_le2 (s_pf_2 hh)) ?_
        obtain ⟨q6, hh, hf⟩ := s_bind hf
        refine s_lz.tr (lG_X5_readUnit hh) ?_
        obtain ⟨q7, hh, hf⟩ := s_bind hf
        refine s_lz.tr (l_X5_join hh) ?_
        cases hf
        exact s_le.rf
  refine lv_aload_n hx hb dX5_readNot_0 rfl (lv_at hl 0 rfl) ?_
  refine lv_iload_n hx hb dX5_readNot_1 rfl (lv_at hl 1 rfl) ?_
  refine r_callV (Y := M_X5_mayGoDeeper) (v := some (.int q1.1)) X I w_733 my_X5_mayGoDeeper (by omega) (t_X5_mayGoDeeper (G := G) (d := d + 69) h1) (b_X5_mayGoDeeper h1) rfl rfl hl.1 rfl (Nat.le_of_ble_eq_true rfl) hn le2 dX5_readNot_2 (fun H locs cells slots I hn1 hn2 => ?_)
  have I : s_I G q1.2 s H locs := I
  have hn : cells + σ0.2.1 ≤ q1.2.2.1 ∧ slots + σ0.2.2.1 ≤ q1.2.2.2.1 := ⟨hn1, hn2⟩
  rcases s_ite hf with ⟨c3, hf⟩ | ⟨c3, hf⟩
  · refine lv_if_eq (tgt := 19) hx hb dX5_readNot_5 (by decide) (fun _ => ?_) (fun n => absurd c3 n)
    cases hf
    have k : _ = r := k
    subst k
    refine lv_iconst (v := (-1)) hx hb dX5_readNot_19 (by decide) ?_
    exact r_iret X I rfl rfl rfl hn dX5_readNot_20
  · refine lv_if_eq (tgt := 19) hx hb dX5_readNot_5 (by decide) (fun n => absurd n c3) (fun _ => ?_)
    obtain ⟨x2, h4, hf⟩ := s_bind hf
    obtain ⟨q3, h5, hf⟩ := s_bind hf
    have le6 : s_le q3.2 (e_I r).2 := by
      refine s_lek hem_I ?_ k
      rcases s_ite hf with ⟨-, hf⟩ | ⟨-, hf⟩
      · cases hf
        exact s_le.rf
      · obtain ⟨x4, -, hf⟩ := s_bind hf
        obtain ⟨σ5, hh, hf⟩ := s_bind hf
        refine s_lz.tr (s_le2 (s_pf_2 hh)) ?_
        obtain ⟨q6, hh, hf⟩ := s_bind hf
        refine s_lz.tr (lG_X5_readUnit hh) ?_
        obtain ⟨q7, hh, hf⟩ := s_bind hf
        refine s_lz.tr (l_X5_join hh) ?_
        cases hf
        exact s_le.rf
    refine lv_aload_n hx hb dX5_readNot_8 rfl (lv_at hl 0 rfl) ?_
    refine lv_aload_n hx hb dX5_readNot_9 rfl (lv_at hl 0 rfl) ?_
    refine r_gi X I fl_X5_29 h4 dX5_readNot_10 ?_
    refine r_callV (Y := M_X5_mayTakeSign) (v := some (.int q3.1)) X I w_737 my_X5_mayTakeSign (by omega) (t_X5_mayTakeSign (G := G) (d := d + 69) h5) (b_X5_mayTakeSign h5) rfl rfl hl.1 rfl (Nat.le_of_ble_eq_true rfl) hn le6 dX5_readNot_13 (fun H locs cells slots I hn1 hn2 => ?_)
    have I : s_I G q3.2 s H locs := I
    have hn : cells + σ0.2.1 ≤ q3.2.2.1 ∧ slots + σ0.2.2.1 ≤ q3.2.2.2.1 := ⟨hn1, hn2⟩
    rcases s_ite hf with ⟨c7, hf⟩ | ⟨c7, hf⟩
    · refine lv_if_ne (tgt := 21) hx hb dX5_readNot_16 (by decide) (fun n => absurd c7 n) (fun _ => ?_)
      cases hf
      have k : _ = r := k
      subst k
      refine lv_iconst (v := (-1)) hx hb dX5_readNot_19 (by decide) ?_
      exact r_iret X I rfl rfl rfl hn dX5_readNot_20
    · refine lv_if_ne (tgt := 21) hx hb dX5_readNot_16 (by decide) (fun _ => ?_) (fun n => absurd n c7)
      obtain ⟨x4, h8, hf⟩ := s_bind hf
      obtain ⟨σ5, h9, hf⟩ := s_bind hf
      obtain ⟨q6, h10, hf⟩ := s_bind hf
      obtain ⟨q7, h11, hf⟩ := s_bind hf
      cases hf
      have k : _ = r := k
      subst k
      have le12 : s_le q7.2 q7.2 := s_le.rf
      have le13 := s_le.tr (l_X5_join h11) le12
      have le14 := s_le.tr (lG_X5_readUnit h10) le13
      refine lv_aload_n hx hb dX5_readNot_21 rfl (lv_at hl 0 rfl) ?_
      refine lv_dup hx hb dX5_readNot_22 rfl ?_
      refine r_gi X I fl_X5_29 h8 dX5_readNot_23 ?_
      refine lv_iconst (v := 1) hx hb dX5_readNot_26 (by decide) ?_
      refine lv_iadd hx hb dX5_readNot_27 ?_
      refine r_put X I fp_X5_29 (fun h => by cases h) h9 rfl rfl dX5_readNot_28 (fun H locs I => ?_)
      have hn := s_k2 (s_pf_2 h9) hn
      refine lv_aload_n hx hb dX5_readNot_31 rfl (lv_at hl 0 rfl) ?_
      refine lv_iconst (v := 1) hx hb dX5_readNot_32 (by decide) ?_
      refine lv_aload_n hx hb dX5_readNot_33 rfl (lv_at hl 0 rfl) ?_
      refine lv_iload_n hx hb dX5_readNot_34 rfl (lv_at hl 1 rfl) ?_
      refine lv_iconst (v := 1) hx hb dX5_readNot_35 (by decide) ?_
      refine lv_iadd hx hb dX5_readNot_36 ?_
      refine lv_iload_n hx hb dX5_readNot_37 rfl (lv_at hl 2 rfl) ?_
      refine r_callV (Y := M_X5_readUnit) (v := some (.int q6.1)) X I w_713 my_X5_readUnit (by omega) (hG_X5_readUnit h10).1 (hG_X5_readUnit h10).2 rfl rfl hl.1 rfl (Nat.le_of_ble_eq_true rfl) hn le13 dX5_readNot_38 (fun H locs cells slots I hn1 hn2 => ?_)
      have I : s_I G q6.2 s H locs := I
      have hn : cells + σ0.2.1 ≤ q6.2.2.1 ∧ slots + σ0.2.2.1 ≤ q6.2.2.2.1 := ⟨hn1, hn2⟩
      refine lv_iconst (v := (-1)) hx hb dX5_readNot_41 (by decide) ?_
      refine r_callV (Y := M_X5_join) (v := some (.int q7.1)) X I w_741 my_X5_join (by omega) (t_X5_join (G := G) (d := d + 67) h11) (b_X5_join h11) rfl rfl hl.1 rfl (Nat.le_of_ble_eq_true rfl) hn le12 dX5_readNot_42 (fun H locs cells slots I hn1 hn2 => ?_)
      have I : s_I G q7.2 s H locs := I
      have hn : cells + σ0.2.1 ≤ q7.2.2.1 ∧ slots + σ0.2.2.1 ≤ q7.2.2.2.1 := ⟨hn1, hn2⟩
      exact r_iret X I rfl rfl rfl hn dX5_readNot_45
theorem v_X5_readNot (f_X5_readAnd : Nat → Int32 → Int32 → sS → Option (Int32 × sS)) (f_X5_readBinder : Nat → Int32 → Int32 → Int32 → Int32 → sS → Option (Int32 × sS)) (f_X5_readIf : Nat → Int32 → Int32 → sS → Option (Int32 × sS)) (f_X5_readInner : Nat → Int32 → Int32 → sS → Option (Int32 × sS)) (f_X5_readNot : Nat → Int32 → Int32 → sS → Option (Int32 × sS)) (f_X5_readOr : Nat → Int32 → Int32 → sS → Option (Int32 × sS)) (f_X5_readUnit : Nat → Int32 → Int32 → sS → Option (Int32 × sS)) (f_X5_readWord : Nat → Int32 → Int32 → sS → Option (Int32 × sS)) {G : sG} {d : Nat} (lG_X5_readAnd : ∀ {y0 : Nat} {y1 : Int32} {y2 : Int32} {σ : sS} {q : Int32 × sS}, f_X5_readAnd y0 y1 y2 σ = some q → s_le σ q.2) (lG_X5_readBinder : ∀ {y0 : Nat} {y1 : Int32} {y2 : Int32} {y3 : Int32} {y4 : Int32} {σ : sS} {q : Int32 × sS}, f_X5_readBinder y0 y1 y2 y3 y4 σ = some q → s_le σ q.2) (lG_X5_readIf : ∀ {y0 : Nat} {y1 : Int32} {y2 : Int32} {σ : sS} {q : Int32 × sS}, f_X5_readIf y0 y1 y2 σ = some q → s_le σ q.2) (lG_X5_readInner : ∀ {y0 : Nat} {y1 : Int32} {y2 : Int32} {σ : sS} {q : Int32 × sS}, f_X5_readInner y0 y1 y2 σ = some q → s_le σ q.2) (lG_X5_readNot : ∀ {y0 : Nat} {y1 : Int32} {y2 : Int32} {σ : sS} {q : Int32 × sS}, f_X5_readNot y0 y1 y2 σ = some q → s_le σ q.2) (lG_X5_readOr : ∀ {y0 : Nat} {y1 : Int32} {y2 : Int32} {σ : sS} {q : Int32 × sS}, f_X5_readOr y0 y1 y2 σ = some q → s_le σ q.2) (lG_X5_readUnit : ∀ {y0 : Nat} {y1 : Int32} {y2 : Int32} {σ : sS} {q : Int32 × sS}, f_X5_readUnit y0 y1 y2 σ = some q → s_le σ q.2) (lG_X5_readWord : ∀ {y0 : Nat} {y1 : Int32} {y2 : Int32} {σ : sS} {q : Int32 × sS}, f_X5_readWord y0 y1 y2 σ = some q → s_le σ q.2) (hG_X5_readAnd : ∀ {y0 : Nat} {y1 : Int32} {y2 : Int32} {σ : sS} {q : Int32 × sS}, f_X5_readAnd y0 y1 y2 σ = some q → s_T G (d + 71) M_X5_readAnd [.ref y0, .int y1, .int y2] σ (e_I q) ∧ ∃ fs, σ.1 y0 = some (.inr (5, fs))) (hG_X5_readBinder : ∀ {y0 : Nat} {y1 : Int32} {y2 : Int32} {y3 : Int32} {y4 : Int32} {σ : sS} {q : Int32 × sS}, f_X5_readBinder y0 y1 y2 y3 y4 σ = some q → s_T G (d + 71) M_X5_readBinder [.ref y0, .int y1, .int y2, .int y3, .int y4] σ (e_I q) ∧ ∃ fs, σ.1 y0 = some (.inr (5, fs))) (hG_X5_readIf : ∀ {y0 : Nat} {y1 : Int32} {y2 : Int32} {σ : sS} {q : Int32 × sS}, f_X5_readIf y0 y1 y2 σ = some q → s_T G (d + 71) M_X5_readIf [.ref y0, .int y1, .int y2] σ (e_I q) ∧ ∃ fs, σ.1 y0 = some (.inr (5, fs))) (hG_X5_readInner : ∀ {y0 : Nat} {y1 : Int32} {y2 : Int32} {σ : sS} {q : Int32 × sS}, f_X5_readInner y0 y1 y2 σ = some q → s_T G (d + 71) M_X5_readInner [.ref y0, .int y1, .int y2] σ (e_I q) ∧ ∃ fs, σ.1 y0 = some (.inr (5, fs))) (hG_X5_readNot : ∀ {y0 : Nat} {y1 : Int32} {y2 : Int32} {σ : sS} {q : Int32 × sS}, f_X5_readNot y0 y1 y2 σ = some q → s_T G (d + 71) M_X5_readNot [.ref y0, .int y1, .int y2] σ (e_I q) ∧ ∃ fs, σ.1 y0 = some (.inr (5, fs))) (hG_X5_readOr : ∀ {y0 : Nat} {y1 : Int32} {y2 : Int32} {σ : sS} {q : Int32 × sS}, f_X5_readOr y0 y1 y2 σ = some q → s_T G (d + 71) M_X5_readOr [.ref y0, .int y1, .int y2] σ (e_I q) ∧ ∃ fs, σ.1 y0 = some (.inr (5, fs))) (hG_X5_readUnit : ∀ {y0 : Nat} {y1 : Int32} {y2 : Int32} {σ : sS} {q : Int32 × sS}, f_X5_readUnit y0 y1 y2 σ = some q → s_T G (d + 71) M_X5_readUnit [.ref y0, .int y1, .int y2] σ (e_I q) ∧ ∃ fs, σ.1 y0 = some (.inr (5, fs))) (hG_X5_readWord : ∀ {y0 : Nat} {y1 : Int32} {y2 : Int32} {σ : sS} {q : Int32 × sS}, f_X5_readWord y0 y1 y2 σ = some q → s_T G (d + 71) M_X5_readWord [.ref y0, .int y1, .int y2] σ (e_I q) ∧ ∃ fs, σ.1 y0 = some (.inr (5, fs))) {vs0 : List Value} {σ0 : sS} {x : sL} {z : sZ Int32} {r : Int32 × sS} (hs : S_X5_readNot f_X5_readAnd f_X5_readBinder f_X5_readIf f_X5_readInner f_X5_readNot f_X5_readOr f_X5_readUnit f_X5_readWord x = some z) (k : s_K G (d + 72) M_X5_readNot vs0 σ0 Y_X5_readNot e_I z r) : s_V G (d + 72) M_X5_readNot vs0 σ0 Y_X5_readNot x (e_I r) := by
  obtain ⟨pc, vs, σ⟩ := x
  unfold S_X5_readNot at hs
  dsimp only at hs
  rcases s_ite hs with ⟨c, hs⟩ | ⟨-, hs⟩
  · subst c
    unfold U_X5_readNot_0 at hs
    obtain ⟨a0, g0, hs⟩ := s_bind hs
    obtain ⟨a1, g1, hs⟩ := s_bind hs
    obtain ⟨a2, g2, hs⟩ := s_bind hs
    obtain ⟨u9, ge, hs⟩ := s_bind hs
    rw [g_r_to g0, g_i_to g1, g_i_to g2, g_e_to ge]
    exact v_X5_readNot_0 f_X5_readAnd f_X5_readBinder f_X5_readIf f_X5_readInner f_X5_readNot f_X5_readOr f_X5_readUnit f_X5_readWord lG_X5_readAnd lG_X5_readBinder lG_X5_readIf lG_X5_readInner lG_X5_readNot lG_X5_readOr lG_X5_readUnit lG_X5_readWord hG_X5_readAnd hG_X5_readBinder hG_X5_readIf hG_X5_readInner hG_X5_readNot hG_X5_readOr hG_X5_readUnit hG_X5_readWord hs k
  cases hs
theorem l_X5_readOr_0 (f_X5_readAnd : Nat → Int32 → Int32 → sS → Option (Int32 × sS)) (f_X5_readBinder : Nat → Int32 → Int32 → Int32 → Int32 → sS → Option (Int32 × sS)) (f_X5_readIf : Nat → Int32 → Int32 → sS → Option (Int32 × sS)) (f_X5_readInner : Nat → Int32 → Int32 → sS → Option (Int32 × sS)) (f_X5_readNot : Nat → Int32 → Int32 → sS → Option (Int32 × sS)) (f_X5_readOr : Nat → Int32 → Int32 → sS → Option (Int32 × sS)) (f_X5_readUnit : Nat → Int32 → Int32 → sS → Option (Int32 × sS)) (f_X5_readWord : Nat → Int32 → Int32 → sS → Option (Int32 × sS)) (lG_X5_readAnd : ∀ {y0 : Nat} {y1 : Int32} {y2 : Int32} {σ : sS} {q : Int32 × sS}, f_X5_readAnd y0 y1 y2 σ = some q → s_le σ q.2) (lG_X5_readBinder : ∀ {y0 : Nat} {y1 : Int32} {y2 : Int32} {y3 : Int32} {y4 : Int32} {σ : sS} {q : Int32 × sS}, f_X5_readBinder y0 y1 y2 y3 y4 σ = some q → s_le σ q.2) (lG_X5_readIf : ∀ {y0 : Nat} {y1 : Int32} {y2 : Int32} {σ : sS} {q : Int32 × sS}, f_X5_readIf y0 y1 y2 σ = some q → s_le σ q.2) (lG_X5_readInner : ∀ {y0 : Nat} {y1 : Int32} {y2 : Int32} {σ : sS} {q : Int32 × sS}, f_X5_readInner y0 y1 y2 σ = some q → s_le σ q.2) (lG_X5_readNot : ∀ {y0 : Nat} {y1 : Int32} {y2 : Int32} {σ : sS} {q : Int32 × sS}, f_X5_readNot y0 y1 y2 σ = some q → s_le σ q.2) (lG_X5_readOr : ∀ {y0 : Nat} {y1 : Int32} {y2 : Int32} {σ : sS} {q : Int32 × sS}, f_X5_readOr y0 y1 y2 σ = some q → s_le σ q.2) (lG_X5_readUnit : ∀ {y0 : Nat} {y1 : Int32} {y2 : Int32} {σ : sS} {q : Int32 × sS}, f_X5_readUnit y0 y1 y2 σ = some q → s_le σ q.2) (lG_X5_readWord : ∀ {y0 : Nat} {y1 : Int32} {y2 : Int32} {σ : sS} {q : Int32 × sS}, f_X5_readWord y0 y1 y2 σ = some q → s_le σ q.2) {v0 : Nat} {v1 : Int32} {v2 : Int32} {σ : sS} {z : sZ Int32} (hf : T_X5_readOr_0 f_X5_readAnd f_X5_readBinder f_X5_readIf f_X5_readInner f_X5_readNot f_X5_readOr f_X5_readUnit f_X5_readWord v0 v1 v2 σ = some z) : s_lz σ z := by
  unfold T_X5_readOr_0 at hf
  obtain ⟨q1, hh, hf⟩ := s_bind hf
  refine s_lz.tr (lG_X5_readAnd hh) ?_
  cases hf
  exact s_le.rf
theorem l_X5_readOr_10 (f_X5_readAnd : Nat → Int32 → Int32 → sS → Option (Int32 × sS)) (f_X5_readBinder : Nat → Int32 → Int32 → Int32 → Int32 → sS → Option (Int32 × sS)) (f_X5_readIf : Nat → Int32 → Int32 → sS → Option (Int32 × sS)) (f_X5_readInner : Nat → Int32 → Int32 → sS → Option (Int32 × sS)) (f_X5_readNot : Nat → Int32 → Int32 → sS → Option (Int32 × sS)) (f_X5_readOr : Nat → Int32 → Int32 → sS → Option (Int32 × sS)) (f_X5_readUnit : Nat → Int32 → Int32 → sS → Option (Int32 × sS)) (f_X5_readWord : Nat → Int32 → Int32 → sS → Option (Int32 × sS)) (lG_X5_readAnd : ∀ {y0 : Nat} {y1 : Int32} {y2 : Int32} {σ : sS} {q : Int32 × sS}, f_X5_readAnd y0 y1 y2 σ = some q → s_le σ q.2) (lG_X5_readBinder : ∀ {y0 : Nat} {y1 : Int32} {y2 : Int32} {y3 : Int32} {y4 : Int32} {σ : sS} {q : Int32 × sS}, f_X5_readBinder y0 y1 y2 y3 y4 σ = some q → s_le σ q.2) (lG_X5_readIf : ∀ {y0 : Nat} {y1 : Int32} {y2 : Int32} {σ : sS} {q : Int32 × sS}, f_X5_readIf y0 y1 y2 σ = some q → s_le σ q.2) (lG_X5_readInner : ∀ {y0 : Nat} {y1 : Int32} {y2 : Int32} {σ : sS} {q : Int32 × sS}, f_X5_readInner y0 y1 y2 σ = some q → s_le σ q.2) (lG_X5_readNot : ∀ {y0 : Nat} {y1 : Int32} {y2 : Int32} {σ : sS} {q : Int32 × sS}, f_X5_readNot y0 y1 y2 σ = some q → s_le σ q.2) (lG_X5_readOr : ∀ {y0 : Nat} {y1 : Int32} {y2 : Int32} {σ : sS} {q : Int32 × sS}, f_X5_readOr y0 y1 y2 σ = some q → s_le σ q.2) (lG_X5_readUnit : ∀ {y0 : Nat} {y1 : Int32} {y2 : Int32} {σ : sS} {q : Int32 × sS}, f_X5_readUnit y0 y1 y2 σ = some q → s_le σ q.2) (lG_X5_readWord : ∀ {y0 : Nat} {y1 : Int32} {y2 : Int32} {σ : sS} {q : Int32 × sS}, f_X5_readWord y0 y1 y2 σ = some q → s_le σ q.2) {v0 : Nat} {v1 : Int32} {v2 : Int32} {v3 : Int32} {v4 : Int32} {σ : sS} {z : sZ Int32} (hf : T_X5_readOr_10 f_X5_readAnd f_X5_readBinder f_X5_readIf f_X5_readInner f_X5_readNot f_X5_readOr f_X5_readUnit f_X5_readWord v0 v1 v2 v3 v4 σ = some z) : s_lz σ z := by
  unfold T_X5_readOr_10 at hf
  rcases s_ite hf with ⟨-, hf⟩ | ⟨-, hf⟩
  · cases hf
    exact s_le.rf
  · obtain ⟨q1, hh, hf⟩ := s_bind hf
    refine s_lz.tr (l_X5_peek hh) ?_
    rcases s_ite hf with ⟨-, hf⟩ | ⟨-, hf⟩
    · obtain ⟨x2, -, hf⟩ := s_bind hf
      obtain ⟨q3, hh, hf⟩ := s_bind hf
      refine s_lz.tr (l_X5_mayTakeSign hh) ?_
      rcases s_ite hf with ⟨-, hf⟩ | ⟨-, hf⟩
      · cases hf
        exact s_le.rf
      · obtain ⟨x4, -, hf⟩ := s_bind hf
        obtain ⟨σ5, hh, hf⟩ := s_bind hf
        refine s_lz.tr (s_le2 (s_pf_2 hh)) ?_
        obtain ⟨q6, hh, hf⟩ := s_bind hf
        refine s_lz.tr (lG_X5_readAnd hh) ?_
        obtain ⟨q7, hh, hf⟩ := s_bind hf
        refine s_lz.tr (l_X5_join hh) ?_
        cases hf
        exact s_le.rf
    · cases hf
      exact s_le.rf
theorem l_X5_readOr_s (f_X5_readAnd : Nat → Int32 → Int32 → sS → Option (Int32 × sS)) (f_X5_readBinder : Nat → Int32 → Int32 → Int32 → Int32 → sS → Option (Int32 × sS)) (f_X5_readIf : Nat → Int32 → Int32 → sS → Option (Int32 × sS)) (f_X5_readInner : Nat → Int32 → Int32 → sS → Option (Int32 × sS)) (f_X5_readNot : Nat → Int32 → Int32 → sS → Option (Int32 × sS)) (f_X5_readOr : Nat → Int32 → Int32 → sS → Option (Int32 × sS)) (f_X5_readUnit : Nat → Int32 → Int32 → sS → Option (Int32 × sS)) (f_X5_readWord : Nat → Int32 → Int32 → sS → Option (Int32 × sS)) (lG_X5_readAnd : ∀ {y0 : Nat} {y1 : Int32} {y2 : Int32} {σ : sS} {q : Int32 × sS}, f_X5_readAnd y0 y1 y2 σ = some q → s_le σ q.2) (lG_X5_readBinder : ∀ {y0 : Nat} {y1 : Int32} {y2 : Int32} {y3 : Int32} {y4 : Int32} {σ : sS} {q : Int32 × sS}, f_X5_readBinder y0 y1 y2 y3 y4 σ = some q → s_le σ q.2) (lG_X5_readIf : ∀ {y0 : Nat} {y1 : Int32} {y2 : Int32} {σ : sS} {q : Int32 × sS}, f_X5_readIf y0 y1 y2 σ = some q → s_le σ q.2) (lG_X5_readInner : ∀ {y0 : Nat} {y1 : Int32} {y2 : Int32} {σ : sS} {q : Int32 × sS}, f_X5_readInner y0 y1 y2 σ = some q → s_le σ q.2) (lG_X5_readNot : ∀ {y0 : Nat} {y1 : Int32} {y2 : Int32} {σ : sS} {q : Int32 × sS}, f_X5_readNot y0 y1 y2 σ = some q → s_le σ q.2) (lG_X5_readOr : ∀ {y0 : Nat} {y1 : Int32} {y2 : Int32} {σ : sS} {q : Int32 × sS}, f_X5_readOr y0 y1 y2 σ = some q → s_le σ q.2) (lG_X5_readUnit : ∀ {y0 : Nat} {y1 : Int32} {y2 : Int32} {σ : sS} {q : Int32 × sS}, f_X5_readUnit y0 y1 y2 σ = some q → s_le σ q.2) (lG_X5_readWord : ∀ {y0 : Nat} {y1 : Int32} {y2 : Int32} {σ : sS} {q : Int32 × sS}, f_X5_readWord y0 y1 y2 σ = some q → s_le σ q.2) {x : sL} {z : sZ Int32} (hs : S_X5_readOr f_X5_readAnd f_X5_readBinder f_X5_readIf f_X5_readInner f_X5_readNot f_X5_readOr f_X5_readUnit f_X5_readWord x = some z) : s_lz x.2.2 z := by
  obtain ⟨pc, vs, σ⟩ := x
  unfold S_X5_readOr at hs
  dsimp only at hs ⊢
  rcases s_ite hs with ⟨c, hs⟩ | ⟨-, hs⟩
  · subst c
    unfold U_X5_readOr_0 at hs
    obtain ⟨a0, g0, hs⟩ := s_bind hs
    obtain ⟨a1, g1, hs⟩ := s_bind hs
    obtain ⟨a2, g2, hs⟩ := s_bind hs
    obtain ⟨u9, ge, hs⟩ := s_bind hs
    exact l_X5_readOr_0 f_X5_readAnd f_X5_readBinder f_X5_readIf f_X5_readInner f_X5_readNot f_X5_readOr f_X5_readUnit f_X5_readWord lG_X5_readAnd lG_X5_readBinder lG_X5_readIf lG_X5_readInner lG_X5_readNot lG_X5_readOr lG_X5_readUnit lG_X5_readWord hs
  rcases s_ite hs with ⟨c, hs⟩ | ⟨-, hs⟩
  · subst c
    unfold U_X5_readOr_10 at hs
    obtain ⟨a0, g0, hs⟩ := s_bind hs
    obtain ⟨a1, g1, hs⟩ := s_bind hs
    obtain ⟨a2, g2, hs⟩ := s_bind hs
    obtain ⟨a3, g3, hs⟩ := s_bind hs
    obtain ⟨a4, g4, hs⟩ := s_bind hs
    obtain ⟨u9, ge, hs⟩ := s_bind hs
    exact l_X5_readOr_10 f_X5_readAnd f_X5_readBinder f_X5_readIf f_X5_readInner f_X5_readNot f_X5_readOr f_X5_readUnit f_X5_readWord lG_X5_readAnd lG_X5_readBinder lG_X5_readIf lG_X5_readInner lG_X5_readNot lG_X5_readOr lG_X5_readUnit lG_X5_readWord hs
  cases hs
set_option maxRecDepth 100000 in
set_option maxHeartbeats 4000000 in
theorem v_X5_readOr_0 (f_X5_readAnd : Nat → Int32 → Int32 → sS → Option (Int32 × sS)) (f_X5_readBinder : Nat → Int32 → Int32 → Int32 → Int32 → sS → Option (Int32 × sS)) (f_X5_readIf : Nat → Int32 → Int32 → sS → Option (Int32 × sS)) (f_X5_readInner : Nat → Int32 → Int32 → sS → Option (Int32 × sS)) (f_X5_readNot : Nat → Int32 → Int32 → sS → Option (Int32 × sS)) (f_X5_readOr : Nat → Int32 → Int32 → sS → Option (Int32 × sS)) (f_X5_readUnit : Nat → Int32 → Int32 → sS → Option (Int32 × sS)) (f_X5_readWord : Nat → Int32 → Int32 → sS → Option (Int32 × sS)) {G : sG} {d : Nat} (lG_X5_readAnd : ∀ {y0 : Nat} {y1 : Int32} {y2 : Int32} {σ : sS} {q : Int32 × sS}, f_X5_readAnd y0 y1 y2 σ = some q → s_le σ q.2) (lG_X5_readBinder : ∀ {y0 : Nat} {y1 : Int32} {y2 : Int32} {y3 : Int32} {y4 : Int32} {σ : sS} {q : Int32 × sS}, f_X5_readBinder y0 y1 y2 y3 y4 σ = some q → s_le σ q.2) (lG_X5_readIf : ∀ {y0 : Nat} {y1 : Int32} {y2 : Int32} {σ : sS} {q : Int32 × sS}, f_X5_readIf y0 y1 y2 σ = some q → s_le σ q.2) (lG_X5_readInner : ∀ {y0 : Nat} {y1 : Int32} {y2 : Int32} {σ : sS} {q : Int32 × sS}, f_X5_readInner y0 y1 y2 σ = some q → s_le σ q.2) (lG_X5_readNot : ∀ {y0 : Nat} {y1 : Int32} {y2 : Int32} {σ : sS} {q : Int32 × sS}, f_X5_readNot y0 y1 y2 σ = some q → s_le σ q.2) (lG_X5_readOr : ∀ {y0 : Nat} {y1 : Int32} {y2 : Int32} {σ : sS} {q : Int32 × sS}, f_X5_readOr y0 y1 y2 σ = some q → s_le σ q.2) (lG_X5_readUnit : ∀ {y0 : Nat} {y1 : Int32} {y2 : Int32} {σ : sS} {q : Int32 × sS}, f_X5_readUnit y0 y1 y2 σ = some q → s_le σ q.2) (lG_X5_readWord : ∀ {y0 : Nat} {y1 : Int32} {y2 : Int32} {σ : sS} {q : Int32 × sS}, f_X5_readWord y0 y1 y2 σ = some q → s_le σ q.2) (hG_X5_readAnd : ∀ {y0 : Nat} {y1 : Int32} {y2 : Int32} {σ : sS} {q : Int32 × sS}, f_X5_readAnd y0 y1 y2 σ = some q → s_T G (d + 71) M_X5_readAnd [.ref y0, .int y1, .int y2] σ (e_I q) ∧ ∃ fs, σ.1 y0 = some (.inr (5, fs))) (hG_X5_readBinder : ∀ {y0 : Nat} {y1 : Int32} {y2 : Int32} {y3 : Int32} {y4 : Int32} {σ : sS} {q : Int32 × sS}, f_X5_readBinder y0 y1 y2 y3 y4 σ = some q → s_T G (d + 71) M_X5_readBinder [.ref y0, .int y1, .int y2, .int y3, .int y4] σ (e_I q) ∧ ∃ fs, σ.1 y0 = some (.inr (5, fs))) (hG_X5_readIf : ∀ {y0 : Nat} {y1 : Int32} {y2 : Int32} {σ : sS} {q : Int32 × sS}, f_X5_readIf y0 y1 y2 σ = some q → s_T G (d + 71) M_X5_readIf [.ref y0, .int y1, .int y2] σ (e_I q) ∧ ∃ fs, σ.1 y0 = some (.inr (5, fs))) (hG_X5_readInner : ∀ {y0 : Nat} {y1 : Int32} {y2 : Int32} {σ : sS} {q : Int32 × sS}, f_X5_readInner y0 y1 y2 σ = some q → s_T G (d + 71) M_X5_readInner [.ref y0, .int y1, .int y2] σ (e_I q) ∧ ∃ fs, σ.1 y0 = some (.inr (5, fs))) (hG_X5_readNot : ∀ {y0 : Nat} {y1 : Int32} {y2 : Int32} {σ : sS} {q : Int32 × sS}, f_X5_readNot y0 y1 y2 σ = some q → s_T G (d + 71) M_X5_readNot [.ref y0, .int y1, .int y2] σ (e_I q) ∧ ∃ fs, σ.1 y0 = some (.inr (5, fs))) (hG_X5_readOr : ∀ {y0 : Nat} {y1 : Int32} {y2 : Int32} {σ : sS} {q : Int32 × sS}, f_X5_readOr y0 y1 y2 σ = some q → s_T G (d + 71) M_X5_readOr [.ref y0, .int y1, .int y2] σ (e_I q) ∧ ∃ fs, σ.1 y0 = some (.inr (5, fs))) (hG_X5_readUnit : ∀ {y0 : Nat} {y1 : Int32} {y2 : Int32} {σ : sS} {q : Int32 × sS}, f_X5_readUnit y0 y1 y2 σ = some q → s_T G (d + 71) M_X5_readUnit [.ref y0, .int y1, .int y2] σ (e_I q) ∧ ∃ fs, σ.1 y0 = some (.inr (5, fs))) (hG_X5_readWord : ∀ {y0 : Nat} {y1 : Int32} {y2 : Int32} {σ : sS} {q : Int32 × sS}, f_X5_readWord y0 y1 y2 σ = some q → s_T G (d + 71) M_X5_readWord [.ref y0, .int y1, .int y2] σ (e_I q) ∧ ∃ fs, σ.1 y0 = some (.inr (5, fs))) {vs0 : List Value} {σ0 : sS} {v0 : Nat} {v1 : Int32} {v2 : Int32} {σ : sS} {z : sZ Int32} {r : Int32 × sS} (hf : T_X5_readOr_0 f_X5_readAnd f_X5_readBinder f_X5_readIf f_X5_readInner f_X5_readNot f_X5_readOr f_X5_readUnit f_X5_readWord v0 v1 v2 σ = some z) (k : s_K G (d + 72) M_X5_readOr vs0 σ0 Y_X5_readOr e_I z r) : s_V G (d + 72) M_X5_readOr vs0 σ0 Y_X5_readOr (0, [.ref v0, .int v1, .int v2], σ) (e_I r) := by
  have le0 : s_le σ (e_I r).2 := s_lek hem_I (l_X5_readOr_0 f_X5_readAnd f_X5_readBinder f_X5_readIf f_X5_readInner f_X5_readNot f_X5_readOr f_X5_readUnit f_X5_readWord lG_X5_readAnd lG_X5_readBinder lG_X5_readIf lG_X5_readInner lG_X5_readNot lG_X5_readOr lG_X5_readUnit lG_X5_readWord hf) k
  refine ⟨le0, ?_⟩
  intro p e s m below meth c H locs cells slots ls X I hn1 hn2 hl
  have hn : cells + σ0.2.1 ≤ σ.2.1 ∧ slots + σ0.2.2.1 ≤ σ.2.2.1 := ⟨hn1, hn2⟩
  have hl : lv_has ls 5 [(0, .ref v0), (1, .int v1), (2, .int v2)] := hl
  have hx := X.1
  have hb : c.code = cX5_readOr := X.2.1
  have hown : s.vm.findClass RX5 = some m.cls := X.2.2.2.2.2.1
  have hts := X.2.2.2.2.2.2.1
  refine W.eq (g2 := F0 m 0 ls []) rfl ?_
  unfold T_X5_readOr_0 at hf
  obtain ⟨q1, h1, hf⟩ := s_bind hf
  cases hf
  have k : s_V G (d + 72) M_X5_readOr vs0 σ0 Y_X5_readOr (10, [.ref v0, .int v1, .int v2, .int q1.1, .int 0], q1.2) (e_I r) := k
  have le2 : s_le q1.2 (e_I r).2 := k.1
  refine lv_aload_n hx hb dX5_readOr_0 rfl (lv_at hl 0 rfl) ?_
  refine lv_iload_n hx hb dX5_readOr_1 rfl (lv_at hl 1 rfl) ?_
  refine lv_iload_n hx hb dX5_readOr_2 rfl (lv_at hl 2 rfl) ?_
  refine r_callV (Y := M_X5_readAnd) (v := some (.int q1.1)) X I w_709 my_X5_readAnd (by omega) (hG_X5_readAnd h1).1 (hG_X5_readAnd h1).2 rfl rfl hl.1 rfl (Nat.le_of_ble_eq_true rfl) hn le2 dX5_readOr_3 (fun H locs cells slots I hn1 hn2 => ?_)
  have I : s_I G q1.2 s H locs := I
  have hn : cells + σ0.2.1 ≤ q1.2.2.1 ∧ slots + σ0.2.2.1 ≤ q1.2.2.2.1 := ⟨hn1, hn2⟩
  refine lv_istore_n (lv' := [(3, .int q1.1), (0, .ref v0), (1, .int v1), (2, .int v2)]) hx hb dX5_readOr_6 rfl hl (by decide) rfl (fun ls hl => ?_)
  refine lv_iconst (v := 0) hx hb dX5_readOr_7 (by decide) ?_
  refine lv_istore (lv' := [(4, .int 0), (3, .int q1.1), (0, .ref v0), (1, .int v1), (2, .int v2)]) hx hb dX5_readOr_8 hl (by decide) rfl (fun ls hl => ?_)
  exact k.2 p e s m below meth c _ _ _ _ _ X I hn.1 hn.2 (lv_sub hl [2, 3, 4, 1, 0] rfl)
set_option maxRecDepth 100000 in
set_option maxHeartbeats 4000000 in
theorem v_X5_readOr_10 (f_X5_readAnd : Nat → Int32 → Int32 → sS → Option (Int32 × sS)) (f_X5_readBinder : Nat → Int32 → Int32 → Int32 → Int32 → sS → Option (Int32 × sS)) (f_X5_readIf : Nat → Int32 → Int32 → sS → Option (Int32 × sS)) (f_X5_readInner : Nat → Int32 → Int32 → sS → Option (Int32 × sS)) (f_X5_readNot : Nat → Int32 → Int32 → sS → Option (Int32 × sS)) (f_X5_readOr : Nat → Int32 → Int32 → sS → Option (Int32 × sS)) (f_X5_readUnit : Nat → Int32 → Int32 → sS → Option (Int32 × sS)) (f_X5_readWord : Nat → Int32 → Int32 → sS → Option (Int32 × sS)) {G : sG} {d : Nat} (lG_X5_readAnd : ∀ {y0 : Nat} {y1 : Int32} {y2 : Int32} {σ : sS} {q : Int32 × sS}, f_X5_readAnd y0 y1 y2 σ = some q → s_le σ q.2) (lG_X5_readBinder : ∀ {y0 : Nat} {y1 : Int32} {y2 : Int32} {y3 : Int32} {y4 : Int32} {σ : sS} {q : Int32 × sS}, f_X5_readBinder y0 y1 y2 y3 y4 σ = some q → s_le σ q.2) (lG_X5_readIf : ∀ {y0 : Nat} {y1 : Int32} {y2 : Int32} {σ : sS} {q : Int32 × sS}, f_X5_readIf y0 y1 y2 σ = some q → s_le σ q.2) (lG_X5_readInner : ∀ {y0 : Nat} {y1 : Int32} {y2 : Int32} {σ : sS} {q : Int32 × sS}, f_X5_readInner y0 y1 y2 σ = some q → s_le σ q.2) (lG_X5_readNot : ∀ {y0 : Nat} {y1 : Int32} {y2 : Int32} {σ : sS} {q : Int32 × sS}, f_X5_readNot y0 y1 y2 σ = some q → s_le σ q.2) (lG_X5_readOr : ∀ {y0 : Nat} {y1 : Int32} {y2 : Int32} {σ : sS} {q : Int32 × sS}, f_X5_readOr y0 y1 y2 σ = some q → s_le σ q.2) (lG_X5_readUnit : ∀ {y0 : Nat} {y1 : Int32} {y2 : Int32} {σ : sS} {q : Int32 × sS}, f_X5_readUnit y0 y1 y2 σ = some q → s_le σ q.2) (lG_X5_readWord : ∀ {y0 : Nat} {y1 : Int32} {y2 : Int32} {σ : sS} {q : Int32 × sS}, f_X5_readWord y0 y1 y2 σ = some q → s_le σ q.2) (hG_X5_readAnd : ∀ {y0 : Nat} {y1 : Int32} {y2 : Int32} {σ : sS} {q : Int32 × sS}, f_X5_readAnd y0 y1 y2 σ = some q → s_T G (d + 71) M_X5_readAnd [.ref y0, .int y1, .int y2] σ (e_I q) ∧ ∃ fs, σ.1 y0 = some (.inr (5, fs))) (hG_X5_readBinder : ∀ {y0 : Nat} {y1 : Int32} {y2 : Int32} {y3 : Int32} {y4 : Int32} {σ : sS} {q : Int32 × sS}, f_X5_readBinder y0 y1 y2 y3 y4 σ = some q → s_T G (d + 71) M_X5_readBinder [.ref y0, .int y1, .int y2, .int y3, .int y4] σ (e_I q) ∧ ∃ fs, σ.1 y0 = some (.inr (5, fs))) (hG_X5_readIf : ∀ {y0 : Nat} {y1 : Int32} {y2 : Int32} {σ : sS} {q : Int32 × sS}, f_X5_readIf y0 y1 y2 σ = some q → s_T G (d + 71) M_X5_readIf [.ref y0, .int y1, .int y2] σ (e_I q) ∧ ∃ fs, σ.1 y0 = some (.inr (5, fs))) (hG_X5_readInner : ∀ {y0 : Nat} {y1 : Int32} {y2 : Int32} {σ : sS} {q : Int32 × sS}, f_X5_readInner y0 y1 y2 σ = some q → s_T G (d + 71) M_X5_readInner [.ref y0, .int y1, .int y2] σ (e_I q) ∧ ∃ fs, σ.1 y0 = some (.inr (5, fs))) (hG_X5_readNot : ∀ {y0 : Nat} {y1 : Int32} {y2 : Int32} {σ : sS} {q : Int32 × sS}, f_X5_readNot y0 y1 y2 σ = some q → s_T G (d + 71) M_X5_readNot [.ref y0, .int y1, .int y2] σ (e_I q) ∧ ∃ fs, σ.1 y0 = some (.inr (5, fs))) (hG_X5_readOr : ∀ {y0 : Nat} {y1 : Int32} {y2 : Int32} {σ : sS} {q : Int32 × sS}, f_X5_readOr y0 y1 y2 σ = some q → s_T G (d + 71) M_X5_readOr [.ref y0, .int y1, .int y2] σ (e_I q) ∧ ∃ fs, σ.1 y0 = some (.inr (5, fs))) (hG_X5_readUnit : ∀ {y0 : Nat} {y1 : Int32} {y2 : Int32} {σ : sS} {q : Int32 × sS}, f_X5_readUnit y0 y1 y2 σ = some q → s_T G (d + 71) M_X5_readUnit [.ref y0, .int y1, .int y2] σ (e_I q) ∧ ∃ fs, σ.1 y0 = some (.inr (5, fs))) (hG_X5_readWord : ∀ {y0 : Nat} {y1 : Int32} {y2 : Int32} {σ : sS} {q : Int32 × sS}, f_X5_readWord y0 y1 y2 σ = some q → s_T G (d + 71) M_X5_readWord [.ref y0, .int y1, .int y2] σ (e_I q) ∧ ∃ fs, σ.1 y0 = some (.inr (5, fs))) {vs0 : List Value} {σ0 : sS} {v0 : Nat} {v1 : Int32} {v2 : Int32} {v3 : Int32} {v4 : Int32} {σ : sS} {z : sZ Int32} {r : Int32 × sS} (hf : T_X5_readOr_10 f_X5_readAnd f_X5_readBinder f_X5_readIf f_X5_readInner f_X5_readNot f_X5_readOr f_X5_readUnit f_X5_readWord v0 v1 v2 v3 v4 σ = some z) (k : s_K G (d + 72) M_X5_readOr vs0 σ0 Y_X5_readOr e_I z r) : s_V G (d + 72) M_X5_readOr vs0 σ0 Y_X5_readOr (10, [.ref v0, .int v1, .int v2, .int v3, .int v4], σ) (e_I r) := by
  have le0 : s_le σ (e_I r).2 := s_lek hem_I (l_X5_readOr_10 f_X5_readAnd f_X5_readBinder f_X5_readIf f_X5_readInner f_X5_readNot f_X5_readOr f_X5_readUnit f_X5_readWord lG_X5_readAnd lG_X5_readBinder lG_X5_readIf lG_X5_readInner lG_X5_readNot lG_X5_readOr lG_X5_readUnit lG_X5_readWord hf) k
  refine ⟨le0, ?_⟩
  intro p e s m below meth c H locs cells slots ls X I hn1 hn2 hl
  have hn : cells + σ0.2.1 ≤ σ.2.1 ∧ slots + σ0.2.2.1 ≤ σ.2.2.1 := ⟨hn1, hn2⟩
  have hl : lv_has ls 5 [(0, .ref v0), (1, .int v1), (2, .int v2), (3, .int v3), (4, .int v4)] := hl
  have hx := X.1
  have hb : c.code = cX5_readOr := X.2.1
  have hown : s.vm.findClass RX5 = some m.cls := X.2.2.2.2.2.1
  have hts := X.2.2.2.2.2.2.1
  refine W.eq (g2 := F0 m 10 ls []) rfl ?_
  unfold T_X5_readOr_10 at hf
  refine lv_iload hx hb dX5_readOr_10 (lv_at hl 4 rfl) ?_
  refine lv_sipush (v := 400) hx hb dX5_readOr_12 (by decide) ?_
  rcases s_ite hf with ⟨c1, hf⟩ | ⟨c1, hf⟩
  · refine lv_icmp_ge (tgt := 67) hx hb dX5_readOr_15 (by decide) (fun _ => ?_) (fun n => absurd c1 n)
    cases hf
    have k : _ = r := k
    subst k
    refine lv_iload_n hx hb dX5_readOr_67 rfl (lv_at hl 3 rfl) ?_
    exact r_iret X I rfl rfl rfl hn dX5_readOr_68
  · refine lv_icmp_ge (tgt := 67) hx hb dX5_readOr_15 (by decide) (fun n => absurd n c1) (fun _ => ?_)
    obtain ⟨q1, h2, hf⟩ := s_bind hf
    have le3 : s_le q1.2 (e_I r).2 := by
      refine s_lek hem_I ?_ k
      rcases s_ite hf with ⟨-, hf⟩ | ⟨-, hf⟩
      · obtain ⟨x2, -, hf⟩ := s_bind hf
        obtain ⟨q3, hh, hf⟩ := s_bind hf
        refine s_lz.tr (l_X5_mayTakeSign hh) ?_
        rcases s_ite hf with ⟨-, hf⟩ | ⟨-, hf⟩
        · cases hf
          exact s_le.rf
        · obtain ⟨x4, -, hf⟩ := s_bind hf
          obtain ⟨σ5, hh, hf⟩ := s_bind hf
          refine s_lz.tr (s_le2 (s_pf_2 hh)) ?_
          obtain ⟨q6, hh, hf⟩ := s_bind hf
          refine s_lz.tr (lG_X5_readAnd hh) ?_
          obtain ⟨q7, hh, hf⟩ := s_bind hf
          refine s_lz.tr (l_X5_join hh) ?_
          cases hf
          exact s_le.rf
      · cases hf
        exact s_le.rf
    refine lv_aload_n hx hb dX5_readOr_18 rfl (lv_at hl 0 rfl) ?_
    refine r_callV (Y := M_X5_peek) (v := some (.int q1.1)) X I w_717 my_X5_peek (by omega) (t_X5_peek (G := G) (d := d + 69) h2) (b_X5_peek h2) rfl rfl hl.1 rfl (Nat.le_of_ble_eq_true rfl) hn le3 dX5_readOr_19 (fun H locs cells slots I hn1 hn2 => ?_)
    have I : s_I G q1.2 s H locs := I
    have hn : cells + σ0.2.1 ≤ q1.2.2.1 ∧ slots + σ0.2.2.1 ≤ q1.2.2.2.1 := ⟨hn1, hn2⟩
    refine lv_bipush (v := 124) hx hb dX5_readOr_22 (by decide) ?_
    rcases s_ite hf with ⟨c4, hf⟩ | ⟨c4, hf⟩
    · refine lv_icmp_ne (tgt := 67) hx hb dX5_readOr_24 (by decide) (fun n => absurd c4 n) (fun _ => ?_)
      obtain ⟨x2, h5, hf⟩ := s_bind hf
      obtain ⟨q3, h6, hf⟩ := s_bind hf
      have le7 : s_le q3.2 (e_I r).2 := by
        refine s_lek hem_I ?_ k
        rcases s_ite hf with ⟨-, hf⟩ | ⟨-, hf⟩
        · cases hf
          exact s_le.rf
        · obtain ⟨x4, -, hf⟩ := s_bind hf
          obtain ⟨σ5, hh, hf⟩ := s_bind hf
          refine s_lz.tr (s_le2 (s_pf_2 hh)) ?_
          obtain ⟨q6, hh, hf⟩ := s_bind hf
          refine s_lz.tr (lG_X5_readAnd hh) ?_
          obtain ⟨q7, hh, hf⟩ := s_bind hf
          refine s_lz.tr (l_X5_join hh) ?_
          cases hf
          exact s_le.rf
      refine lv_aload_n hx hb dX5_readOr_27 rfl (lv_at hl 0 rfl) ?_
      refine lv_aload_n hx hb dX5_readOr_28 rfl (lv_at hl 0 rfl) ?_
      refine r_gi X I fl_X5_29 h5 dX5_readOr_29 ?_
      refine r_callV (Y := M_X5_mayTakeSign) (v := some (.int q3.1)) X I w_737 my_X5_mayTakeSign (by omega) (t_X5_mayTakeSign (G := G) (d := d + 69) h6) (b_X5_mayTakeSign h6) rfl rfl hl.1 rfl (Nat.le_of_ble_eq_true rfl) hn le7 dX5_readOr_32 (fun H locs cells slots I hn1 hn2 => ?_)
      have I : s_I G q3.2 s H locs := I
      have hn : cells + σ0.2.1 ≤ q3.2.2.1 ∧ slots + σ0.2.2.1 ≤ q3.2.2.2.1 := ⟨hn1, hn2⟩
      rcases s_ite hf with ⟨c8, hf⟩ | ⟨c8, hf⟩
      · refine lv_if_eq (tgt := 67) hx hb dX5_readOr_35 (by decide) (fun _ => ?_) (fun n => absurd c8 n)
        cases hf
        have k : _ = r := k
        subst k
        refine lv_iload_n hx hb dX5_readOr_67 rfl (lv_at hl 3 rfl) ?_
        exact r_iret X I rfl rfl rfl hn dX5_readOr_68
      · refine lv_if_eq (tgt := 67) hx hb dX5_readOr_35 (by decide) (fun n => absurd n c8) (fun _ => ?_)
        obtain ⟨x4, h9, hf⟩ := s_bind hf
        obtain ⟨σ5, h10, hf⟩ := s_bind hf
        obtain ⟨q6, h11, hf⟩ := s_bind hf
        obtain ⟨q7, h12, hf⟩ := s_bind hf
        cases hf
        have k : s_V G (d + 72) M_X5_readOr vs0 σ0 Y_X5_readOr (10, [.ref v0, .int v1, .int v2, .int q7.1, .int (v4 + 1)], q7.2) (e_I r) := k
        have le13 : s_le q7.2 (e_I r).2 := k.1
        have le14 := s_le.tr (l_X5_join h12) le13
        have le15 := s_le.tr (lG_X5_readAnd h11) le14
        refine lv_aload_n hx hb dX5_readOr_38 rfl (lv_at hl 0 rfl) ?_
        refine lv_dup hx hb dX5_readOr_39 rfl ?_
        refine r_gi X I fl_X5_29 h9 dX5_readOr_40 ?_
        refine lv_iconst (v := 1) hx hb dX5_readOr_43 (by decide) ?_
        refine lv_iadd hx hb dX5_readOr_44 ?_
        refine r_put X I fp_X5_29 (fun h => by cases h) h10 rfl rfl dX5_readOr_45 (fun H locs I => ?_)
        have hn := s_k2 (s_pf_2 h10) hn
        refine lv_aload_n hx hb dX5_readOr_48 rfl (lv_at hl 0 rfl) ?_
        refine lv_iconst (v := 3) hx hb dX5_readOr_49 (by decide) ?_
        refine lv_iload_n hx hb dX5_readOr_50 rfl (lv_at hl 3 rfl) ?_
        refine lv_aload_n hx hb dX5_readOr_51 rfl (lv_at hl 0 rfl) ?_
        refine lv_iload_n hx hb dX5_readOr_52 rfl (lv_at hl 1 rfl) ?_
        refine lv_iload_n hx hb dX5_readOr_53 rfl (lv_at hl 2 rfl) ?_
        refine r_callV (Y := M_X5_readAnd) (v := some (.int q6.1)) X I w_709 my_X5_readAnd (by omega) (hG_X5_readAnd h11).1 (hG_X5_readAnd h11).2 rfl rfl hl.1 rfl (Nat.le_of_ble_eq_true rfl) hn le14 dX5_readOr_54 (fun H locs cells slots I hn1 hn2 => ?_)
        have I : s_I G q6.2 s H locs := I
        have hn : cells + σ0.2.1 ≤ q6.2.2.1 ∧ slots + σ0.2.2.1 ≤ q6.2.2.2.1 := ⟨hn1, hn2⟩
        refine r_callV (Y := M_X5_join) (v := some (.int q7.1)) X I w_741 my_X5_join (by omega) (t_X5_join (G := G) (d := d + 67) h12) (b_X5_join h12) rfl rfl hl.1 rfl (Nat.le_of_ble_eq_true rfl) hn le13 dX5_readOr_57 (fun H locs cells slots I hn1 hn2 => ?_)
        have I : s_I G q7.2 s H locs := I
        have hn : cells + σ0.2.1 ≤ q7.2.2.1 ∧ slots + σ0.2.2.1 ≤ q7.2.2.2.1 := ⟨hn1, hn2⟩
        refine lv_istore_n (lv' := [(3, .int q7.1), (0, .ref v0), (1, .int v1), (2, .int v2), (4, .int v4)]) hx hb dX5_readOr_60 rfl hl (by decide) rfl (fun ls hl => ?_)
        refine lv_iinc (v := (v4 + 1)) (lv' := [(4, .int (v4 + 1)), (3, .int q7.1), (0, .ref v0), (1, .int v1), (2, .int v2)]) hx hb dX5_readOr_61 hl (k := 4) rfl rfl (by decide) rfl (fun ls hl => ?_)
        refine lv_goto (tgt := 10) hx hb dX5_readOr_64 (by decide) ?_
        exact k.2 p e s m below meth c _ _ _ _ _ X I hn.1 hn.2 (lv_sub hl [2, 3, 4, 1, 0] rfl)
    · refine lv_icmp_ne (tgt := 67) hx hb dX5_readOr_24 (by decide) (fun _ => ?_) (fun n => absurd n c4)
      cases hf
      have k : _ = r := k
      subst k
      refine lv_iload_n hx hb dX5_readOr_67 rfl (lv_at hl 3 rfl) ?_
      exact r_iret X I rfl rfl rfl hn dX5_readOr_68
theorem v_X5_readOr (f_X5_readAnd : Nat → Int32 → Int32 → sS → Option (Int32 × sS)) (f_X5_readBinder : Nat → Int32 → Int32 → Int32 → Int32 → sS → Option (Int32 × sS)) (f_X5_readIf : Nat → Int32 → Int32 → sS → Option (Int32 × sS)) (f_X5_readInner : Nat → Int32 → Int32 → sS → Option (Int32 × sS)) (f_X5_readNot : Nat → Int32 → Int32 → sS → Option (Int32 × sS)) (f_X5_readOr : Nat → Int32 → Int32 → sS → Option (Int32 × sS)) (f_X5_readUnit : Nat → Int32 → Int32 → sS → Option (Int32 × sS)) (f_X5_readWord : Nat → Int32 → Int32 → sS → Option (Int32 × sS)) {G : sG} {d : Nat} (lG_X5_readAnd : ∀ {y0 : Nat} {y1 : Int32} {y2 : Int32} {σ : sS} {q : Int32 × sS}, f_X5_readAnd y0 y1 y2 σ = some q → s_le σ q.2) (lG_X5_readBinder : ∀ {y0 : Nat} {y1 : Int32} {y2 : Int32} {y3 : Int32} {y4 : Int32} {σ : sS} {q : Int32 × sS}, f_X5_readBinder y0 y1 y2 y3 y4 σ = some q → s_le σ q.2) (lG_X5_readIf : ∀ {y0 : Nat} {y1 : Int32} {y2 : Int32} {σ : sS} {q : Int32 × sS}, f_X5_readIf y0 y1 y2 σ = some q → s_le σ q.2) (lG_X5_readInner : ∀ {y0 : Nat} {y1 : Int32} {y2 : Int32} {σ : sS} {q : Int32 × sS}, f_X5_readInner y0 y1 y2 σ = some q → s_le σ q.2) (lG_X5_readNot : ∀ {y0 : Nat} {y1 : Int32} {y2 : Int32} {σ : sS} {q : Int32 × sS}, f_X5_readNot y0 y1 y2 σ = some q → s_le σ q.2) (lG_X5_readOr : ∀ {y0 : Nat} {y1 : Int32} {y2 : Int32} {σ : sS} {q : Int32 × sS}, f_X5_readOr y0 y1 y2 σ = some q → s_le σ q.2) (lG_X5_readUnit : ∀ {y0 : Nat} {y1 : Int32} {y2 : Int32} {σ : sS} {q : Int32 × sS}, f_X5_readUnit y0 y1 y2 σ = some q → s_le σ q.2) (lG_X5_readWord : ∀ {y0 : Nat} {y1 : Int32} {y2 : Int32} {σ : sS} {q : Int32 × sS}, f_X5_readWord y0 y1 y2 σ = some q → s_le σ q.2) (hG_X5_readAnd : ∀ {y0 : Nat} {y1 : Int32} {y2 : Int32} {σ : sS} {q : Int32 × sS}, f_X5_readAnd y0 y1 y2 σ = some q → s_T G (d + 71) M_X5_readAnd [.ref y0, .int y1, .int y2] σ (e_I q) ∧ ∃ fs, σ.1 y0 = some (.inr (5, fs))) (hG_X5_readBinder : ∀ {y0 : Nat} {y1 : Int32} {y2 : Int32} {y3 : Int32} {y4 : Int32} {σ : sS} {q : Int32 × sS}, f_X5_readBinder y0 y1 y2 y3 y4 σ = some q → s_T G (d + 71) M_X5_readBinder [.ref y0, .int y1, .int y2, .int y3, .int y4] σ (e_I q) ∧ ∃ fs, σ.1 y0 = some (.inr (5, fs))) (hG_X5_readIf : ∀ {y0 : Nat} {y1 : Int32} {y2 : Int32} {σ : sS} {q : Int32 × sS}, f_X5_readIf y0 y1 y2 σ = some q → s_T G (d + 71) M_X5_readIf [.ref y0, .int y1, .int y2] σ (e_I q) ∧ ∃ fs, σ.1 y0 = some (.inr (5, fs))) (hG_X5_readInner : ∀ {y0 : Nat} {y1 : Int32} {y2 : Int32} {σ : sS} {q : Int32 × sS}, f_X5_readInner y0 y1 y2 σ = some q → s_T G (d + 71) M_X5_readInner [.ref y0, .int y1, .int y2] σ (e_I q) ∧ ∃ fs, σ.1 y0 = some (.inr (5, fs))) (hG_X5_readNot : ∀ {y0 : Nat} {y1 : Int32} {y2 : Int32} {σ : sS} {q : Int32 × sS}, f_X5_readNot y0 y1 y2 σ = some q → s_T G (d + 71) M_X5_readNot [.ref y0, .int y1, .int y2] σ (e_I q) ∧ ∃ fs, σ.1 y0 = some (.inr (5, fs))) (hG_X5_readOr : ∀ {y0 : Nat} {y1 : Int32} {y2 : Int32} {σ : sS} {q : Int32 × sS}, f_X5_readOr y0 y1 y2 σ = some q → s_T G (d + 71) M_X5_readOr [.ref y0, .int y1, .int y2] σ (e_I q) ∧ ∃ fs, σ.1 y0 = some (.inr (5, fs))) (hG_X5_readUnit : ∀ {y0 : Nat} {y1 : Int32} {y2 : Int32} {σ : sS} {q : Int32 × sS}, f_X5_readUnit y0 y1 y2 σ = some q → s_T G (d + 71) M_X5_readUnit [.ref y0, .int y1, .int y2] σ (e_I q) ∧ ∃ fs, σ.1 y0 = some (.inr (5, fs))) (hG_X5_readWord : ∀ {y0 : Nat} {y1 : Int32} {y2 : Int32} {σ : sS} {q : Int32 × sS}, f_X5_readWord y0 y1 y2 σ = some q → s_T G (d + 71) M_X5_readWord [.ref y0, .int y1, .int y2] σ (e_I q) ∧ ∃ fs, σ.1 y0 = some (.inr (5, fs))) {vs0 : List Value} {σ0 : sS} {x : sL} {z : sZ Int32} {r : Int32 × sS} (hs : S_X5_readOr f_X5_readAnd f_X5_readBinder f_X5_readIf f_X5_readInner f_X5_readNot f_X5_readOr f_X5_readUnit f_X5_readWord x = some z) (k : s_K G (d + 72) M_X5_readOr vs0 σ0 Y_X5_readOr e_I z r) : s_V G (d + 72) M_X5_readOr vs0 σ0 Y_X5_readOr x (e_I r) := by
  obtain ⟨pc, vs, σ⟩ := x
  unfold S_X5_readOr at hs
  dsimp only at hs
  rcases s_ite hs with ⟨c, hs⟩ | ⟨-, hs⟩
  · subst c
    unfold U_X5_readOr_0 at hs
    obtain ⟨a0, g0, hs⟩ := s_bind hs
    obtain ⟨a1, g1, hs⟩ := s_bind hs
    obtain ⟨a2, g2, hs⟩ := s_bind hs
    obtain ⟨u9, ge, hs⟩ := s_bind hs
    rw [g_r_to g0, g_i_to g1, g_i_to g2, g_e_to ge]
    exact v_X5_readOr_0 f_X5_readAnd f_X5_readBinder f_X5_readIf f_X5_readInner f_X5_readNot f_X5_readOr f_X5_readUnit f_X5_readWord lG_X5_readAnd lG_X5_readBinder lG_X5_readIf lG_X5_readInner lG_X5_readNot lG_X5_readOr lG_X5_readUnit lG_X5_readWord hG_X5_readAnd hG_X5_readBinder hG_X5_readIf hG_X5_readInner hG_X5_readNot hG_X5_readOr hG_X5_readUnit hG_X5_readWord hs k
  rcases s_ite hs with ⟨c, hs⟩ | ⟨-, hs⟩
  · subst c
    unfold U_X5_readOr_10 at hs
    obtain ⟨a0, g0, hs⟩ := s_bind hs
    obtain ⟨a1, g1, hs⟩ := s_bind hs
    obtain ⟨a2, g2, hs⟩ := s_bind hs
    obtain ⟨a3, g3, hs⟩ := s_bind hs
    obtain ⟨a4, g4, hs⟩ := s_bind hs
    obtain ⟨u9, ge, hs⟩ := s_bind hs
    rw [g_r_to g0, g_i_to g1, g_i_to g2, g_i_to g3, g_i_to g4, g_e_to ge]
    exact v_X5_readOr_10 f_X5_readAnd f_X5_readBinder f_X5_readIf f_X5_readInner f_X5_readNot f_X5_readOr f_X5_readUnit f_X5_readWord lG_X5_readAnd lG_X5_readBinder lG_X5_readIf lG_X5_readInner lG_X5_readNot lG_X5_readOr lG_X5_readUnit lG_X5_readWord hG_X5_readAnd hG_X5_readBinder hG_X5_readIf hG_X5_readInner hG_X5_readNot hG_X5_readOr hG_X5_readUnit hG_X5_readWord hs k
  cases hs
theorem l_X5_readUnit_0 (f_X5_readAnd : Nat → Int32 → Int32 → sS → Option (Int32 × sS)) (f_X5_readBinder : Nat → Int32 → Int32 → Int32 → Int32 → sS → Option (Int32 × sS)) (f_X5_readIf : Nat → Int32 → Int32 → sS → Option (Int32 × sS)) (f_X5_readInner : Nat → Int32 → Int32 → sS → Option (Int32 × sS)) (f_X5_readNot : Nat → Int32 → Int32 → sS → Option (Int32 × sS)) (f_X5_readOr : Nat → Int32 → Int32 → sS → Option (Int32 × sS)) (f_X5_readUnit : Nat → Int32 → Int32 → sS → Option (Int32 × sS)) (f_X5_readWord : Nat → Int32 → Int32 → sS → Option (Int32 × sS)) (lG_X5_readAnd : ∀ {y0 : Nat} {y1 : Int32} {y2 : Int32} {σ : sS} {q : Int32 × sS}, f_X5_readAnd y0 y1 y2 σ = some q → s_le σ q.2) (lG_X5_readBinder : ∀ {y0 : Nat} {y1 : Int32} {y2 : Int32} {y3 : Int32} {y4 : Int32} {σ : sS} {q : Int32 × sS}, f_X5_readBinder y0 y1 y2 y3 y4 σ = some q → s_le σ q.2) (lG_X5_readIf : ∀ {y0 : Nat} {y1 : Int32} {y2 : Int32} {σ : sS} {q : Int32 × sS}, f_X5_readIf y0 y1 y2 σ = some q → s_le σ q.2) (lG_X5_readInner : ∀ {y0 : Nat} {y1 : Int32} {y2 : Int32} {σ : sS} {q : Int32 × sS}, f_X5_readInner y0 y1 y2 σ = some q → s_le σ q.2) (lG_X5_readNot : ∀ {y0 : Nat} {y1 : Int32} {y2 : Int32} {σ : sS} {q : Int32 × sS}, f_X5_readNot y0 y1 y2 σ = some q → s_le σ q.2) (lG_X5_readOr : ∀ {y0 : Nat} {y1 : Int32} {y2 : Int32} {σ : sS} {q : Int32 × sS}, f_X5_readOr y0 y1 y2 σ = some q → s_le σ q.2) (lG_X5_readUnit : ∀ {y0 : Nat} {y1 : Int32} {y2 : Int32} {σ : sS} {q : Int32 × sS}, f_X5_readUnit y0 y1 y2 σ = some q → s_le σ q.2) (lG_X5_readWord : ∀ {y0 : Nat} {y1 : Int32} {y2 : Int32} {σ : sS} {q : Int32 × sS}, f_X5_readWord y0 y1 y2 σ = some q → s_le σ q.2) {v0 : Nat} {v1 : Int32} {v2 : Int32} {σ : sS} {z : sZ Int32} (hf : T_X5_readUnit_0 f_X5_readAnd f_X5_readBinder f_X5_readIf f_X5_readInner f_X5_readNot f_X5_readOr f_X5_readUnit f_X5_readWord v0 v1 v2 σ = some z) : s_lz σ z := by
  unfold T_X5_readUnit_0 at hf
  obtain ⟨q1, hh, hf⟩ := s_bind hf
  refine s_lz.tr (l_X5_peek hh) ?_
  rcases s_ite hf with ⟨-, hf⟩ | ⟨-, hf⟩
  · obtain ⟨x9, -, hf⟩ := s_bind hf
    obtain ⟨q10, hh, hf⟩ := s_bind hf
    refine s_lz.tr (l_X5_fail hh) ?_
    cases hf
    exact s_le.rf
  · rcases s_ite hf with ⟨-, hf⟩ | ⟨-, hf⟩
    · obtain ⟨q8, hh, hf⟩ := s_bind hf
      refine s_lz.tr (lG_X5_readNot hh) ?_
      cases hf
      exact s_le.rf
    · rcases s_ite hf with ⟨-, hf⟩ | ⟨-, hf⟩
      · obtain ⟨q7, hh, hf⟩ := s_bind hf
        refine s_lz.tr (lG_X5_readInner hh) ?_
        cases hf
        exact s_le.rf
      · obtain ⟨x2, -, hf⟩ := s_bind hf
        obtain ⟨q3, hh, hf⟩ := s_bind hf
        refine s_lz.tr (l_X5_isLetter hh) ?_
        rcases s_ite hf with ⟨-, hf⟩ | ⟨-, hf⟩
        · obtain ⟨x4, -, hf⟩ := s_bind hf
          obtain ⟨q5, hh, hf⟩ := s_bind hf
          refine s_lz.tr (l_X5_fail hh) ?_
          cases hf
          exact s_le.rf
        · obtain ⟨q6, hh, hf⟩ := s_bind hf
          refine s_lz.tr (lG_X5_readWord hh) ?_
          cases hf
          exact s_le.rf
theorem l_X5_readUnit_s (f_X5_readAnd : Nat → Int32 → Int32 → sS → Option (Int32 × sS)) (f_X5_readBinder : Nat → Int32 → Int32 → Int32 → Int32 → sS → Option (Int32 × sS)) (f_X5_readIf : Nat → Int32 → Int32 → sS → Option (Int32 × sS)) (f_X5_readInner : Nat → Int32 → Int32 → sS → Option (Int32 × sS)) (f_X5_readNot : Nat → Int32 → Int32 → sS → Option (Int32 × sS)) (f_X5_readOr : Nat → Int32 → Int32 → sS → Option (Int32 × sS)) (f_X5_readUnit : Nat → Int32 → Int32 → sS → Option (Int32 × sS)) (f_X5_readWord : Nat → Int32 → Int32 → sS → Option (Int32 × sS)) (lG_X5_readAnd : ∀ {y0 : Nat} {y1 : Int32} {y2 : Int32} {σ : sS} {q : Int32 × sS}, f_X5_readAnd y0 y1 y2 σ = some q → s_le σ q.2) (lG_X5_readBinder : ∀ {y0 : Nat} {y1 : Int32} {y2 : Int32} {y3 : Int32} {y4 : Int32} {σ : sS} {q : Int32 × sS}, f_X5_readBinder y0 y1 y2 y3 y4 σ = some q → s_le σ q.2) (lG_X5_readIf : ∀ {y0 : Nat} {y1 : Int32} {y2 : Int32} {σ : sS} {q : Int32 × sS}, f_X5_readIf y0 y1 y2 σ = some q → s_le σ q.2) (lG_X5_readInner : ∀ {y0 : Nat} {y1 : Int32} {y2 : Int32} {σ : sS} {q : Int32 × sS}, f_X5_readInner y0 y1 y2 σ = some q → s_le σ q.2) (lG_X5_readNot : ∀ {y0 : Nat} {y1 : Int32} {y2 : Int32} {σ : sS} {q : Int32 × sS}, f_X5_readNot y0 y1 y2 σ = some q → s_le σ q.2) (lG_X5_readOr : ∀ {y0 : Nat} {y1 : Int32} {y2 : Int32} {σ : sS} {q : Int32 × sS}, f_X5_readOr y0 y1 y2 σ = some q → s_le σ q.2) (lG_X5_readUnit : ∀ {y0 : Nat} {y1 : Int32} {y2 : Int32} {σ : sS} {q : Int32 × sS}, f_X5_readUnit y0 y1 y2 σ = some q → s_le σ q.2) (lG_X5_readWord : ∀ {y0 : Nat} {y1 : Int32} {y2 : Int32} {σ : sS} {q : Int32 × sS}, f_X5_readWord y0 y1 y2 σ = some q → s_le σ q.2) {x : sL} {z : sZ Int32} (hs : S_X5_readUnit f_X5_readAnd f_X5_readBinder f_X5_readIf f_X5_readInner f_X5_readNot f_X5_readOr f_X5_readUnit f_X5_readWord x = some z) : s_lz x.2.2 z := by
  obtain ⟨pc, vs, σ⟩ := x
  unfold S_X5_readUnit at hs
  dsimp only at hs ⊢
  rcases s_ite hs with ⟨c, hs⟩ | ⟨-, hs⟩
  · subst c
    unfold U_X5_readUnit_0 at hs
    obtain ⟨a0, g0, hs⟩ := s_bind hs
    obtain ⟨a1, g1, hs⟩ := s_bind hs
    obtain ⟨a2, g2, hs⟩ := s_bind hs
    obtain ⟨u9, ge, hs⟩ := s_bind hs
    exact l_X5_readUnit_0 f_X5_readAnd f_X5_readBinder f_X5_readIf f_X5_readInner f_X5_readNot f_X5_readOr f_X5_readUnit f_X5_readWord lG_X5_readAnd lG_X5_readBinder lG_X5_readIf lG_X5_readInner lG_X5_readNot lG_X5_readOr lG_X5_readUnit lG_X5_readWord hs
  cases hs
set_option maxRecDepth 100000 in
set_option maxHeartbeats 4000000 in
theorem v_X5_readUnit_0 (f_X5_readAnd : Nat → Int32 → Int32 → sS → Option (Int32 × sS)) (f_X5_readBinder : Nat → Int32 → Int32 → Int32 → Int32 → sS → Option (Int32 × sS)) (f_X5_readIf : Nat → Int32 → Int32 → sS → Option (Int32 × sS)) (f_X5_readInner : Nat → Int32 → Int32 → sS → Option (Int32 × sS)) (f_X5_readNot : Nat → Int32 → Int32 → sS → Option (Int32 × sS)) (f_X5_readOr : Nat → Int32 → Int32 → sS → Option (Int32 × sS)) (f_X5_readUnit : Nat → Int32 → Int32 → sS → Option (Int32 × sS)) (f_X5_readWord : Nat → Int32 → Int32 → sS → Option (Int32 × sS)) {G : sG} {d : Nat} (lG_X5_readAnd : ∀ {y0 : Nat} {y1 : Int32} {y2 : Int32} {σ : sS} {q : Int32 × sS}, f_X5_readAnd y0 y1 y2 σ = some q → s_le σ q.2) (lG_X5_readBinder : ∀ {y0 : Nat} {y1 : Int32} {y2 : Int32} {y3 : Int32} {y4 : Int32} {σ : sS} {q : Int32 × sS}, f_X5_readBinder y0 y1 y2 y3 y4 σ = some q → s_le σ q.2) (lG_X5_readIf : ∀ {y0 : Nat} {y1 : Int32} {y2 : Int32} {σ : sS} {q : Int32 × sS}, f_X5_readIf y0 y1 y2 σ = some q → s_le σ q.2) (lG_X5_readInner : ∀ {y0 : Nat} {y1 : Int32} {y2 : Int32} {σ : sS} {q : Int32 × sS}, f_X5_readInner y0 y1 y2 σ = some q → s_le σ q.2) (lG_X5_readNot : ∀ {y0 : Nat} {y1 : Int32} {y2 : Int32} {σ : sS} {q : Int32 × sS}, f_X5_readNot y0 y1 y2 σ = some q → s_le σ q.2) (lG_X5_readOr : ∀ {y0 : Nat} {y1 : Int32} {y2 : Int32} {σ : sS} {q : Int32 × sS}, f_X5_readOr y0 y1 y2 σ = some q → s_le σ q.2) (lG_X5_readUnit : ∀ {y0 : Nat} {y1 : Int32} {y2 : Int32} {σ : sS} {q : Int32 × sS}, f_X5_readUnit y0 y1 y2 σ = some q → s_le σ q.2) (lG_X5_readWord : ∀ {y0 : Nat} {y1 : Int32} {y2 : Int32} {σ : sS} {q : Int32 × sS}, f_X5_readWord y0 y1 y2 σ = some q → s_le σ q.2) (hG_X5_readAnd : ∀ {y0 : Nat} {y1 : Int32} {y2 : Int32} {σ : sS} {q : Int32 × sS}, f_X5_readAnd y0 y1 y2 σ = some q → s_T G (d + 71) M_X5_readAnd [.ref y0, .int y1, .int y2] σ (e_I q) ∧ ∃ fs, σ.1 y0 = some (.inr (5, fs))) (hG_X5_readBinder : ∀ {y0 : Nat} {y1 : Int32} {y2 : Int32} {y3 : Int32} {y4 : Int32} {σ : sS} {q : Int32 × sS}, f_X5_readBinder y0 y1 y2 y3 y4 σ = some q → s_T G (d + 71) M_X5_readBinder [.ref y0, .int y1, .int y2, .int y3, .int y4] σ (e_I q) ∧ ∃ fs, σ.1 y0 = some (.inr (5, fs))) (hG_X5_readIf : ∀ {y0 : Nat} {y1 : Int32} {y2 : Int32} {σ : sS} {q : Int32 × sS}, f_X5_readIf y0 y1 y2 σ = some q → s_T G (d + 71) M_X5_readIf [.ref y0, .int y1, .int y2] σ (e_I q) ∧ ∃ fs, σ.1 y0 = some (.inr (5, fs))) (hG_X5_readInner : ∀ {y0 : Nat} {y1 : Int32} {y2 : Int32} {σ : sS} {q : Int32 × sS}, f_X5_readInner y0 y1 y2 σ = some q → s_T G (d + 71) M_X5_readInner [.ref y0, .int y1, .int y2] σ (e_I q) ∧ ∃ fs, σ.1 y0 = some (.inr (5, fs))) (hG_X5_readNot : ∀ {y0 : Nat} {y1 : Int32} {y2 : Int32} {σ : sS} {q : Int32 × sS}, f_X5_readNot y0 y1 y2 σ = some q → s_T G (d + 71) M_X5_readNot [.ref y0, .int y1, .int y2] σ (e_I q) ∧ ∃ fs, σ.1 y0 = some (.inr (5, fs))) (hG_X5_readOr : ∀ {y0 : Nat} {y1 : Int32} {y2 : Int32} {σ : sS} {q : Int32 × sS}, f_X5_readOr y0 y1 y2 σ = some q → s_T G (d + 71) M_X5_readOr [.ref y0, .int y1, .int y2] σ (e_I q) ∧ ∃ fs, σ.1 y0 = some (.inr (5, fs))) (hG_X5_readUnit : ∀ {y0 : Nat} {y1 : Int32} {y2 : Int32} {σ : sS} {q : Int32 × sS}, f_X5_readUnit y0 y1 y2 σ = some q → s_T G (d + 71) M_X5_readUnit [.ref y0, .int y1, .int y2] σ (e_I q) ∧ ∃ fs, σ.1 y0 = some (.inr (5, fs))) (hG_X5_readWord : ∀ {y0 : Nat} {y1 : Int32} {y2 : Int32} {σ : sS} {q : Int32 × sS}, f_X5_readWord y0 y1 y2 σ = some q → s_T G (d + 71) M_X5_readWord [.ref y0, .int y1, .int y2] σ (e_I q) ∧ ∃ fs, σ.1 y0 = some (.inr (5, fs))) {vs0 : List Value} {σ0 : sS} {v0 : Nat} {v1 : Int32} {v2 : Int32} {σ : sS} {z : sZ Int32} {r : Int32 × sS} (hf : T_X5_readUnit_0 f_X5_readAnd f_X5_readBinder f_X5_readIf f_X5_readInner f_X5_readNot f_X5_readOr f_X5_readUnit f_X5_readWord v0 v1 v2 σ = some z) (k : s_K G (d + 72) M_X5_readUnit vs0 σ0 Y_X5_readUnit e_I z r) : s_V G (d + 72) M_X5_readUnit vs0 σ0 Y_X5_readUnit (0, [.ref v0, .int v1, .int v2], σ) (e_I r) := by
  have le0 : s_le σ (e_I r).2 := s_lek hem_I (l_X5_readUnit_0 f_X5_readAnd f_X5_readBinder f_X5_readIf f_X5_readInner f_X5_readNot f_X5_readOr f_X5_readUnit f_X5_readWord lG_X5_readAnd lG_X5_readBinder lG_X5_readIf lG_X5_readInner lG_X5_readNot lG_X5_readOr lG_X5_readUnit lG_X5_readWord hf) k
  refine ⟨le0, ?_⟩
  intro p e s m below meth c H locs cells slots ls X I hn1 hn2 hl
  have hn : cells + σ0.2.1 ≤ σ.2.1 ∧ slots + σ0.2.2.1 ≤ σ.2.2.1 := ⟨hn1, hn2⟩
  have hl : lv_has ls 4 [(0, .ref v0), (1, .int v1), (2, .int v2)] := hl
  have hx := X.1
  have hb : c.code = cX5_readUnit := X.2.1
  have hown : s.vm.findClass RX5 = some m.cls := X.2.2.2.2.2.1
  have hts := X.2.2.2.2.2.2.1
  refine W.eq (g2 := F0 m 0 ls []) rfl ?_
  unfold T_X5_readUnit_0 at hf
  obtain ⟨q1, h1, hf⟩ := s_bind hf
  have le2 : s_le q1.2 (e_I r).2 := by
    refine s_lek hem_I ?_ k
    rcases s_ite hf with ⟨-, hf⟩ | ⟨-, hf⟩
    · obtain ⟨x9, -, hf⟩ := s_bind hf
      obtain ⟨q10, hh, hf⟩ := s_bind hf
      refine s_lz.tr (l_X5_fail hh) ?_
      cases hf
      exact s_le.rf
    · rcases s_ite hf with ⟨-, hf⟩ | ⟨-, hf⟩
      · obtain ⟨q8, hh, hf⟩ := s_bind hf
        refine s_lz.tr (lG_X5_readNot hh) ?_
        cases hf
        exact s_le.rf
      · rcases s_ite hf with ⟨-, hf⟩ | ⟨-, hf⟩
        · obtain ⟨q7, hh, hf⟩ := s_bind hf
          refine s_lz.tr (lG_X5_readInner hh) ?_
          cases hf
          exact s_le.rf
        · obtain ⟨x2, -, hf⟩ := s_bind hf
          obtain ⟨q3, hh, hf⟩ := s_bind hf
          refine s_lz.tr (l_X5_isLetter hh) ?_
          rcases s_ite hf with ⟨-, hf⟩ | ⟨-, hf⟩
          · obtain ⟨x4, -, hf⟩ := s_bind hf
            obtain ⟨q5, hh, hf⟩ := s_bind hf
            refine s_lz.tr (l_X5_fail hh) ?_
            cases hf
            exact s_le.rf
          · obtain ⟨q6, hh, hf⟩ := s_bind hf
            refine s_lz.tr (lG_X5_readWord hh) ?_
            cases hf
            exact s_le.rf
  refine lv_aload_n hx hb dX5_readUnit_0 rfl (lv_at hl 0 rfl) ?_
  refine r_callV (Y := M_X5_peek) (v := some (.int q1.1)) X I w_717 my_X5_peek (by omega) (t_X5_peek (G := G) (d := d + 69) h1) (b_X5_peek h1) rfl rfl hl.1 rfl (Nat.le_of_ble_eq_true rfl) hn le2 dX5_readUnit_1 (fun H locs cells slots I hn1 hn2 => ?_)
  have I : s_I G q1.2 s H locs := I
  have hn : cells + σ0.2.1 ≤ q1.2.2.1 ∧ slots + σ0.2.2.1 ≤ q1.2.2.2.1 := ⟨hn1, hn2⟩
  refine lv_istore_n (lv' := [(3, .int q1.1), (0, .ref v0), (1, .int v1), (2, .int v2)]) hx hb dX5_readUnit_4 rfl hl (by decide) rfl (fun ls hl => ?_)
  refine lv_iload_n hx hb dX5_readUnit_5 rfl (lv_at hl 0 rfl) ?_
  refine lv_iconst (v := (-1)) hx hb dX5_readUnit_6 (by decide) ?_
  rcases s_ite hf with ⟨c3, hf⟩ | ⟨c3, hf⟩
  · refine lv_icmp_ne (tgt := 19) hx hb dX5_readUnit_7 (by decide) (fun n => absurd c3 n) (fun _ => ?_)
    obtain ⟨x9, h4, hf⟩ := s_bind hf
    obtain ⟨q10, h5, hf⟩ := s_bind hf
    cases hf
    have k : _ = r := k
    subst k
    have le6 : s_le q10.2 q10.2 := s_le.rf
    refine lv_aload_n hx hb dX5_readUnit_10 rfl (lv_at hl 1 rfl) ?_
    refine lv_aload_n hx hb dX5_readUnit_11 rfl (lv_at hl 1 rfl) ?_
    refine r_gi X I fl_X5_23 h4 dX5_readUnit_12 ?_
    refine r_callV (Y := M_X5_fail) (v := some (.int q10.1)) X I w_725 my_X5_fail (by omega) (t_X5_fail (G := G) (d := d + 70) h5) (b_X5_fail h5) rfl rfl hl.1 rfl (Nat.le_of_ble_eq_true rfl) hn le6 dX5_readUnit_15 (fun H locs cells slots I hn1 hn2 => ?_)
    have I : s_I G q10.2 s H locs := I
    have hn : cells + σ0.2.1 ≤ q10.2.2.1 ∧ slots + σ0.2.2.1 ≤ q10.2.2.2.1 := ⟨hn1, hn2⟩
    exact r_iret X I rfl rfl rfl hn dX5_readUnit_18
  · refine lv_icmp_ne (tgt := 19) hx hb dX5_readUnit_7 (by decide) (fun _ => ?_) (fun n => absurd n c3)
    refine lv_iload_n hx hb dX5_readUnit_19 rfl (lv_at hl 0 rfl) ?_
    refine lv_bipush (v := 45) hx hb dX5_readUnit_20 (by decide) ?_
    rcases s_ite hf with ⟨c7, hf⟩ | ⟨c7, hf⟩
    · refine lv_icmp_ne (tgt := 32) hx hb dX5_readUnit_22 (by decide) (fun n => absurd c7 n) (fun _ => ?_)
      obtain ⟨q8, h8, hf⟩ := s_bind hf
      cases hf
      have k : _ = r := k
      subst k
      have le9 : s_le q8.2 q8.2 := s_le.rf
      refine lv_aload_n hx hb dX5_readUnit_25 rfl (lv_at hl 1 rfl) ?_
      refine lv_iload_n hx hb dX5_readUnit_26 rfl (lv_at hl 2 rfl) ?_
      refine lv_iload_n hx hb dX5_readUnit_27 rfl (lv_at hl 3 rfl) ?_
      refine r_callV (Y := M_X5_readNot) (v := some (.int q8.1)) X I w_729 my_X5_readNot (by omega) (hG_X5_readNot h8).1 (hG_X5_readNot h8).2 rfl rfl hl.1 rfl (Nat.le_of_ble_eq_true rfl) hn le9 dX5_readUnit_28 (fun H locs cells slots I hn1 hn2 => ?_)
      have I : s_I G q8.2 s H locs := I
      have hn : cells + σ0.2.1 ≤ q8.2.2.1 ∧ slots + σ0.2.2.1 ≤ q8.2.2.2.1 := ⟨hn1, hn2⟩
      exact r_iret X I rfl rfl rfl hn dX5_readUnit_31
    · refine lv_icmp_ne (tgt := 32) hx hb dX5_readUnit_22 (by decide) (fun _ => ?_) (fun n => absurd n c7)
      refine lv_iload_n hx hb dX5_readUnit_32 rfl (lv_at hl 0 rfl) ?_
      refine lv_bipush (v := 40) hx hb dX5_readUnit_33 (by decide) ?_
      rcases s_ite hf with ⟨c10, hf⟩ | ⟨c10, hf⟩
      · refine lv_icmp_ne (tgt := 45) hx hb dX5_readUnit_35 (by decide) (fun n => absurd c10 n) (fun _ => ?_)
        obtain ⟨q7, h11, hf⟩ := s_bind hf
        cases hf
        have k : _ = r := k
        subst k
        have le12 : s_le q7.2 q7.2 := s_le.rf
        refine lv_aload_n hx hb dX5_readUnit_38 rfl (lv_at hl 1 rfl) ?_
        refine lv_iload_n hx hb dX5_readUnit_39 rfl (lv_at hl 2 rfl) ?_
        refine lv_iload_n hx hb dX5_readUnit_40 rfl (lv_at hl 3 rfl) ?_
        refine r_callV (Y := M_X5_readInner) (v := some (.int q7.1)) X I w_769 my_X5_readInner (by omega) (hG_X5_readInner h11).1 (hG_X5_readInner h11).2 rfl rfl hl.1 rfl (Nat.le_of_ble_eq_true rfl) hn le12 dX5_readUnit_41 (fun H locs cells slots I hn1 hn2 => ?_)
        have I : s_I G q7.2 s H locs := I
        have hn : cells + σ0.2.1 ≤ q7.2.2.1 ∧ slots + σ0.2.2.1 ≤ q7.2.2.2.1 := ⟨hn1, hn2⟩
        exact r_iret X I rfl rfl rfl hn dX5_readUnit_44
      · refine lv_icmp_ne (tgt := 45) hx hb dX5_readUnit_35 (by decide) (fun _ => ?_) (fun n => absurd n c10)
        obtain ⟨x2, h13, hf⟩ := s_bind hf
        obtain ⟨q3, h14, hf⟩ := s_bind hf
        have le15 : s_le q3.2 (e_I r).2 := by
          refine s_lek hem_I ?_ k
          rcases s_ite hf with ⟨-, hf⟩ | ⟨-, hf⟩
          · obtain ⟨x4, -, hf⟩ := s_bind hf
            obtain ⟨q5, hh, hf⟩ := s_bind hf
            refine s_lz.tr (l_X5_fail hh) ?_
            cases hf
            exact s_le.rf
          · obtain ⟨q6, hh, hf⟩ := s_bind hf
            refine s_lz.tr (lG_X5_readWord hh) ?_
            cases hf
            exact s_le.rf
        refine lv_aload_n hx hb dX5_readUnit_45 rfl (lv_at hl 1 rfl) ?_
        refine lv_aload_n hx hb dX5_readUnit_46 rfl (lv_at hl 1 rfl) ?_
        refine r_gi X I fl_X5_29 h13 dX5_readUnit_47 ?_
        refine r_callV (Y := M_X5_isLetter) (v := some (.int q3.1)) X I w_773 my_X5_isLetter (by omega) (t_X5_isLetter (G := G) (d := d + 69) h14) (b_X5_isLetter h14) rfl rfl hl.1 rfl (Nat.le_of_ble_eq_true rfl) hn le15 dX5_readUnit_50 (fun H locs cells slots I hn1 hn2 => ?_)
        have I : s_I G q3.2 s H locs := I
        have hn : cells + σ0.2.1 ≤ q3.2.2.1 ∧ slots + σ0.2.2.1 ≤ q3.2.2.2.1 := ⟨hn1, hn2⟩
        rcases s_ite hf with ⟨c16, hf⟩ | ⟨c16, hf⟩
        · refine lv_if_eq (tgt := 63) hx hb dX5_readUnit_53 (by decide) (fun _ => ?_) (fun n => absurd c16 n)
          obtain ⟨x4, h17, hf⟩ := s_bind hf
          obtain ⟨q5, h18, hf⟩ := s_bind hf
          cases hf
          have k : _ = r := k
          subst k
          have le19 : s_le q5.2 q5.2 := s_le.rf
          refine lv_aload_n hx hb dX5_readUnit_63 rfl (lv_at hl 1 rfl) ?_
          refine lv_aload_n hx hb dX5_readUnit_64 rfl (lv_at hl 1 rfl) ?_
          refine r_gi X I fl_X5_29 h17 dX5_readUnit_65 ?_
          refine r_callV (Y := M_X5_fail) (v := some (.int q5.1)) X I w_725 my_X5_fail (by omega) (t_X5_fail (G := G) (d := d + 70) h18) (b_X5_fail h18) rfl rfl hl.1 rfl (Nat.le_of_ble_eq_true rfl) hn le19 dX5_readUnit_68 (fun H locs cells slots I hn1 hn2 => ?_)
          have I : s_I G q5.2 s H locs := I
          have hn : cells + σ0.2.1 ≤ q5.2.2.1 ∧ slots + σ0.2.2.1 ≤ q5.2.2.2.1 := ⟨hn1, hn2⟩
          exact r_iret X I rfl rfl rfl hn dX5_readUnit_71
        · refine lv_if_eq (tgt := 63) hx hb dX5_readUnit_53 (by decide) (fun n => absurd n c16) (fun _ => ?_)
          obtain ⟨q6, h20, hf⟩ := s_bind hf
          cases hf
          have k : _ = r := k
          subst k
          have le21 : s_le q6.2 q6.2 := s_le.rf
          refine lv_aload_n hx hb dX5_readUnit_56 rfl (lv_at hl 1 rfl) ?_
          refine lv_iload_n hx hb dX5_readUnit_57 rfl (lv_at hl 2 rfl) ?_
          refine lv_iload_n hx hb dX5_readUnit_58 rfl (lv_at hl 3 rfl) ?_
          refine r_callV (Y := M_X5_readWord) (v := some (.int q6.1)) X I w_777 my_X5_readWord (by omega) (hG_X5_readWord h20).1 (hG_X5_readWord h20).2 rfl rfl hl.1 rfl (Nat.le_of_ble_eq_true rfl) hn le21 dX5_readUnit_59 (fun H locs cells slots I hn1 hn2 => ?_)
          have I : s_I G q6.2 s H locs := I
          have hn : cells + σ0.2.1 ≤ q6.2.2.1 ∧ slots + σ0.2.2.1 ≤ q6.2.2.2.1 := ⟨hn1, hn2⟩
          exact r_iret X I rfl rfl rfl hn dX5_readUnit_62
theorem v_X5_readUnit (f_X5_readAnd : Nat → Int32 → Int32 → sS → Option (Int32 × sS)) (f_X5_readBinder : Nat → Int32 → Int32 → Int32 → Int32 → sS → Option (Int32 × sS)) (f_X5_readIf : Nat → Int32 → Int32 → sS → Option (Int32 × sS)) (f_X5_readInner : Nat → Int32 → Int32 → sS → Option (Int32 × sS)) (f_X5_readNot : Nat → Int32 → Int32 → sS → Option (Int32 × sS)) (f_X5_readOr : Nat → Int32 → Int32 → sS → Option (Int32 × sS)) (f_X5_readUnit : Nat → Int32 → Int32 → sS → Option (Int32 × sS)) (f_X5_readWord : Nat → Int32 → Int32 → sS → Option (Int32 × sS)) {G : sG} {d : Nat} (lG_X5_readAnd : ∀ {y0 : Nat} {y1 : Int32} {y2 : Int32} {σ : sS} {q : Int32 × sS}, f_X5_readAnd y0 y1 y2 σ = some q → s_le σ q.2) (lG_X5_readBinder : ∀ {y0 : Nat} {y1 : Int32} {y2 : Int32} {y3 : Int32} {y4 : Int32} {σ : sS} {q : Int32 × sS}, f_X5_readBinder y0 y1 y2 y3 y4 σ = some q → s_le σ q.2) (lG_X5_readIf : ∀ {y0 : Nat} {y1 : Int32} {y2 : Int32} {σ : sS} {q : Int32 × sS}, f_X5_readIf y0 y1 y2 σ = some q → s_le σ q.2) (lG_X5_readInner : ∀ {y0 : Nat} {y1 : Int32} {y2 : Int32} {σ : sS} {q : Int32 × sS}, f_X5_readInner y0 y1 y2 σ = some q → s_le σ q.2) (lG_X5_readNot : ∀ {y0 : Nat} {y1 : Int32} {y2 : Int32} {σ : sS} {q : Int32 × sS}, f_X5_readNot y0 y1 y2 σ = some q → s_le σ q.2) (lG_X5_readOr : ∀ {y0 : Nat} {y1 : Int32} {y2 : Int32} {σ : sS} {q : Int32 × sS}, f_X5_readOr y0 y1 y2 σ = some q → s_le σ q.2) (lG_X5_readUnit : ∀ {y0 : Nat} {y1 : Int32} {y2 : Int32} {σ : sS} {q : Int32 × sS}, f_X5_readUnit y0 y1 y2 σ = some q → s_le σ q.2) (lG_X5_readWord : ∀ {y0 : Nat} {y1 : Int32} {y2 : Int32} {σ : sS} {q : Int32 × sS}, f_X5_readWord y0 y1 y2 σ = some q → s_le σ q.2) (hG_X5_readAnd : ∀ {y0 : Nat} {y1 : Int32} {y2 : Int32} {σ : sS} {q : Int32 × sS}, f_X5_readAnd y0 y1 y2 σ = some q → s_T G (d + 71) M_X5_readAnd [.ref y0, .int y1, .int y2] σ (e_I q) ∧ ∃ fs, σ.1 y0 = some (.inr (5, fs))) (hG_X5_readBinder : ∀ {y0 : Nat} {y1 : Int32} {y2 : Int32} {y3 : Int32} {y4 : Int32} {σ : sS} {q : Int32 × sS}, f_X5_readBinder y0 y1 y2 y3 y4 σ = some q → s_T G (d + 71) M_X5_readBinder [.ref y0, .int y1, .int y2, .int y3, .int y4] σ (e_I q) ∧ ∃ fs, σ.1 y0 = some (.inr (5, fs))) (hG_X5_readIf : ∀ {y0 : Nat} {y1 : Int32} {y2 : Int32} {σ : sS} {q : Int32 × sS}, f_X5_readIf y0 y1 y2 σ = some q → s_T G (d + 71) M_X5_readIf [.ref y0, .int y1, .int y2] σ (e_I q) ∧ ∃ fs, σ.1 y0 = some (.inr (5, fs))) (hG_X5_readInner : ∀ {y0 : Nat} {y1 : Int32} {y2 : Int32} {σ : sS} {q : Int32 × sS}, f_X5_readInner y0 y1 y2 σ = some q → s_T G (d + 71) M_X5_readInner [.ref y0, .int y1, .int y2] σ (e_I q) ∧ ∃ fs, σ.1 y0 = some (.inr (5, fs))) (hG_X5_readNot : ∀ {y0 : Nat} {y1 : Int32} {y2 : Int32} {σ : sS} {q : Int32 × sS}, f_X5_readNot y0 y1 y2 σ = some q → s_T G (d + 71) M_X5_readNot [.ref y0, .int y1, .int y2] σ (e_I q) ∧ ∃ fs, σ.1 y0 = some (.inr (5, fs))) (hG_X5_readOr : ∀ {y0 : Nat} {y1 : Int32} {y2 : Int32} {σ : sS} {q : Int32 × sS}, f_X5_readOr y0 y1 y2 σ = some q → s_T G (d + 71) M_X5_readOr [.ref y0, .int y1, .int y2] σ (e_I q) ∧ ∃ fs, σ.1 y0 = some (.inr (5, fs))) (hG_X5_readUnit : ∀ {y0 : Nat} {y1 : Int32} {y2 : Int32} {σ : sS} {q : Int32 × sS}, f_X5_readUnit y0 y1 y2 σ = some q → s_T G (d + 71) M_X5_readUnit [.ref y0, .int y1, .int y2] σ (e_I q) ∧ ∃ fs, σ.1 y0 = some (.inr (5, fs))) (hG_X5_readWord : ∀ {y0 : Nat} {y1 : Int32} {y2 : Int32} {σ : sS} {q : Int32 × sS}, f_X5_readWord y0 y1 y2 σ = some q → s_T G (d + 71) M_X5_readWord [.ref y0, .int y1, .int y2] σ (e_I q) ∧ ∃ fs, σ.1 y0 = some (.inr (5, fs))) {vs0 : List Value} {σ0 : sS} {x : sL} {z : sZ Int32} {r : Int32 × sS} (hs : S_X5_readUnit f_X5_readAnd f_X5_readBinder f_X5_readIf f_X5_readInner f_X5_readNot f_X5_readOr f_X5_readUnit f_X5_readWord x = some z) (k : s_K G (d + 72) M_X5_readUnit vs0 σ0 Y_X5_readUnit e_I z r) : s_V G (d + 72) M_X5_readUnit vs0 σ0 Y_X5_readUnit x (e_I r) := by
  obtain ⟨pc, vs, σ⟩ := x
  unfold S_X5_readUnit at hs
  dsimp only at hs
  rcases s_ite hs with ⟨c, hs⟩ | ⟨-, hs⟩
  · subst c
    unfold U_X5_readUnit_0 at hs
    obtain ⟨a0, g0, hs⟩ := s_bind hs
    obtain ⟨a1, g1, hs⟩ := s_bind hs
    obtain ⟨a2, g2, hs⟩ := s_bind hs
    obtain ⟨u9, ge, hs⟩ := s_bind hs
    rw [g_r_to g0, g_i_to g1, g_i_to g2, g_e_to ge]
    exact v_X5_readUnit_0 f_X5_readAnd f_X5_readBinder f_X5_readIf f_X5_readInner f_X5_readNot f_X5_readOr f_X5_readUnit f_X5_readWord lG_X5_readAnd lG_X5_readBinder lG_X5_readIf lG_X5_readInner lG_X5_readNot lG_X5_readOr lG_X5_readUnit lG_X5_readWord hG_X5_readAnd hG_X5_readBinder hG_X5_readIf hG_X5_readInner hG_X5_readNot hG_X5_readOr hG_X5_readUnit hG_X5_readWord hs k
  cases hs
theorem l_X5_readWord_0 (f_X5_readAnd : Nat → Int32 → Int32 → sS → Option (Int32 × sS)) (f_X5_readBinder : Nat → Int32 → Int32 → Int32 → Int32 → sS → Option (Int32 × sS)) (f_X5_readIf : Nat → Int32 → Int32 → sS → Option (Int32 × sS)) (f_X5_readInner : Nat → Int32 → Int32 → sS → Option (Int32 × sS)) (f_X5_readNot : Nat → Int32 → Int32 → sS → Option (Int32 × sS)) (f_X5_readOr : Nat → Int32 → Int32 → sS → Option (Int32 × sS)) (f_X5_readUnit : Nat → Int32 → Int32 → sS → Option (Int32 × sS)) (f_X5_readWord : Nat → Int32 → Int32 → sS → Option (Int32 × sS)) (lG_X5_readAnd : ∀ {y0 : Nat} {y1 : Int32} {y2 : Int32} {σ : sS} {q : Int32 × sS}, f_X5_readAnd y0 y1 y2 σ = some q → s_le σ q.2) (lG_X5_readBinder : ∀ {y0 : Nat} {y1 : Int32} {y2 : Int32} {y3 : Int32} {y4 : Int32} {σ : sS} {q : Int32 × sS}, f_X5_readBinder y0 y1 y2 y3 y4 σ = some q → s_le σ q.2) (lG_X5_readIf : ∀ {y0 : Nat} {y1 : Int32} {y2 : Int32} {σ : sS} {q : Int32 × sS}, f_X5_readIf y0 y1 y2 σ = some q → s_le σ q.2) (lG_X5_readInner : ∀ {y0 : Nat} {y1 : Int32} {y2 : Int32} {σ : sS} {q : Int32 × sS}, f_X5_readInner y0 y1 y2 σ = some q → s_le σ q.2) (lG_X5_readNot : ∀ {y0 : Nat} {y1 : Int32} {y2 : Int32} {σ : sS} {q : Int32 × sS}, f_X5_readNot y0 y1 y2 σ = some q → s_le σ q.2) (lG_X5_readOr : ∀ {y0 : Nat} {y1 : Int32} {y2 : Int32} {σ : sS} {q : Int32 × sS}, f_X5_readOr y0 y1 y2 σ = some q → s_le σ q.2) (lG_X5_readUnit : ∀ {y0 : Nat} {y1 : Int32} {y2 : Int32} {σ : sS} {q : Int32 × sS}, f_X5_readUnit y0 y1 y2 σ = some q → s_le σ q.2) (lG_X5_readWord : ∀ {y0 : Nat} {y1 : Int32} {y2 : Int32} {σ : sS} {q : Int32 × sS}, f_X5_readWord y0 y1 y2 σ = some q → s_le σ q.2) {v0 : Nat} {v1 : Int32} {v2 : Int32} {σ : sS} {z : sZ Int32} (hf : T_X5_readWord_0 f_X5_readAnd f_X5_readBinder f_X5_readIf f_X5_readInner f_X5_readNot f_X5_readOr f_X5_readUnit f_X5_readWord v0 v1 v2 σ = some z) : s_lz σ z := by
  unfold T_X5_readWord_0 at hf
  obtain ⟨x1, -, hf⟩ := s_bind hf
  obtain ⟨q2, hh, hf⟩ := s_bind hf
  refine s_lz.tr (l_X5_wordEnd hh) ?_
  obtain ⟨q3, hh, hf⟩ := s_bind hf
  refine s_lz.tr (l_X5_isWord hh) ?_
  rcases s_ite hf with ⟨-, hf⟩ | ⟨-, hf⟩
  · obtain ⟨q4, hh, hf⟩ := s_bind hf
    refine s_lz.tr (l_X5_isWord hh) ?_
    rcases s_ite hf with ⟨-, hf⟩ | ⟨-, hf⟩
    · rcases s_ite hf with ⟨-, hf⟩ | ⟨-, hf⟩
      · obtain ⟨q7, hh, hf⟩ := s_bind hf
        refine s_lz.tr (l_X5_byteAt hh) ?_
        obtain ⟨q8, hh, hf⟩ := s_bind hf
        refine s_lz.tr (l_X5_readShort hh) ?_
        cases hf
        exact s_le.rf
      · obtain ⟨q5, hh, hf⟩ := s_bind hf
        refine s_lz.tr (l_X5_isWord hh) ?_
        rcases s_ite hf with ⟨-, hf⟩ | ⟨-, hf⟩
        · obtain ⟨q6, hh, hf⟩ := s_bind hf
          refine s_lz.tr (l_X5_isWord hh) ?_
          rcases s_ite hf with ⟨-, hf⟩ | ⟨-, hf⟩
          · cases hf
            exact s_le.rf
          · cases hf
            exact s_le.rf
        · cases hf
          exact s_le.rf
    · obtain ⟨q9, hh, hf⟩ := s_bind hf
      refine s_lz.tr (lG_X5_readBinder hh) ?_
      cases hf
      exact s_le.rf
  · obtain ⟨q10, hh, hf⟩ := s_bind hf
    refine s_lz.tr (lG_X5_readBinder hh) ?_
    cases hf
    exact s_le.rf
theorem l_X5_readWord_98 (f_X5_readAnd : Nat → Int32 → Int32 → sS → Option (Int32 × sS)) (f_X5_readBinder : Nat → Int32 → Int32 → Int32 → Int32 → sS → Option (Int32 × sS)) (f_X5_readIf : Nat → Int32 → Int32 → sS → Option (Int32 × sS)) (f_X5_readInner : Nat → Int32 → Int32 → sS → Option (Int32 × sS)) (f_X5_readNot : Nat → Int32 → Int32 → sS → Option (Int32 × sS)) (f_X5_readOr : Nat → Int32 → Int32 → sS → Option (Int32 × sS)) (f_X5_readUnit : Nat → Int32 → Int32 → sS → Option (Int32 × sS)) (f_X5_readWord : Nat → Int32 → Int32 → sS → Option (Int32 × sS)) (lG_X5_readAnd : ∀ {y0 : Nat} {y1 : Int32} {y2 : Int32} {σ : sS} {q : Int32 × sS}, f_X5_readAnd y0 y1 y2 σ = some q → s_le σ q.2) (lG_X5_readBinder : ∀ {y0 : Nat} {y1 : Int32} {y2 : Int32} {y3 : Int32} {y4 : Int32} {σ : sS} {q : Int32 × sS}, f_X5_readBinder y0 y1 y2 y3 y4 σ = some q → s_le σ q.2) (lG_X5_readIf : ∀ {y0 : Nat} {y1 : Int32} {y2 : Int32} {σ : sS} {q : Int32 × sS}, f_X5_readIf y0 y1 y2 σ = some q → s_le σ q.2) (lG_X5_readInner : ∀ {y0 : Nat} {y1 : Int32} {y2 : Int32} {σ : sS} {q : Int32 × sS}, f_X5_readInner y0 y1 y2 σ = some q → s_le σ q.2) (lG_X5_readNot : ∀ {y0 : Nat} {y1 : Int32} {y2 : Int32} {σ : sS} {q : Int32 × sS}, f_X5_readNot y0 y1 y2 σ = some q → s_le σ q.2) (lG_X5_readOr : ∀ {y0 : Nat} {y1 : Int32} {y2 : Int32} {σ : sS} {q : Int32 × sS}, f_X5_readOr y0 y1 y2 σ = some q → s_le σ q.2) (lG_X5_readUnit : ∀ {y0 : Nat} {y1 : Int32} {y2 : Int32} {σ : sS} {q : Int32 × sS}, f_X5_readUnit y0 y1 y2 σ = some q → s_le σ q.2) (lG_X5_readWord : ∀ {y0 : Nat} {y1 : Int32} {y2 : Int32} {σ : sS} {q : Int32 × sS}, f_X5_readWord y0 y1 y2 σ = some q → s_le σ q.2) {v0 : Nat} {v2 : Int32} {v3 : Int32} {v4 : Int32} {σ : sS} {z : sZ Int32} (hf : T_X5_readWord_98 f_X5_readAnd f_X5_readBinder f_X5_readIf f_X5_readInner f_X5_readNot f_X5_readOr f_X5_readUnit f_X5_readWord v0 v2 v3 v4 σ = some z) : s_lz σ z := by
  unfold T_X5_readWord_98 at hf
  cases hf
  exact s_le.rf
theorem l_X5_readWord_103 (f_X5_readAnd : Nat → Int32 → Int32 → sS → Option (Int32 × sS)) (f_X5_readBinder : Nat → Int32 → Int32 → Int32 → Int32 → sS → Option (Int32 × sS)) (f_X5_readIf : Nat → Int32 → Int32 → sS → Option (Int32 × sS)) (f_X5_readInner : Nat → Int32 → Int32 → sS → Option (Int32 × sS)) (f_X5_readNot : Nat → Int32 → Int32 → sS → Option (Int32 × sS)) (f_X5_readOr : Nat → Int32 → Int32 → sS → Option (Int32 × sS)) (f_X5_readUnit : Nat → Int32 → Int32 → sS → Option (Int32 × sS)) (f_X5_readWord : Nat → Int32 → Int32 → sS → Option (Int32 × sS)) (lG_X5_readAnd : ∀ {y0 : Nat} {y1 : Int32} {y2 : Int32} {σ : sS} {q : Int32 × sS}, f_X5_readAnd y0 y1 y2 σ = some q → s_le σ q.2) (lG_X5_readBinder : ∀ {y0 : Nat} {y1 : Int32} {y2 : Int32} {y3 : Int32} {y4 : Int32} {σ : sS} {q : Int32 × sS}, f_X5_readBinder y0 y1 y2 y3 y4 σ = some q → s_le σ q.2) (lG_X5_readIf : ∀ {y0 : Nat} {y1 : Int32} {y2 : Int32} {σ : sS} {q : Int32 × sS}, f_X5_readIf y0 y1 y2 σ = some q → s_le σ q.2) (lG_X5_readInner : ∀ {y0 : Nat} {y1 : Int32} {y2 : Int32} {σ : sS} {q : Int32 × sS}, f_X5_readInner y0 y1 y2 σ = some q → s_le σ q.2) (lG_X5_readNot : ∀ {y0 : Nat} {y1 : Int32} {y2 : Int32} {σ : sS} {q : Int32 × sS}, f_X5_readNot y0 y1 y2 σ = some q → s_le σ q.2) (lG_X5_readOr : ∀ {y0 : Nat} {y1 : Int32} {y2 : Int32} {σ : sS} {q : Int32 × sS}, f_X5_readOr y0 y1 y2 σ = some q → s_le σ q.2) (lG_X5_readUnit : ∀ {y0 : Nat} {y1 : Int32} {y2 : Int32} {σ : sS} {q : Int32 × sS}, f_X5_readUnit y0 y1 y2 σ = some q → s_le σ q.2) (lG_X5_readWord : ∀ {y0 : Nat} {y1 : Int32} {y2 : Int32} {σ : sS} {q : Int32 × sS}, f_X5_readWord y0 y1 y2 σ = some q → s_le σ q.2) {v0 : Nat} {v2 : Int32} {v3 : Int32} {v4 : Int32} {w0 : Int32} {σ : sS} {z : sZ Int32} (hf : T_X5_readWord_103 f_X5_readAnd f_X5_readBinder f_X5_readIf f_X5_readInner f_X5_readNot f_X5_readOr f_X5_readUnit f_X5_readWord v0 v2 v3 v4 w0 σ = some z) : s_lz σ z := by
  unfold T_X5_readWord_103 at hf
  rcases s_ite hf with ⟨-, hf⟩ | ⟨-, hf⟩
  · cases hf
    exact s_le.rf
  · rcases s_ite hf with ⟨-, hf⟩ | ⟨-, hf⟩
    · cases hf
      exact s_le.rf
    · obtain ⟨q1, hh, hf⟩ := s_bind hf
      refine s_lz.tr (l_X5_mayTakeSign hh) ?_
      rcases s_ite hf with ⟨-, hf⟩ | ⟨-, hf⟩
      · cases hf
        exact s_le.rf
      · obtain ⟨σ2, hh, hf⟩ := s_bind hf
        refine s_lz.tr (s_le2 (s_pf_2 hh)) ?_
        obtain ⟨x3, -, hf⟩ := s_bind hf
        obtain ⟨q4, hh, hf⟩ := s_bind hf
        refine s_lz.tr (l_X5_byteAt hh) ?_
        obtain ⟨q5, hh, hf⟩ := s_bind hf
        refine s_lz.tr (l_X5_letterOf hh) ?_
        obtain ⟨q6, hh, hf⟩ := s_bind hf
        refine s_lz.tr (l_X2_makeAtom hh) ?_
        cases hf
        exact s_le.rf
theorem l_X5_readWord_122 (f_X5_readAnd : Nat → Int32 → Int32 → sS → Option (Int32 × sS)) (f_X5_readBinder : Nat → Int32 → Int32 → Int32 → Int32 → sS → Option (Int32 × sS)) (f_X5_readIf : Nat → Int32 → Int32 → sS → Option (Int32 × sS)) (f_X5_readInner : Nat → Int32 → Int32 → sS → Option (Int32 × sS)) (f_X5_readNot : Nat → Int32 → Int32 → sS → Option (Int32 × sS)) (f_X5_readOr : Nat → Int32 → Int32 → sS → Option (Int32 × sS)) (f_X5_readUnit : Nat → Int32 → Int32 → sS → Option (Int32 × sS)) (f_X5_readWord : Nat → Int32 → Int32 → sS → Option (Int32 × sS)) (lG_X5_readAnd : ∀ {y0 : Nat} {y1 : Int32} {y2 : Int32} {σ : sS} {q : Int32 × sS}, f_X5_readAnd y0 y1 y2 σ = some q → s_le σ q.2) (lG_X5_readBinder : ∀ {y0 : Nat} {y1 : Int32} {y2 : Int32} {y3 : Int32} {y4 : Int32} {σ : sS} {q : Int32 × sS}, f_X5_readBinder y0 y1 y2 y3 y4 σ = some q → s_le σ q.2) (lG_X5_readIf : ∀ {y0 : Nat} {y1 : Int32} {y2 : Int32} {σ : sS} {q : Int32 × sS}, f_X5_readIf y0 y1 y2 σ = some q → s_le σ q.2) (lG_X5_readInner : ∀ {y0 : Nat} {y1 : Int32} {y2 : Int32} {σ : sS} {q : Int32 × sS}, f_X5_readInner y0 y1 y2 σ = some q → s_le σ q.2) (lG_X5_readNot : ∀ {y0 : Nat} {y1 : Int32} {y2 : Int32} {σ : sS} {q : Int32 × sS}, f_X5_readNot y0 y1 y2 σ = some q → s_le σ q.2) (lG_X5_readOr : ∀ {y0 : Nat} {y1 : Int32} {y2 : Int32} {σ : sS} {q : Int32 × sS}, f_X5_readOr y0 y1 y2 σ = some q → s_le σ q.2) (lG_X5_readUnit : ∀ {y0 : Nat} {y1 : Int32} {y2 : Int32} {σ : sS} {q : Int32 × sS}, f_X5_readUnit y0 y1 y2 σ = some q → s_le σ q.2) (lG_X5_readWord : ∀ {y0 : Nat} {y1 : Int32} {y2 : Int32} {σ : sS} {q : Int32 × sS}, f_X5_readWord y0 y1 y2 σ = some q → s_le σ q.2) {v0 : Nat} {v3 : Int32} {σ : sS} {z : sZ Int32} (hf : T_X5_readWord_122 f_X5_readAnd f_X5_readBinder f_X5_readIf f_X5_readInner f_X5_readNot f_X5_readOr f_X5_readUnit f_X5_readWord v0 v3 σ = some z) : s_lz σ z := by
  unfold T_X5_readWord_122 at hf
  obtain ⟨q1, hh, hf⟩ := s_bind hf
  refine s_lz.tr (l_X5_fail hh) ?_
  cases hf
  exact s_le.rf
theorem l_X5_readWord_s (f_X5_readAnd : Nat → Int32 → Int32 → sS → Option (Int32 × sS)) (f_X5_readBinder : Nat → Int32 → Int32 → Int32 → Int32 → sS → Option (Int32 × sS)) (f_X5_readIf : Nat → Int32 → Int32 → sS → Option (Int32 × sS)) (f_X5_readInner : Nat → Int32 → Int32 → sS → Option (Int32 × sS)) (f_X5_readNot : Nat → Int32 → Int32 → sS → Option (Int32 × sS)) (f_X5_readOr : Nat → Int32 → Int32 → sS → Option (Int32 × sS)) (f_X5_readUnit : Nat → Int32 → Int32 → sS → Option (Int32 × sS)) (f_X5_readWord : Nat → Int32 → Int32 → sS → Option (Int32 × sS)) (lG_X5_readAnd : ∀ {y0 : Nat} {y1 : Int32} {y2 : Int32} {σ : sS} {q : Int32 × sS}, f_X5_readAnd y0 y1 y2 σ = some q → s_le σ q.2) (lG_X5_readBinder : ∀ {y0 : Nat} {y1 : Int32} {y2 : Int32} {y3 : Int32} {y4 : Int32} {σ : sS} {q : Int32 × sS}, f_X5_readBinder y0 y1 y2 y3 y4 σ = some q → s_le σ q.2) (lG_X5_readIf : ∀ {y0 : Nat} {y1 : Int32} {y2 : Int32} {σ : sS} {q : Int32 × sS}, f_X5_readIf y0 y1 y2 σ = some q → s_le σ q.2) (lG_X5_readInner : ∀ {y0 : Nat} {y1 : Int32} {y2 : Int32} {σ : sS} {q : Int32 × sS}, f_X5_readInner y0 y1 y2 σ = some q → s_le σ q.2) (lG_X5_readNot : ∀ {y0 : Nat} {y1 : Int32} {y2 : Int32} {σ : sS} {q : Int32 × sS}, f_X5_readNot y0 y1 y2 σ = some q → s_le σ q.2) (lG_X5_readOr : ∀ {y0 : Nat} {y1 : Int32} {y2 : Int32} {σ : sS} {q : Int32 × sS}, f_X5_readOr y0 y1 y2 σ = some q → s_le σ q.2) (lG_X5_readUnit : ∀ {y0 : Nat} {y1 : Int32} {y2 : Int32} {σ : sS} {q : Int32 × sS}, f_X5_readUnit y0 y1 y2 σ = some q → s_le σ q.2) (lG_X5_readWord : ∀ {y0 : Nat} {y1 : Int32} {y2 : Int32} {σ : sS} {q : Int32 × sS}, f_X5_readWord y0 y1 y2 σ = some q → s_le σ q.2) {x : sL} {z : sZ Int32} (hs : S_X5_readWord f_X5_readAnd f_X5_readBinder f_X5_readIf f_X5_readInner f_X5_readNot f_X5_readOr f_X5_readUnit f_X5_readWord x = some z) : s_lz x.2.2 z := by
  obtain ⟨pc, vs, σ⟩ := x
  unfold S_X5_readWord at hs
  dsimp only at hs ⊢
  rcases s_ite hs with ⟨c, hs⟩ | ⟨-, hs⟩
  · subst c
    unfold U_X5_readWord_0 at hs
    obtain ⟨a0, g0, hs⟩ := s_bind hs
    obtain ⟨a1, g1, hs⟩ := s_bind hs
    obtain ⟨a2, g2, hs⟩ := s_bind hs
    obtain ⟨u9, ge, hs⟩ := s_bind hs
    exact l_X5_readWord_0 f_X5_readAnd f_X5_readBinder f_X5_readIf f_X5_readInner f_X5_readNot f_X5_readOr f_X5_readUnit f_X5_readWord lG_X5_readAnd lG_X5_readBinder lG_X5_readIf lG_X5_readInner lG_X5_readNot lG_X5_readOr lG_X5_readUnit lG_X5_readWord hs
  rcases s_ite hs with ⟨c, hs⟩ | ⟨-, hs⟩
  · subst c
    unfold U_X5_readWord_98 at hs
    obtain ⟨a0, g0, hs⟩ := s_bind hs
    obtain ⟨a1, g1, hs⟩ := s_bind hs
    obtain ⟨a2, g2, hs⟩ := s_bind hs
    obtain ⟨a3, g3, hs⟩ := s_bind hs
    obtain ⟨u9, ge, hs⟩ := s_bind hs
    exact l_X5_readWord_98 f_X5_readAnd f_X5_readBinder f_X5_readIf f_X5_readInner f_X5_readNot f_X5_readOr f_X5_readUnit f_X5_readWord lG_X5_readAnd lG_X5_readBinder lG_X5_readIf lG_X5_readInner lG_X5_readNot lG_X5_readOr lG_X5_readUnit lG_X5_readWord hs
  rcases s_ite hs with ⟨c, hs⟩ | ⟨-, hs⟩
  · subst c
    unfold U_X5_readWord_103 at hs
    obtain ⟨a0, g0, hs⟩ := s_bind hs
    obtain ⟨a1, g1, hs⟩ := s_bind hs
    obtain ⟨a2, g2, hs⟩ := s_bind hs
    obtain ⟨a3, g3, hs⟩ := s_bind hs
    obtain ⟨a4, g4, hs⟩ := s_bind hs
    obtain ⟨u9, ge, hs⟩ := s_bind hs
    exact l_X5_readWord_103 f_X5_readAnd f_X5_readBinder f_X5_readIf f_X5_readInner f_X5_readNot f_X5_readOr f_X5_readUnit f_X5_readWord lG_X5_readAnd lG_X5_readBinder lG_X5_readIf lG_X5_readInner lG_X5_readNot lG_X5_readOr lG_X5_readUnit lG_X5_readWord hs
  rcases s_ite hs with ⟨c, hs⟩ | ⟨-, hs⟩
  · subst c
    unfold U_X5_readWord_122 at hs
    obtain ⟨a0, g0, hs⟩ := s_bind hs
    obtain ⟨a1, g1, hs⟩ := s_bind hs
    obtain ⟨u9, ge, hs⟩ := s_bind hs
    exact l_X5_readWord_122 f_X5_readAnd f_X5_readBinder f_X5_readIf f_X5_readInner f_X5_readNot f_X5_readOr f_X5_readUnit f_X5_readWord lG_X5_readAnd lG_X5_readBinder lG_X5_readIf lG_X5_readInner lG_X5_readNot lG_X5_readOr lG_X5_readUnit lG_X5_readWord hs
  cases hs
set_option maxRecDepth 100000 in
set_option maxHeartbeats 4000000 in
theorem v_X5_readWord_0 (f_X5_readAnd : Nat → Int32 → Int32 → sS → Option (Int32 × sS)) (f_X5_readBinder : Nat → Int32 → Int32 → Int32 → Int32 → sS → Option (Int32 × sS)) (f_X5_readIf : Nat → Int32 → Int32 → sS → Option (Int32 × sS)) (f_X5_readInner : Nat → Int32 → Int32 → sS → Option (Int32 × sS)) (f_X5_readNot : Nat → Int32 → Int32 → sS → Option (Int32 × sS)) (f_X5_readOr : Nat → Int32 → Int32 → sS → Option (Int32 × sS)) (f_X5_readUnit : Nat → Int32 → Int32 → sS → Option (Int32 × sS)) (f_X5_readWord : Nat → Int32 → Int32 → sS → Option (Int32 × sS)) {G : sG} {d : Nat} (lG_X5_readAnd : ∀ {y0 : Nat} {y1 : Int32} {y2 : Int32} {σ : sS} {q : Int32 × sS}, f_X5_readAnd y0 y1 y2 σ = some q → s_le σ q.2) (lG_X5_readBinder : ∀ {y0 : Nat} {y1 : Int32} {y2 : Int32} {y3 : Int32} {y4 : Int32} {σ : sS} {q : Int32 × sS}, f_X5_readBinder y0 y1 y2 y3 y4 σ = some q → s_le σ q.2) (lG_X5_readIf : ∀ {y0 : Nat} {y1 : Int32} {y2 : Int32} {σ : sS} {q : Int32 × sS}, f_X5_readIf y0 y1 y2 σ = some q → s_le σ q.2) (lG_X5_readInner : ∀ {y0 : Nat} {y1 : Int32} {y2 : Int32} {σ : sS} {q : Int32 × sS}, f_X5_readInner y0 y1 y2 σ = some q → s_le σ q.2) (lG_X5_readNot : ∀ {y0 : Nat} {y1 : Int32} {y2 : Int32} {σ : sS} {q : Int32 × sS}, f_X5_readNot y0 y1 y2 σ = some q → s_le σ q.2) (lG_X5_readOr : ∀ {y0 : Nat} {y1 : Int32} {y2 : Int32} {σ : sS} {q : Int32 × sS}, f_X5_readOr y0 y1 y2 σ = some q → s_le σ q.2) (lG_X5_readUnit : ∀ {y0 : Nat} {y1 : Int32} {y2 : Int32} {σ : sS} {q : Int32 × sS}, f_X5_readUnit y0 y1 y2 σ = some q → s_le σ q.2) (lG_X5_readWord : ∀ {y0 : Nat} {y1 : Int32} {y2 : Int32} {σ : sS} {q : Int32 × sS}, f_X5_readWord y0 y1 y2 σ = some q → s_le σ q.2) (hG_X5_readAnd : ∀ {y0 : Nat} {y1 : Int32} {y2 : Int32} {σ : sS} {q : Int32 × sS}, f_X5_readAnd y0 y1 y2 σ = some q → s_T G (d + 71) M_X5_readAnd [.ref y0, .int y1, .int y2] σ (e_I q) ∧ ∃ fs, σ.1 y0 = some (.inr (5, fs))) (hG_X5_readBinder : ∀ {y0 : Nat} {y1 : Int32} {y2 : Int32} {y3 : Int32} {y4 : Int32} {σ : sS} {q : Int32 × sS}, f_X5_readBinder y0 y1 y2 y3 y4 σ = some q → s_T G (d + 71) M_X5_readBinder [.ref y0, .int y1, .int y2, .int y3, .int y4] σ (e_I q) ∧ ∃ fs, σ.1 y0 = some (.inr (5, fs))) (hG_X5_readIf : ∀ {y0 : Nat} {y1 : Int32} {y2 : Int32} {σ : sS} {q : Int32 × sS}, f_X5_readIf y0 y1 y2 σ = some q → s_T G (d + 71) M_X5_readIf [.ref y0, .int y1, .int y2] σ (e_I q) ∧ ∃ fs, σ.1 y0 = some (.inr (5, fs))) (hG_X5_readInner : ∀ {y0 : Nat} {y1 : Int32} {y2 : Int32} {σ : sS} {q : Int32 × sS}, f_X5_readInner y0 y1 y2 σ = some q → s_T G (d + 71) M_X5_readInner [.ref y0, .int y1, .int y2] σ (e_I q) ∧ ∃ fs, σ.1 y0 = some (.inr (5, fs))) (hG_X5_readNot : ∀ {y0 : Nat} {y1 : Int32} {y2 : Int32} {σ : sS} {q : Int32 × sS}, f_X5_readNot y0 y1 y2 σ = some q → s_T G (d + 71) M_X5_readNot [.ref y0, .int y1, .int y2] σ (e_I q) ∧ ∃ fs, σ.1 y0 = some (.inr (5, fs))) (hG_X5_readOr : ∀ {y0 : Nat} {y1 : Int32} {y2 : Int32} {σ : sS} {q : Int32 × sS}, f_X5_readOr y0 y1 y2 σ = some q → s_T G (d + 71) M_X5_readOr [.ref y0, .int y1, .int y2] σ (e_I q) ∧ ∃ fs, σ.1 y0 = some (.inr (5, fs))) (hG_X5_readUnit : ∀ {y0 : Nat} {y1 : Int32} {y2 : Int32} {σ : sS} {q : Int32 × sS}, f_X5_readUnit y0 y1 y2 σ = some q → s_T G (d + 71) M_X5_readUnit [.ref y0, .int y1, .int y2] σ (e_I q) ∧ ∃ fs, σ.1 y0 = some (.inr (5, fs))) (hG_X5_readWord : ∀ {y0 : Nat} {y1 : Int32} {y2 : Int32} {σ : sS} {q : Int32 × sS}, f_X5_readWord y0 y1 y2 σ = some q → s_T G (d + 71) M_X5_readWord [.ref y0, .int y1, .int y2] σ (e_I q) ∧ ∃ fs, σ.1 y0 = some (.inr (5, fs))) {vs0 : List Value} {σ0 : sS} {v0 : Nat} {v1 : Int32} {v2 : Int32} {σ : sS} {z : sZ Int32} {r : Int32 × sS} (hf : T_X5_readWord_0 f_X5_readAnd f_X5_readBinder f_X5_readIf f_X5_readInner f_X5_readNot f_X5_readOr f_X5_readUnit f_X5_readWord v0 v1 v2 σ = some z) (k : s_K G (d + 72) M_X5_readWord vs0 σ0 Y_X5_readWord e_I z r) : s_V G (d + 72) M_X5_readWord vs0 σ0 Y_X5_readWord (0, [.ref v0, .int v1, .int v2], σ) (e_I r) := by
  have le0 : s_le σ (e_I r).2 := s_lek hem_I (l_X5_readWord_0 f_X5_readAnd f_X5_readBinder f_X5_readIf f_X5_readInner f_X5_readNot f_X5_readOr f_X5_readUnit f_X5_readWord lG_X5_readAnd lG_X5_readBinder lG_X5_readIf lG_X5_readInner lG_X5_readNot lG_X5_readOr lG_X5_readUnit lG_X5_readWord hf) k
  refine ⟨le0, ?_⟩
  intro p e s m below meth c H locs cells slots ls X I hn1 hn2 hl
  have hn : cells + σ0.2.1 ≤ σ.2.1 ∧ slots + σ0.2.2.1 ≤ σ.2.2.1 := ⟨hn1, hn2⟩
  have hl : lv_has ls 6 [(0, .ref v0), (1, .int v1), (2, .int v2)] := hl
  have hx := X.1
  have hb : c.code = cX5_readWord := X.2.1
  have hown : s.vm.findClass RX5 = some m.cls := X.2.2.2.2.2.1
  have hts := X.2.2.2.2.2.2.1
  refine W.eq (g2 := F0 m 0 ls []) rfl ?_
  unfold T_X5_readWord_0 at hf
  obtain ⟨x1, h1, hf⟩ := s_bind hf
  obtain ⟨q2, h2, hf⟩ := s_bind hf
  obtain ⟨q3, h3, hf⟩ := s_bind hf
  have le4 : s_le q3.2 (e_I r).2 := by
    refine s_lek hem_I ?_ k
    rcases s_ite hf with ⟨-, hf⟩ | ⟨-, hf⟩
    · obtain ⟨q4, hh, hf⟩ := s_bind hf
      refine s_lz.tr (l_X5_isWord hh) ?_
      rcases s_ite hf with ⟨-, hf⟩ | ⟨-, hf⟩
      · rcases s_ite hf with ⟨-, hf⟩ | ⟨-, hf⟩
        · obtain ⟨q7, hh, hf⟩ := s_bind hf
          refine s_lz.tr (l_X5_byteAt hh) ?_
          obtain ⟨q8, hh, hf⟩ := s_bind hf
          refine s_lz.tr (l_X5_readShort hh) ?_
          cases hf
          exact s_le.rf
        · obtain ⟨q5, hh, hf⟩ := s_bind hf
          refine s_lz.tr (l_X5_isWord hh) ?_
          rcases s_ite hf with ⟨-, hf⟩ | ⟨-, hf⟩
          · obtain ⟨q6, hh, hf⟩ := s_bind hf
            refine s_lz.tr (l_X5_isWord hh) ?_
            rcases s_ite hf with ⟨-, hf⟩ | ⟨-, hf⟩
            · cases hf
              exact s_le.rf
            · cases hf
              exact s_le.rf
          · cases hf
            exact s_le.rf
      · obtain ⟨q9, hh, hf⟩ := s_bind hf
        refine s_lz.tr (lG_X5_readBinder hh) ?_
        cases hf
        exact s_le.rf
    · obtain ⟨q10, hh, hf⟩ := s_bind hf
      refine s_lz.tr (lG_X5_readBinder hh) ?_
      cases hf
      exact s_le.rf
  have le5 := s_le.tr (l_X5_isWord h3) le4
  refine lv_aload_n hx hb dX5_readWord_0 rfl (lv_at hl 0 rfl) ?_
  refine r_gi X I fl_X5_29 h1 dX5_readWord_1 ?_
  refine lv_istore_n (lv' := [(3, .int x1), (0, .ref v0), (1, .int v1), (2, .int v2)]) hx hb dX5_readWord_4 rfl hl (by decide) rfl (fun ls hl => ?_)
  refine lv_aload_n hx hb dX5_readWord_5 rfl (lv_at hl 1 rfl) ?_
  refine r_callV (Y := M_X5_wordEnd) (v := some (.int q2.1)) X I w_781 my_X5_wordEnd (by omega) (t_X5_wordEnd (G := G) (d := d + 68) h2) (b_X5_wordEnd h2) rfl rfl hl.1 rfl (Nat.le_of_ble_eq_true rfl) hn le5 dX5_readWord_6 (fun H locs cells slots I hn1 hn2 => ?_)
  have I : s_I G q2.2 s H locs := I
  have hn : cells + σ0.2.1 ≤ q2.2.2.1 ∧ slots + σ0.2.2.1 ≤ q2.2.2.2.1 := ⟨hn1, hn2⟩
  refine lv_istore (lv' := [(4, .int q2.1), (3, .int x1), (0, .ref v0), (1, .int v1), (2, .int v2)]) hx hb dX5_readWord_9 hl (by decide) rfl (fun ls hl => ?_)
  refine lv_aload_n hx hb dX5_readWord_11 rfl (lv_at hl 2 rfl) ?_
  refine lv_iload_n hx hb dX5_readWord_12 rfl (lv_at hl 1 rfl) ?_
  refine lv_iload hx hb dX5_readWord_13 (lv_at hl 0 rfl) ?_
  refine r_ldcS (tx := "all") (k := 2) X I (by decide +kernel) dX5_readWord_15 ?_
  refine r_callV (Y := M_X5_isWord) (v := some (.int q3.1)) X I w_786 my_X5_isWord (by omega) (t_X5_isWord (G := G) (d := d + 65) h3) (b_X5_isWord h3) rfl rfl hl.1 rfl (Nat.le_of_ble_eq_true rfl) hn le4 dX5_readWord_17 (fun H locs cells slots I hn1 hn2 => ?_)
  have I : s_I G q3.2 s H locs := I
  have hn : cells + σ0.2.1 ≤ q3.2.2.1 ∧ slots + σ0.2.2.1 ≤ q3.2.2.2.1 := ⟨hn1, hn2⟩
  rcases s_ite hf with ⟨c6, hf⟩ | ⟨c6, hf⟩
  · refine lv_if_eq (tgt := 33) hx hb dX5_readWord_20 (by decide) (fun _ => ?_) (fun n => absurd c6 n)
    obtain ⟨q4, h7, hf⟩ := s_bind hf
    have le8 : s_le q4.2 (e_I r).2 := by
      refine s_lek hem_I ?_ k
      rcases s_ite hf with ⟨-, hf⟩ | ⟨-, hf⟩
      · rcases s_ite hf with ⟨-, hf⟩ | ⟨-, hf⟩
        · obtain ⟨q7, hh, hf⟩ := s_bind hf
          refine s_lz.tr (l_X5_byteAt hh) ?_
          obtain ⟨q8, hh, hf⟩ := s_bind hf
          refine s_lz.tr (l_X5_readShort hh) ?_
          cases hf
          exact s_le.rf
        · obtain ⟨q5, hh, hf⟩ := s_bind hf
          refine s_lz.tr (l_X5_isWord hh) ?_
          rcases s_ite hf with ⟨-, hf⟩ | ⟨-, hf⟩
          · obtain ⟨q6, hh, hf⟩ := s_bind hf
            refine s_lz.tr (l_X5_isWord hh) ?_
            rcases s_ite hf with ⟨-, hf⟩ | ⟨-, hf⟩
            · cases hf
              exact s_le.rf
            · cases hf
              exact s_le.rf
          · cases hf
            exact s_le.rf
      · obtain ⟨q9, hh, hf⟩ := s_bind hf
        refine s_lz.tr (lG_X5_readBinder hh) ?_
        cases hf
        exact s_le.rf
    refine lv_aload_n hx hb dX5_readWord_33 rfl (lv_at hl 2 rfl) ?_
    refine lv_iload_n hx hb dX5_readWord_34 rfl (lv_at hl 1 rfl) ?_
    refine lv_iload hx hb dX5_readWord_35 (lv_at hl 0 rfl) ?_
    refine r_ldcS (tx := "some") (k := 3) X I (by decide +kernel) dX5_readWord_37 ?_
    refine r_callV (Y := M_X5_isWord) (v := some (.int q4.1)) X I w_786 my_X5_isWord (by omega) (t_X5_isWord (G := G) (d := d + 65) h7) (b_X5_isWord h7) rfl rfl hl.1 rfl (Nat.le_of_ble_eq_true rfl) hn le8 dX5_readWord_39 (fun H locs cells slots I hn1 hn2 => ?_)
    have I : s_I G q4.2 s H locs := I
    have hn : cells + σ0.2.1 ≤ q4.2.2.1 ∧ slots + σ0.2.2.1 ≤ q4.2.2.2.1 := ⟨hn1, hn2⟩
    rcases s_ite hf with ⟨c9, hf⟩ | ⟨c9, hf⟩
    · refine lv_if_eq (tgt := 56) hx hb dX5_readWord_42 (by decide) (fun _ => ?_) (fun n => absurd c9 n)
      refine lv_iload hx hb dX5_readWord_56 (lv_at hl 0 rfl) ?_
      refine lv_iload_n hx hb dX5_readWord_58 rfl (lv_at hl 1 rfl) ?_
      refine lv_isub hx hb dX5_readWord_59 ?_
      refine lv_iconst (v := 1) hx hb dX5_readWord_60 (by decide) ?_
      rcases s_ite hf with ⟨c10, hf⟩ | ⟨c10, hf⟩
      · refine lv_icmp_ne (tgt := 74) hx hb dX5_readWord_61 (by decide) (fun n => absurd c10 n) (fun _ => ?_)
        obtain ⟨q7, h11, hf⟩ := s_bind hf
        obtain ⟨q8, h12, hf⟩ := s_bind hf
        cases hf
        have k : _ = r := k
        subst k
        have le13 : s_le q8.2 q8.2 := s_le.rf
        have le14 := s_le.tr (l_X5_readShort h12) le13
        refine lv_aload_n hx hb dX5_readWord_64 rfl (lv_at hl 2 rfl) ?_
        refine lv_aload_n hx hb dX5_readWord_65 rfl (lv_at hl 2 rfl) ?_
        refine lv_iload_n hx hb dX5_readWord_66 rfl (lv_at hl 1 rfl) ?_
        refine r_callV (Y := M_X5_byteAt) (v := some (.int q7.1)) X I w_721 my_X5_byteAt (by omega) (t_X5_byteAt (G := G) (d := d + 70) h11) (b_X5_byteAt h11) rfl rfl hl.1 rfl (Nat.le_of_ble_eq_true rfl) hn le14 dX5_readWord_67 (fun H locs cells slots I hn1 hn2 => ?_)
        have I : s_I G q7.2 s H locs := I
        have hn : cells + σ0.2.1 ≤ q7.2.2.1 ∧ slots + σ0.2.2.1 ≤ q7.2.2.2.1 := ⟨hn1, hn2⟩
        refine r_callV (Y := M_X5_readShort) (v := some (.int q8.1)) X I w_856 my_X5_readShort (by omega) (t_X5_readShort (G := G) (d := d + 66) h12) (b_X5_readShort h12) rfl rfl hl.1 rfl (Nat.le_of_ble_eq_true rfl) hn le13 dX5_readWord_70 (fun H locs cells slots I hn1 hn2 => ?_)
        have I : s_I G q8.2 s H locs := I
        have hn : cells + σ0.2.1 ≤ q8.2.2.1 ∧ slots + σ0.2.2.1 ≤ q8.2.2.2.1 := ⟨hn1, hn2⟩
        exact r_iret X I rfl rfl rfl hn dX5_readWord_73
      · refine lv_icmp_ne (tgt := 74) hx hb dX5_readWord_61 (by decide) (fun _ => ?_) (fun n => absurd n c10)
        obtain ⟨q5, h15, hf⟩ := s_bind hf
        have le16 : s_le q5.2 (e_I r).2 := by
          refine s_lek hem_I ?_ k
          rcases s_ite hf with ⟨-, hf⟩ | ⟨-, hf⟩
          · obtain ⟨q6, hh, hf⟩ := s_bind hf
            refine s_lz.tr (l_X5_isWord hh) ?_
            rcases s_ite hf with ⟨-, hf⟩ | ⟨-, hf⟩
            · cases hf
              exact s_le.rf
            · cases hf
              exact s_le.rf
          · cases hf
            exact s_le.rf
        refine lv_aload_n hx hb dX5_readWord_74 rfl (lv_at hl 2 rfl) ?_
        refine lv_iload_n hx hb dX5_readWord_75 rfl (lv_at hl 1 rfl) ?_
        refine lv_iload hx hb dX5_readWord_76 (lv_at hl 0 rfl) ?_
        refine r_ldcS (tx := "fx") (k := 4) X I (by decide +kernel) dX5_readWord_78 ?_
        refine r_callV (Y := M_X5_isWord) (v := some (.int q5.1)) X I w_786 my_X5_isWord (by omega) (t_X5_isWord (G := G) (d := d + 65) h15) (b_X5_isWord h15) rfl rfl hl.1 rfl (Nat.le_of_ble_eq_true rfl) hn le16 dX5_readWord_80 (fun H locs cells slots I hn1 hn2 => ?_)
        have I : s_I G q5.2 s H locs := I
        have hn : cells + σ0.2.1 ≤ q5.2.2.1 ∧ slots + σ0.2.2.1 ≤ q5.2.2.2.1 := ⟨hn1, hn2⟩
        rcases s_ite hf with ⟨c17, hf⟩ | ⟨c17, hf⟩
        · refine lv_if_ne (tgt := 98) hx hb dX5_readWord_83 (by decide) (fun n => absurd c17 n) (fun _ => ?_)
          obtain ⟨q6, h18, hf⟩ := s_bind hf
          have le19 : s_le q6.2 (e_I r).2 := by
            refine s_lek hem_I ?_ k
            rcases s_ite hf with ⟨-, hf⟩ | ⟨-, hf⟩
            · cases hf
              exact s_le.rf
            · cases hf
              exact s_le.rf
          refine lv_aload_n hx hb dX5_readWord_86 rfl (lv_at hl 2 rfl) ?_
          refine lv_iload_n hx hb dX5_readWord_87 rfl (lv_at hl 1 rfl) ?_
          refine lv_iload hx hb dX5_readWord_88 (lv_at hl 0 rfl) ?_
          refine r_ldcS (tx := "gx") (k := 5) X I (by decide +kernel) dX5_readWord_90 ?_
          refine r_callV (Y := M_X5_isWord) (v := some (.int q6.1)) X I w_786 my_X5_isWord (by omega) (t_X5_isWord (G := G) (d := d + 65) h18) (b_X5_isWord h18) rfl rfl hl.1 rfl (Nat.le_of_ble_eq_true rfl) hn le19 dX5_readWord_92 (fun H locs cells slots I hn1 hn2 => ?_)
          have I : s_I G q6.2 s H locs := I
          have hn : cells + σ0.2.1 ≤ q6.2.2.1 ∧ slots + σ0.2.2.1 ≤ q6.2.2.2.1 := ⟨hn1, hn2⟩
          rcases s_ite hf with ⟨c20, hf⟩ | ⟨c20, hf⟩
          · refine lv_if_eq (tgt := 102) hx hb dX5_readWord_95 (by decide) (fun _ => ?_) (fun n => absurd c20 n)
            cases hf
            have k : s_V G (d + 72) M_X5_readWord vs0 σ0 Y_X5_readWord (103, [.ref v0, .int v2, .int x1, .int q2.1, .int 0], q6.2) (e_I r) := k
            refine lv_iconst (v := 0) hx hb dX5_readWord_102 (by decide) ?_
            exact k.2 p e s m below meth c _ _ _ _ _ X I hn.1 hn.2 (lv_sub hl [2, 4, 1, 0] rfl)
          · refine lv_if_eq (tgt := 102) hx hb dX5_readWord_95 (by decide) (fun n => absurd n c20) (fun _ => ?_)
            cases hf
            have k : s_V G (d + 72) M_X5_readWord vs0 σ0 Y_X5_readWord (98, [.ref v0, .int v2, .int x1, .int q2.1], q6.2) (e_I r) := k
            exact k.2 p e s m below meth c _ _ _ _ _ X I hn.1 hn.2 (lv_sub hl [2, 4, 1, 0] rfl)
        · refine lv_if_ne (tgt := 98) hx hb dX5_readWord_83 (by decide) (fun _ => ?_) (fun n => absurd n c17)
          cases hf
          have k : s_V G (d + 72) M_X5_readWord vs0 σ0 Y_X5_readWord (98, [.ref v0, .int v2, .int x1, .int q2.1], q5.2) (e_I r) := k
          exact k.2 p e s m below meth c _ _ _ _ _ X I hn.1 hn.2 (lv_sub hl [2, 4, 1, 0] rfl)
    · refine lv_if_eq (tgt := 56) hx hb dX5_readWord_42 (by decide) (fun n => absurd n c9) (fun _ => ?_)
      obtain ⟨q9, h21, hf⟩ := s_bind hf
      cases hf
      have k : _ = r := k
      subst k
      have le22 : s_le q9.2 q9.2 := s_le.rf
      refine lv_aload_n hx hb dX5_readWord_45 rfl (lv_at hl 2 rfl) ?_
      refine lv_bipush (v := 6) hx hb dX5_readWord_46 (by decide) ?_
      refine lv_iload hx hb dX5_readWord_48 (lv_at hl 0 rfl) ?_
      refine lv_iload_n hx hb dX5_readWord_50 rfl (lv_at hl 3 rfl) ?_
      refine lv_iload_n hx hb dX5_readWord_51 rfl (lv_at hl 4 rfl) ?_
      refine r_callV (Y := M_X5_readBinder) (v := some (.int q9.1)) X I w_838 my_X5_readBinder (by omega) (hG_X5_readBinder h21).1 (hG_X5_readBinder h21).2 rfl rfl hl.1 rfl (Nat.le_of_ble_eq_true rfl) hn le22 dX5_readWord_52 (fun H locs cells slots I hn1 hn2 => ?_)
      have I : s_I G q9.2 s H locs := I
      have hn : cells + σ0.2.1 ≤ q9.2.2.1 ∧ slots + σ0.2.2.1 ≤ q9.2.2.2.1 := ⟨hn1, hn2⟩
      exact r_iret X I rfl rfl rfl hn dX5_readWord_55
  · refine lv_if_eq (tgt := 33) hx hb dX5_readWord_20 (by decide) (fun n => absurd n c6) (fun _ => ?_)
    obtain ⟨q10, h23, hf⟩ := s_bind hf
    cases hf
    have k : _ = r := k
    subst k
    have le24 : s_le q10.2 q10.2 := s_le.rf
    refine lv_aload_n hx hb dX5_readWord_23 rfl (lv_at hl 2 rfl) ?_
    refine lv_iconst (v := 5) hx hb dX5_readWord_24 (by decide) ?_
    refine lv_iload hx hb dX5_readWord_25 (lv_at hl 0 rfl) ?_
    refine lv_iload_n hx hb dX5_readWord_27 rfl (lv_at hl 3 rfl) ?_
    refine lv_iload_n hx hb dX5_readWord_28 rfl (lv_at hl 4 rfl) ?_
    refine r_callV (Y := M_X5_readBinder) (v := some (.int q10.1)) X I w_838 my_X5_readBinder (by omega) (hG_X5_readBinder h23).1 (hG_X5_readBinder h23).2 rfl rfl hl.1 rfl (Nat.le_of_ble_eq_true rfl) hn le24 dX5_readWord_29 (fun H locs cells slots I hn1 hn2 => ?_)
    have I : s_I G q10.2 s H locs := I
    have hn : cells + σ0.2.1 ≤ q10.2.2.1 ∧ slots + σ0.2.2.1 ≤ q10.2.2.2.1 := ⟨hn1, hn2⟩
    exact r_iret X I rfl rfl rfl hn dX5_readWord_32
set_option maxRecDepth 100000 in
set_option maxHeartbeats 4000000 in
theorem v_X5_readWord_98 (f_X5_readAnd : Nat → Int32 → Int32 → sS → Option (Int32 × sS)) (f_X5_readBinder : Nat → Int32 → Int32 → Int32 → Int32 → sS → Option (Int32 × sS)) (f_X5_readIf : Nat → Int32 → Int32 → sS → Option (Int32 × sS)) (f_X5_readInner : Nat → Int32 → Int32 → sS → Option (Int32 × sS)) (f_X5_readNot : Nat → Int32 → Int32 → sS → Option (Int32 × sS)) (f_X5_readOr : Nat → Int32 → Int32 → sS → Option (Int32 × sS)) (f_X5_readUnit : Nat → Int32 → Int32 → sS → Option (Int32 × sS)) (f_X5_readWord : Nat → Int32 → Int32 → sS → Option (Int32 × sS)) {G : sG} {d : Nat} (lG_X5_readAnd : ∀ {y0 : Nat} {y1 : Int32} {y2 : Int32} {σ : sS} {q : Int32 × sS}, f_X5_readAnd y0 y1 y2 σ = some q → s_le σ q.2) (lG_X5_readBinder : ∀ {y0 : Nat} {y1 : Int32} {y2 : Int32} {y3 : Int32} {y4 : Int32} {σ : sS} {q : Int32 × sS}, f_X5_readBinder y0 y1 y2 y3 y4 σ = some q → s_le σ q.2) (lG_X5_readIf : ∀ {y0 : Nat} {y1 : Int32} {y2 : Int32} {σ : sS} {q : Int32 × sS}, f_X5_readIf y0 y1 y2 σ = some q → s_le σ q.2) (lG_X5_readInner : ∀ {y0 : Nat} {y1 : Int32} {y2 : Int32} {σ : sS} {q : Int32 × sS}, f_X5_readInner y0 y1 y2 σ = some q → s_le σ q.2) (lG_X5_readNot : ∀ {y0 : Nat} {y1 : Int32} {y2 : Int32} {σ : sS} {q : Int32 × sS}, f_X5_readNot y0 y1 y2 σ = some q → s_le σ q.2) (lG_X5_readOr : ∀ {y0 : Nat} {y1 : Int32} {y2 : Int32} {σ : sS} {q : Int32 × sS}, f_X5_readOr y0 y1 y2 σ = some q → s_le σ q.2) (lG_X5_readUnit : ∀ {y0 : Nat} {y1 : Int32} {y2 : Int32} {σ : sS} {q : Int32 × sS}, f_X5_readUnit y0 y1 y2 σ = some q → s_le σ q.2) (lG_X5_readWord : ∀ {y0 : Nat} {y1 : Int32} {y2 : Int32} {σ : sS} {q : Int32 × sS}, f_X5_readWord y0 y1 y2 σ = some q → s_le σ q.2) (hG_X5_readAnd : ∀ {y0 : Nat} {y1 : Int32} {y2 : Int32} {σ : sS} {q : Int32 × sS}, f_X5_readAnd y0 y1 y2 σ = some q → s_T G (d + 71) M_X5_readAnd [.ref y0, .int y1, .int y2] σ (e_I q) ∧ ∃ fs, σ.1 y0 = some (.inr (5, fs))) (hG_X5_readBinder : ∀ {y0 : Nat} {y1 : Int32} {y2 : Int32} {y3 : Int32} {y4 : Int32} {σ : sS} {q : Int32 × sS}, f_X5_readBinder y0 y1 y2 y3 y4 σ = some q → s_T G (d + 71) M_X5_readBinder [.ref y0, .int y1, .int y2, .int y3, .int y4] σ (e_I q) ∧ ∃ fs, σ.1 y0 = some (.inr (5, fs))) (hG_X5_readIf : ∀ {y0 : Nat} {y1 : Int32} {y2 : Int32} {σ : sS} {q : Int32 × sS}, f_X5_readIf y0 y1 y2 σ = some q → s_T G (d + 71) M_X5_readIf [.ref y0, .int y1, .int y2] σ (e_I q) ∧ ∃ fs, σ.1 y0 = some (.inr (5, fs))) (hG_X5_readInner : ∀ {y0 : Nat} {y1 : Int32} {y2 : Int32} {σ : sS} {q : Int32 × sS}, f_X5_readInner y0 y1 y2 σ = some q → s_T G (d + 71) M_X5_readInner [.ref y0, .int y1, .int y2] σ (e_I q) ∧ ∃ fs, σ.1 y0 = some (.inr (5, fs))) (hG_X5_readNot : ∀ {y0 : Nat} {y1 : Int32} {y2 : Int32} {σ : sS} {q : Int32 × sS}, f_X5_readNot y0 y1 y2 σ = some q → s_T G (d + 71) M_X5_readNot [.ref y0, .int y1, .int y2] σ (e_I q) ∧ ∃ fs, σ.1 y0 = some (.inr (5, fs))) (hG_X5_readOr : ∀ {y0 : Nat} {y1 : Int32} {y2 : Int32} {σ : sS} {q : Int32 × sS}, f_X5_readOr y0 y1 y2 σ = some q → s_T G (d + 71) M_X5_readOr [.ref y0, .int y1, .int y2] σ (e_I q) ∧ ∃ fs, σ.1 y0 = some (.inr (5, fs))) (hG_X5_readUnit : ∀ {y0 : Nat} {y1 : Int32} {y2 : Int32} {σ : sS} {q : Int32 × sS}, f_X5_readUnit y0 y1 y2 σ = some q → s_T G (d + 71) M_X5_readUnit [.ref y0, .int y1, .int y2] σ (e_I q) ∧ ∃ fs, σ.1 y0 = some (.inr (5, fs))) (hG_X5_readWord : ∀ {y0 : Nat} {y1 : Int32} {y2 : Int32} {σ : sS} {q : Int32 × sS}, f_X5_readWord y0 y1 y2 σ = some q → s_T G (d + 71) M_X5_readWord [.ref y0, .int y1, .int y2] σ (e_I q) ∧ ∃ fs, σ.1 y0 = some (.inr (5, fs))) {vs0 : List Value} {σ0 : sS} {v0 : Nat} {v2 : Int32} {v3 : Int32} {v4 : Int32} {σ : sS} {z : sZ Int32} {r : Int32 × sS} (hf : T_X5_readWord_98 f_X5_readAnd f_X5_readBinder f_X5_readIf f_X5_readInner f_X5_readNot f_X5_readOr f_X5_readUnit f_X5_readWord v0 v2 v3 v4 σ = some z) (k : s_K G (d + 72) M_X5_readWord vs0 σ0 Y_X5_readWord e_I z r) : s_V G (d + 72) M_X5_readWord vs0 σ0 Y_X5_readWord (98, [.ref v0, .int v2, .int v3, .int v4], σ) (e_I r) := by
  have le0 : s_le σ (e_I r).2 := s_lek hem_I (l_X5_readWord_98 f_X5_readAnd f_X5_readBinder f_X5_readIf f_X5_readInner f_X5_readNot f_X5_readOr f_X5_readUnit f_X5_readWord lG_X5_readAnd lG_X5_readBinder lG_X5_readIf lG_X5_readInner lG_X5_readNot lG_X5_readOr lG_X5_readUnit lG_X5_readWord hf) k
  refine ⟨le0, ?_⟩
  intro p e s m below meth c H locs cells slots ls X I hn1 hn2 hl
  have hn : cells + σ0.2.1 ≤ σ.2.1 ∧ slots + σ0.2.2.1 ≤ σ.2.2.1 := ⟨hn1, hn2⟩
  have hl : lv_has ls 6 [(0, .ref v0), (2, .int v2), (3, .int v3), (4, .int v4)] := hl
  have hx := X.1
  have hb : c.code = cX5_readWord := X.2.1
  have hown : s.vm.findClass RX5 = some m.cls := X.2.2.2.2.2.1
  have hts := X.2.2.2.2.2.2.1
  refine W.eq (g2 := F0 m 98 ls []) rfl ?_
  unfold T_X5_readWord_98 at hf
  cases hf
  have k : s_V G (d + 72) M_X5_readWord vs0 σ0 Y_X5_readWord (103, [.ref v0, .int v2, .int v3, .int v4, .int 1], σ) (e_I r) := k
  refine lv_iconst (v := 1) hx hb dX5_readWord_98 (by decide) ?_
  refine lv_goto (tgt := 103) hx hb dX5_readWord_99 (by decide) ?_
  exact k.2 p e s m below meth c _ _ _ _ _ X I hn.1 hn.2 (lv_sub hl [0, 1, 2, 3] rfl)
set_option maxRecDepth 100000 in
set_option maxHeartbeats 4000000 in
theorem v_X5_readWord_103 (f_X5_readAnd : Nat → Int32 → Int32 → sS → Option (Int32 × sS)) (f_X5_readBinder : Nat → Int32 → Int32 → Int32 → Int32 → sS → Option (Int32 × sS)) (f_X5_readIf : Nat → Int32 → Int32 → sS → Option (Int32 × sS)) (f_X5_readInner : Nat → Int32 → Int32 → sS → Option (Int32 × sS)) (f_X5_readNot : Nat → Int32 → Int32 → sS → Option (Int32 × sS)) (f_X5_readOr : Nat → Int32 → Int32 → sS → Option (Int32 × sS)) (f_X5_readUnit : Nat → Int32 → Int32 → sS → Option (Int32 × sS)) (f_X5_readWord : Nat → Int32 → Int32 → sS → Option (Int32 × sS)) {G : sG} {d : Nat} (lG_X5_readAnd : ∀ {y0 : Nat} {y1 : Int32} {y2 : Int32} {σ : sS} {q : Int32 × sS}, f_X5_readAnd y0 y1 y2 σ = some q → s_le σ q.2) (lG_X5_readBinder : ∀ {y0 : Nat} {y1 : Int32} {y2 : Int32} {y3 : Int32} {y4 : Int32} {σ : sS} {q : Int32 × sS}, f_X5_readBinder y0 y1 y2 y3 y4 σ = some q → s_le σ q.2) (lG_X5_readIf : ∀ {y0 : Nat} {y1 : Int32} {y2 : Int32} {σ : sS} {q : Int32 × sS}, f_X5_readIf y0 y1 y2 σ = some q → s_le σ q.2) (lG_X5_readInner : ∀ {y0 : Nat} {y1 : Int32} {y2 : Int32} {σ : sS} {q : Int32 × sS}, f_X5_readInner y0 y1 y2 σ = some q → s_le σ q.2) (lG_X5_readNot : ∀ {y0 : Nat} {y1 : Int32} {y2 : Int32} {σ : sS} {q : Int32 × sS}, f_X5_readNot y0 y1 y2 σ = some q → s_le σ q.2) (lG_X5_readOr : ∀ {y0 : Nat} {y1 : Int32} {y2 : Int32} {σ : sS} {q : Int32 × sS}, f_X5_readOr y0 y1 y2 σ = some q → s_le σ q.2) (lG_X5_readUnit : ∀ {y0 : Nat} {y1 : Int32} {y2 : Int32} {σ : sS} {q : Int32 × sS}, f_X5_readUnit y0 y1 y2 σ = some q → s_le σ q.2) (lG_X5_readWord : ∀ {y0 : Nat} {y1 : Int32} {y2 : Int32} {σ : sS} {q : Int32 × sS}, f_X5_readWord y0 y1 y2 σ = some q → s_le σ q.2) (hG_X5_readAnd : ∀ {y0 : Nat} {y1 : Int32} {y2 : Int32} {σ : sS} {q : Int32 × sS}, f_X5_readAnd y0 y1 y2 σ = some q → s_T G (d + 71) M_X5_readAnd [.ref y0, .int y1, .int y2] σ (e_I q) ∧ ∃ fs, σ.1 y0 = some (.inr (5, fs))) (hG_X5_readBinder : ∀ {y0 : Nat} {y1 : Int32} {y2 : Int32} {y3 : Int32} {y4 : Int32} {σ : sS} {q : Int32 × sS}, f_X5_readBinder y0 y1 y2 y3 y4 σ = some q → s_T G (d + 71) M_X5_readBinder [.ref y0, .int y1, .int y2, .int y3, .int y4] σ (e_I q) ∧ ∃ fs, σ.1 y0 = some (.inr (5, fs))) (hG_X5_readIf : ∀ {y0 : Nat} {y1 : Int32} {y2 : Int32} {σ : sS} {q : Int32 × sS}, f_X5_readIf y0 y1 y2 σ = some q → s_T G (d + 71) M_X5_readIf [.ref y0, .int y1, .int y2] σ (e_I q) ∧ ∃ fs, σ.1 y0 = some (.inr (5, fs))) (hG_X5_readInner : ∀ {y0 : Nat} {y1 : Int32} {y2 : Int32} {σ : sS} {q : Int32 × sS}, f_X5_readInner y0 y1 y2 σ = some q → s_T G (d + 71) M_X5_readInner [.ref y0, .int y1, .int y2] σ (e_I q) ∧ ∃ fs, σ.1 y0 = some (.inr (5, fs))) (hG_X5_readNot : ∀ {y0 : Nat} {y1 : Int32} {y2 : Int32} {σ : sS} {q : Int32 × sS}, f_X5_readNot y0 y1 y2 σ = some q → s_T G (d + 71) M_X5_readNot [.ref y0, .int y1, .int y2] σ (e_I q) ∧ ∃ fs, σ.1 y0 = some (.inr (5, fs))) (hG_X5_readOr : ∀ {y0 : Nat} {y1 : Int32} {y2 : Int32} {σ : sS} {q : Int32 × sS}, f_X5_readOr y0 y1 y2 σ = some q → s_T G (d + 71) M_X5_readOr [.ref y0, .int y1, .int y2] σ (e_I q) ∧ ∃ fs, σ.1 y0 = some (.inr (5, fs))) (hG_X5_readUnit : ∀ {y0 : Nat} {y1 : Int32} {y2 : Int32} {σ : sS} {q : Int32 × sS}, f_X5_readUnit y0 y1 y2 σ = some q → s_T G (d + 71) M_X5_readUnit [.ref y0, .int y1, .int y2] σ (e_I q) ∧ ∃ fs, σ.1 y0 = some (.inr (5, fs))) (hG_X5_readWord : ∀ {y0 : Nat} {y1 : Int32} {y2 : Int32} {σ : sS} {q : Int32 × sS}, f_X5_readWord y0 y1 y2 σ = some q → s_T G (d + 71) M_X5_readWord [.ref y0, .int y1, .int y2] σ (e_I q) ∧ ∃ fs, σ.1 y0 = some (.inr (5, fs))) {vs0 : List Value} {σ0 : sS} {v0 : Nat} {v2 : Int32} {v3 : Int32} {v4 : Int32} {w0 : Int32} {σ : sS} {z : sZ Int32} {r : Int32 × sS} (hf : T_X5_readWord_103 f_X5_readAnd f_X5_readBinder f_X5_readIf f_X5_readInner f_X5_readNot f_X5_readOr f_X5_readUnit f_X5_readWord v0 v2 v3 v4 w0 σ = some z) (k : s_K G (d + 72) M_X5_readWord vs0 σ0 Y_X5_readWord e_I z r) : s_V G (d + 72) M_X5_readWord vs0 σ0 Y_X5_readWord (103, [.ref v0, .int v2, .int v3, .int v4, .int w0], σ) (e_I r) := by
  have le0 : s_le σ (e_I r).2 := s_lek hem_I (l_X5_readWord_103 f_X5_readAnd f_X5_readBinder f_X5_readIf f_X5_readInner f_X5_readNot f_X5_readOr f_X5_readUnit f_X5_readWord lG_X5_readAnd lG_X5_readBinder lG_X5_readIf lG_X5_readInner lG_X5_readNot lG_X5_readOr lG_X5_readUnit lG_X5_readWord hf) k
  refine ⟨le0, ?_⟩
  intro p e s m below meth c H locs cells slots ls X I hn1 hn2 hl
  have hn : cells + σ0.2.1 ≤ σ.2.1 ∧ slots + σ0.2.2.1 ≤ σ.2.2.1 := ⟨hn1, hn2⟩
  have hl : lv_has ls 6 [(0, .ref v0), (2, .int v2), (3, .int v3), (4, .int v4)] := hl
  have hx := X.1
  have hb : c.code = cX5_readWord := X.2.1
  have hown : s.vm.findClass RX5 = some m.cls := X.2.2.2.2.2.1
  have hts := X.2.2.2.2.2.2.1
  refine W.eq (g2 := F0 m 103 ls [.int w0]) rfl ?_
  unfold T_X5_readWord_103 at hf
  refine lv_istore (lv' := [(5, .int w0), (0, .ref v0), (2, .int v2), (3, .int v3), (4, .int v4)]) hx hb dX5_readWord_103 hl (by decide) rfl (fun ls hl => ?_)
  refine lv_iload hx hb dX5_readWord_105 (lv_at hl 0 rfl) ?_
  rcases s_ite hf with ⟨c1, hf⟩ | ⟨c1, hf⟩
  · refine lv_if_eq (tgt := 122) hx hb dX5_readWord_107 (by decide) (fun _ => ?_) (fun n => absurd c1 n)
    cases hf
    have k : s_V G (d + 72) M_X5_readWord vs0 σ0 Y_X5_readWord (122, [.ref v0, .int v3], σ) (e_I r) := k
    exact k.2 p e s m below meth c _ _ _ _ _ X I hn.1 hn.2 (lv_sub hl [1, 3] rfl)
  · refine lv_if_eq (tgt := 122) hx hb dX5_readWord_107 (by decide) (fun n => absurd n c1) (fun _ => ?_)
    refine lv_iload_n hx hb dX5_readWord_110 rfl (lv_at hl 2 rfl) ?_
    rcases s_ite hf with ⟨c2, hf⟩ | ⟨c2, hf⟩
    · refine lv_if_eq (tgt := 122) hx hb dX5_readWord_111 (by decide) (fun _ => ?_) (fun n => absurd c2 n)
      cases hf
      have k : s_V G (d + 72) M_X5_readWord vs0 σ0 Y_X5_readWord (122, [.ref v0, .int v3], σ) (e_I r) := k
      exact k.2 p e s m below meth c _ _ _ _ _ X I hn.1 hn.2 (lv_sub hl [1, 3] rfl)
    · refine lv_if_eq (tgt := 122) hx hb dX5_readWord_111 (by decide) (fun n => absurd n c2) (fun _ => ?_)
      obtain ⟨q1, h3, hf⟩ := s_bind hf
      have le4 : s_le q1.2 (e_I r).2 := by
        refine s_lek hem_I ?_ k
        rcases s_ite hf with ⟨-, hf⟩ | ⟨-, hf⟩
        · cases hf
          exact s_le.rf
        · obtain ⟨σ2, hh, hf⟩ := s_bind hf
          refine s_lz.tr (s_le2 (s_pf_2 hh)) ?_
          obtain ⟨x3, -, hf⟩ := s_bind hf
          obtain ⟨q4, hh, hf⟩ := s_bind hf
          refine s_lz.tr (l_X5_byteAt hh) ?_
          obtain ⟨q5, hh, hf⟩ := s_bind hf
          refine s_lz.tr (l_X5_letterOf hh) ?_
          obtain ⟨q6, hh, hf⟩ := s_bind hf
          refine s_lz.tr (l_X2_makeAtom hh) ?_
          cases hf
          exact s_le.rf
      refine lv_aload_n hx hb dX5_readWord_114 rfl (lv_at hl 1 rfl) ?_
      refine lv_iload_n hx hb dX5_readWord_115 rfl (lv_at hl 3 rfl) ?_
      refine r_callV (Y := M_X5_mayTakeSign) (v := some (.int q1.1)) X I w_737 my_X5_mayTakeSign (by omega) (t_X5_mayTakeSign (G := G) (d := d + 69) h3) (b_X5_mayTakeSign h3) rfl rfl hl.1 rfl (Nat.le_of_ble_eq_true rfl) hn le4 dX5_readWord_116 (fun H locs cells slots I hn1 hn2 => ?_)
      have I : s_I G q1.2 s H locs := I
      have hn : cells + σ0.2.1 ≤ q1.2.2.1 ∧ slots + σ0.2.2.1 ≤ q1.2.2.2.1 := ⟨hn1, hn2⟩
      rcases s_ite hf with ⟨c5, hf⟩ | ⟨c5, hf⟩
      · refine lv_if_ne (tgt := 128) hx hb dX5_readWord_119 (by decide) (fun n => absurd c5 n) (fun _ => ?_)
        cases hf
        have k : s_V G (d + 72) M_X5_readWord vs0 σ0 Y_X5_readWord (122, [.ref v0, .int v3], q1.2) (e_I r) := k
        exact k.2 p e s m below meth c _ _ _ _ _ X I hn.1 hn.2 (lv_sub hl [1, 3] rfl)
      · refine lv_if_ne (tgt := 128) hx hb dX5_readWord_119 (by decide) (fun _ => ?_) (fun n => absurd n c5)
        obtain ⟨σ2, h6, hf⟩ := s_bind hf
        obtain ⟨x3, h7, hf⟩ := s_bind hf
        obtain ⟨q4, h8, hf⟩ := s_bind hf
        obtain ⟨q5, h9, hf⟩ := s_bind hf
        obtain ⟨q6, h10, hf⟩ := s_bind hf
        cases hf
        have k : _ = r := k
        subst k
        have le11 : s_le q6.2 q6.2 := s_le.rf
        have le12 := s_le.tr (l_X2_makeAtom h10) le11
        have le13 := s_le.tr (l_X5_letterOf h9) le12
        have le14 := s_le.tr (l_X5_byteAt h8) le13
        refine lv_aload_n hx hb dX5_readWord_128 rfl (lv_at hl 1 rfl) ?_
        refine lv_iload hx hb dX5_readWord_129 (lv_at hl 4 rfl) ?_
        refine r_put X I fp_X5_29 (fun h => by cases h) h6 rfl rfl dX5_readWord_131 (fun H locs I => ?_)
        have hn := s_k2 (s_pf_2 h6) hn
        refine lv_aload_n hx hb dX5_readWord_134 rfl (lv_at hl 1 rfl) ?_
        refine r_gr X I fl_X5_19 h7 dX5_readWord_135 ?_
        refine lv_aload_n hx hb dX5_readWord_138 rfl (lv_at hl 1 rfl) ?_
        refine lv_iload_n hx hb dX5_readWord_139 rfl (lv_at hl 3 rfl) ?_
        refine r_callV (Y := M_X5_byteAt) (v := some (.int q4.1)) X I w_721 my_X5_byteAt (by omega) (t_X5_byteAt (G := G) (d := d + 70) h8) (b_X5_byteAt h8) rfl rfl hl.1 rfl (Nat.le_of_ble_eq_true rfl) hn le13 dX5_readWord_140 (fun H locs cells slots I hn1 hn2 => ?_)
        have I : s_I G q4.2 s H locs := I
        have hn : cells + σ0.2.1 ≤ q4.2.2.1 ∧ slots + σ0.2.2.1 ≤ q4.2.2.2.1 := ⟨hn1, hn2⟩
        refine r_callS (Y := M_X5_letterOf) (v := some (.int q5.1)) X I w_860 my_X5_letterOf (by omega) (t_X5_letterOf (G := G) (d := d + 70) h9) rfl rfl hl.1 rfl (Nat.le_of_ble_eq_true rfl) hn le12 dX5_readWord_143 (fun H locs cells slots I hn1 hn2 => ?_)
        have I : s_I G q5.2 s H locs := I
        have hn : cells + σ0.2.1 ≤ q5.2.2.1 ∧ slots + σ0.2.2.1 ≤ q5.2.2.2.1 := ⟨hn1, hn2⟩
        refine lv_iconst (v := 3) hx hb dX5_readWord_146 (by decide) ?_
        refine r_callV (Y := M_X2_makeAtom) (v := some (.int q6.1)) X I w_863 my_X2_makeAtom (by omega) (t_X2_makeAtom (G := G) (d := d + 67) h10) (b_X2_makeAtom h10) rfl rfl hl.1 rfl (Nat.le_of_ble_eq_true rfl) hn le11 dX5_readWord_147 (fun H locs cells slots I hn1 hn2 => ?_)
        have I : s_I G q6.2 s H locs := I
        have hn : cells + σ0.2.1 ≤ q6.2.2.1 ∧ slots + σ0.2.2.1 ≤ q6.2.2.2.1 := ⟨hn1, hn2⟩
        exact r_iret X I rfl rfl rfl hn dX5_readWord_150
set_option maxRecDepth 100000 in
set_option maxHeartbeats 4000000 in
theorem v_X5_readWord_122 (f_X5_readAnd : Nat → Int32 → Int32 → sS → Option (Int32 × sS)) (f_X5_readBinder : Nat → Int32 → Int32 → Int32 → Int32 → sS → Option (Int32 × sS)) (f_X5_readIf : Nat → Int32 → Int32 → sS → Option (Int32 × sS)) (f_X5_readInner : Nat → Int32 → Int32 → sS → Option (Int32 × sS)) (f_X5_readNot : Nat → Int32 → Int32 → sS → Option (Int32 × sS)) (f_X5_readOr : Nat → Int32 → Int32 → sS → Option (Int32 × sS)) (f_X5_readUnit : Nat → Int32 → Int32 → sS → Option (Int32 × sS)) (f_X5_readWord : Nat → Int32 → Int32 → sS → Option (Int32 × sS)) {G : sG} {d : Nat} (lG_X5_readAnd : ∀ {y0 : Nat} {y1 : Int32} {y2 : Int32} {σ : sS} {q : Int32 × sS}, f_X5_readAnd y0 y1 y2 σ = some q → s_le σ q.2) (lG_X5_readBinder : ∀ {y0 : Nat} {y1 : Int32} {y2 : Int32} {y3 : Int32} {y4 : Int32} {σ : sS} {q : Int32 × sS}, f_X5_readBinder y0 y1 y2 y3 y4 σ = some q → s_le σ q.2) (lG_X5_readIf : ∀ {y0 : Nat} {y1 : Int32} {y2 : Int32} {σ : sS} {q : Int32 × sS}, f_X5_readIf y0 y1 y2 σ = some q → s_le σ q.2) (lG_X5_readInner : ∀ {y0 : Nat} {y1 : Int32} {y2 : Int32} {σ : sS} {q : Int32 × sS}, f_X5_readInner y0 y1 y2 σ = some q → s_le σ q.2) (lG_X5_readNot : ∀ {y0 : Nat} {y1 : Int32} {y2 : Int32} {σ : sS} {q : Int32 × sS}, f_X5_readNot y0 y1 y2 σ = some q → s_le σ q.2) (lG_X5_readOr : ∀ {y0 : Nat} {y1 : Int32} {y2 : Int32} {σ : sS} {q : Int32 × sS}, f_X5_readOr y0 y1 y2 σ = some q → s_le σ q.2) (lG_X5_readUnit : ∀ {y0 : Nat} {y1 : Int32} {y2 : Int32} {σ : sS} {q : Int32 × sS}, f_X5_readUnit y0 y1 y2 σ = some q → s_le σ q.2) (lG_X5_readWord : ∀ {y0 : Nat} {y1 : Int32} {y2 : Int32} {σ : sS} {q : Int32 × sS}, f_X5_readWord y0 y1 y2 σ = some q → s_le σ q.2) (hG_X5_readAnd : ∀ {y0 : Nat} {y1 : Int32} {y2 : Int32} {σ : sS} {q : Int32 × sS}, f_X5_readAnd y0 y1 y2 σ = some q → s_T G (d + 71) M_X5_readAnd [.ref y0, .int y1, .int y2] σ (e_I q) ∧ ∃ fs, σ.1 y0 = some (.inr (5, fs))) (hG_X5_readBinder : ∀ {y0 : Nat} {y1 : Int32} {y2 : Int32} {y3 : Int32} {y4 : Int32} {σ : sS} {q : Int32 × sS}, f_X5_readBinder y0 y1 y2 y3 y4 σ = some q → s_T G (d + 71) M_X5_readBinder [.ref y0, .int y1, .int y2, .int y3, .int y4] σ (e_I q) ∧ ∃ fs, σ.1 y0 = some (.inr (5, fs))) (hG_X5_readIf : ∀ {y0 : Nat} {y1 : Int32} {y2 : Int32} {σ : sS} {q : Int32 × sS}, f_X5_readIf y0 y1 y2 σ = some q → s_T G (d + 71) M_X5_readIf [.ref y0, .int y1, .int y2] σ (e_I q) ∧ ∃ fs, σ.1 y0 = some (.inr (5, fs))) (hG_X5_readInner : ∀ {y0 : Nat} {y1 : Int32} {y2 : Int32} {σ : sS} {q : Int32 × sS}, f_X5_readInner y0 y1 y2 σ = some q → s_T G (d + 71) M_X5_readInner [.ref y0, .int y1, .int y2] σ (e_I q) ∧ ∃ fs, σ.1 y0 = some (.inr (5, fs))) (hG_X5_readNot : ∀ {y0 : Nat} {y1 : Int32} {y2 : Int32} {σ : sS} {q : Int32 × sS}, f_X5_readNot y0 y1 y2 σ = some q → s_T G (d + 71) M_X5_readNot [.ref y0, .int y1, .int y2] σ (e_I q) ∧ ∃ fs, σ.1 y0 = some (.inr (5, fs))) (hG_X5_readOr : ∀ {y0 : Nat} {y1 : Int32} {y2 : Int32} {σ : sS} {q : Int32 × sS}, f_X5_readOr y0 y1 y2 σ = some q → s_T G (d + 71) M_X5_readOr [.ref y0, .int y1, .int y2] σ (e_I q) ∧ ∃ fs, σ.1 y0 = some (.inr (5, fs))) (hG_X5_readUnit : ∀ {y0 : Nat} {y1 : Int32} {y2 : Int32} {σ : sS} {q : Int32 × sS}, f_X5_readUnit y0 y1 y2 σ = some q → s_T G (d + 71) M_X5_readUnit [.ref y0, .int y1, .int y2] σ (e_I q) ∧ ∃ fs, σ.1 y0 = some (.inr (5, fs))) (hG_X5_readWord : ∀ {y0 : Nat} {y1 : Int32} {y2 : Int32} {σ : sS} {q : Int32 × sS}, f_X5_readWord y0 y1 y2 σ = some q → s_T G (d + 71) M_X5_readWord [.ref y0, .int y1, .int y2] σ (e_I q) ∧ ∃ fs, σ.1 y0 = some (.inr (5, fs))) {vs0 : List Value} {σ0 : sS} {v0 : Nat} {v3 : Int32} {σ : sS} {z : sZ Int32} {r : Int32 × sS} (hf : T_X5_readWord_122 f_X5_readAnd f_X5_readBinder f_X5_readIf f_X5_readInner f_X5_readNot f_X5_readOr f_X5_readUnit f_X5_readWord v0 v3 σ = some z) (k : s_K G (d + 72) M_X5_readWord vs0 σ0 Y_X5_readWord e_I z r) : s_V G (d + 72) M_X5_readWord vs0 σ0 Y_X5_readWord (122, [.ref v0, .int v3], σ) (e_I r) := by
  have le0 : s_le σ (e_I r).2 := s_lek hem_I (l_X5_readWord_122 f_X5_readAnd f_X5_readBinder f_X5_readIf f_X5_readInner f_X5_readNot f_X5_readOr f_X5_readUnit f_X5_readWord lG_X5_readAnd lG_X5_readBinder lG_X5_readIf lG_X5_readInner lG_X5_readNot lG_X5_readOr lG_X5_readUnit lG_X5_readWord hf) k
  refine ⟨le0, ?_⟩
  intro p e s m below meth c H locs cells slots ls X I hn1 hn2 hl
  have hn : cells + σ0.2.1 ≤ σ.2.1 ∧ slots + σ0.2.2.1 ≤ σ.2.2.1 := ⟨hn1, hn2⟩
  have hl : lv_has ls 6 [(0, .ref v0), (3, .int v3)] := hl
  have hx := X.1
  have hb : c.code = cX5_readWord := X.2.1
  have hown : s.vm.findClass RX5 = some m.cls := X.2.2.2.2.2.1
  have hts := X.2.2.2.2.2.2.1
  refine W.eq (g2 := F0 m 122 ls []) rfl ?_
  unfold T_X5_readWord_122 at hf
  obtain ⟨q1, h1, hf⟩ := s_bind hf
  cases hf
  have k : _ = r := k
  subst k
  have le2 : s_le q1.2 q1.2 := s_le.rf
  refine lv_aload_n hx hb dX5_readWord_122 rfl (lv_at hl 0 rfl) ?_
  refine lv_iload_n hx hb dX5_readWord_123 rfl (lv_at hl 1 rfl) ?_
  refine r_callV (Y := M_X5_fail) (v := some (.int q1.1)) X I w_725 my_X5_fail (by omega) (t_X5_fail (G := G) (d := d + 70) h1) (b_X5_fail h1) rfl rfl hl.1 rfl (Nat.le_of_ble_eq_true rfl) hn le2 dX5_readWord_124 (fun H locs cells slots I hn1 hn2 => ?_)
  have I : s_I G q1.2 s H locs := I
  have hn : cells + σ0.2.1 ≤ q1.2.2.1 ∧ slots + σ0.2.2.1 ≤ q1.2.2.2.1 := ⟨hn1, hn2⟩
  exact r_iret X I rfl rfl rfl hn dX5_readWord_127
theorem v_X5_readWord (f_X5_readAnd : Nat → Int32 → Int32 → sS → Option (Int32 × sS)) (f_X5_readBinder : Nat → Int32 → Int32 → Int32 → Int32 → sS → Option (Int32 × sS)) (f_X5_readIf : Nat → Int32 → Int32 → sS → Option (Int32 × sS)) (f_X5_readInner : Nat → Int32 → Int32 → sS → Option (Int32 × sS)) (f_X5_readNot : Nat → Int32 → Int32 → sS → Option (Int32 × sS)) (f_X5_readOr : Nat → Int32 → Int32 → sS → Option (Int32 × sS)) (f_X5_readUnit : Nat → Int32 → Int32 → sS → Option (Int32 × sS)) (f_X5_readWord : Nat → Int32 → Int32 → sS → Option (Int32 × sS)) {G : sG} {d : Nat} (lG_X5_readAnd : ∀ {y0 : Nat} {y1 : Int32} {y2 : Int32} {σ : sS} {q : Int32 × sS}, f_X5_readAnd y0 y1 y2 σ = some q → s_le σ q.2) (lG_X5_readBinder : ∀ {y0 : Nat} {y1 : Int32} {y2 : Int32} {y3 : Int32} {y4 : Int32} {σ : sS} {q : Int32 × sS}, f_X5_readBinder y0 y1 y2 y3 y4 σ = some q → s_le σ q.2) (lG_X5_readIf : ∀ {y0 : Nat} {y1 : Int32} {y2 : Int32} {σ : sS} {q : Int32 × sS}, f_X5_readIf y0 y1 y2 σ = some q → s_le σ q.2) (lG_X5_readInner : ∀ {y0 : Nat} {y1 : Int32} {y2 : Int32} {σ : sS} {q : Int32 × sS}, f_X5_readInner y0 y1 y2 σ = some q → s_le σ q.2) (lG_X5_readNot : ∀ {y0 : Nat} {y1 : Int32} {y2 : Int32} {σ : sS} {q : Int32 × sS}, f_X5_readNot y0 y1 y2 σ = some q → s_le σ q.2) (lG_X5_readOr : ∀ {y0 : Nat} {y1 : Int32} {y2 : Int32} {σ : sS} {q : Int32 × sS}, f_X5_readOr y0 y1 y2 σ = some q → s_le σ q.2) (lG_X5_readUnit : ∀ {y0 : Nat} {y1 : Int32} {y2 : Int32} {σ : sS} {q : Int32 × sS}, f_X5_readUnit y0 y1 y2 σ = some q → s_le σ q.2) (lG_X5_readWord : ∀ {y0 : Nat} {y1 : Int32} {y2 : Int32} {σ : sS} {q : Int32 × sS}, f_X5_readWord y0 y1 y2 σ = some q → s_le σ q.2) (hG_X5_readAnd : ∀ {y0 : Nat} {y1 : Int32} {y2 : Int32} {σ : sS} {q : Int32 × sS}, f_X5_readAnd y0 y1 y2 σ = some q → s_T G (d + 71) M_X5_readAnd [.ref y0, .int y1, .int y2] σ (e_I q) ∧ ∃ fs, σ.1 y0 = some (.inr (5, fs))) (hG_X5_readBinder : ∀ {y0 : Nat} {y1 : Int32} {y2 : Int32} {y3 : Int32} {y4 : Int32} {σ : sS} {q : Int32 × sS}, f_X5_readBinder y0 y1 y2 y3 y4 σ = some q → s_T G (d + 71) M_X5_readBinder [.ref y0, .int y1, .int y2, .int y3, .int y4] σ (e_I q) ∧ ∃ fs, σ.1 y0 = some (.inr (5, fs))) (hG_X5_readIf : ∀ {y0 : Nat} {y1 : Int32} {y2 : Int32} {σ : sS} {q : Int32 × sS}, f_X5_readIf y0 y1 y2 σ = some q → s_T G (d + 71) M_X5_readIf [.ref y0, .int y1, .int y2] σ (e_I q) ∧ ∃ fs, σ.1 y0 = some (.inr (5, fs))) (hG_X5_readInner : ∀ {y0 : Nat} {y1 : Int32} {y2 : Int32} {σ : sS} {q : Int32 × sS}, f_X5_readInner y0 y1 y2 σ = some q → s_T G (d + 71) M_X5_readInner [.ref y0, .int y1, .int y2] σ (e_I q) ∧ ∃ fs, σ.1 y0 = some (.inr (5, fs))) (hG_X5_readNot : ∀ {y0 : Nat} {y1 : Int32} {y2 : Int32} {σ : sS} {q : Int32 × sS}, f_X5_readNot y0 y1 y2 σ = some q → s_T G (d + 71) M_X5_readNot [.ref y0, .int y1, .int y2] σ (e_I q) ∧ ∃ fs, σ.1 y0 = some (.inr (5, fs))) (hG_X5_readOr : ∀ {y0 : Nat} {y1 : Int32} {y2 : Int32} {σ : sS} {q : Int32 × sS}, f_X5_readOr y0 y1 y2 σ = some q → s_T G (d + 71) M_X5_readOr [.ref y0, .int y1, .int y2] σ (e_I q) ∧ ∃ fs, σ.1 y0 = some (.inr (5, fs))) (hG_X5_readUnit : ∀ {y0 : Nat} {y1 : Int32} {y2 : Int32} {σ : sS} {q : Int32 × sS}, f_X5_readUnit y0 y1 y2 σ = some q → s_T G (d + 71) M_X5_readUnit [.ref y0, .int y1, .int y2] σ (e_I q) ∧ ∃ fs, σ.1 y0 = some (.inr (5, fs))) (hG_X5_readWord : ∀ {y0 : Nat} {y1 : Int32} {y2 : Int32} {σ : sS} {q : Int32 × sS}, f_X5_readWord y0 y1 y2 σ = some q → s_T G (d + 71) M_X5_readWord [.ref y0, .int y1, .int y2] σ (e_I q) ∧ ∃ fs, σ.1 y0 = some (.inr (5, fs))) {vs0 : List Value} {σ0 : sS} {x : sL} {z : sZ Int32} {r : Int32 × sS} (hs : S_X5_readWord f_X5_readAnd f_X5_readBinder f_X5_readIf f_X5_readInner f_X5_readNot f_X5_readOr f_X5_readUnit f_X5_readWord x = some z) (k : s_K G (d + 72) M_X5_readWord vs0 σ0 Y_X5_readWord e_I z r) : s_V G (d + 72) M_X5_readWord vs0 σ0 Y_X5_readWord x (e_I r) := by
  obtain ⟨pc, vs, σ⟩ := x
  unfold S_X5_readWord at hs
  dsimp only at hs
  rcases s_ite hs with ⟨c, hs⟩ | ⟨-, hs⟩
  · subst c
    unfold U_X5_readWord_0 at hs
    obtain ⟨a0, g0, hs⟩ := s_bind hs
    obtain ⟨a1, g1, hs⟩ := s_bind hs
    obtain ⟨a2, g2, hs⟩ := s_bind hs
    obtain ⟨u9, ge, hs⟩ := s_bind hs
    rw [g_r_to g0, g_i_to g1, g_i_to g2, g_e_to ge]
    exact v_X5_readWord_0 f_X5_readAnd f_X5_readBinder f_X5_readIf f_X5_readInner f_X5_readNot f_X5_readOr f_X5_readUnit f_X5_readWord lG_X5_readAnd lG_X5_readBinder lG_X5_readIf lG_X5_readInner lG_X5_readNot lG_X5_readOr lG_X5_readUnit lG_X5_readWord hG_X5_readAnd hG_X5_readBinder hG_X5_readIf hG_X5_readInner hG_X5_readNot hG_X5_readOr hG_X5_readUnit hG_X5_readWord hs k
  rcases s_ite hs with ⟨c, hs⟩ | ⟨-, hs⟩
  · subst c
    unfold U_X5_readWord_98 at hs
    obtain ⟨a0, g0, hs⟩ := s_bind hs
    obtain ⟨a1, g1, hs⟩ := s_bind hs
    obtain ⟨a2, g2, hs⟩ := s_bind hs
    obtain ⟨a3, g3, hs⟩ := s_bind hs
    obtain ⟨u9, ge, hs⟩ := s_bind hs
    rw [g_r_to g0, g_i_to g1, g_i_to g2, g_i_to g3, g_e_to ge]
    exact v_X5_readWord_98 f_X5_readAnd f_X5_readBinder f_X5_readIf f_X5_readInner f_X5_readNot f_X5_readOr f_X5_readUnit f_X5_readWord lG_X5_readAnd lG_X5_readBinder lG_X5_readIf lG_X5_readInner lG_X5_readNot lG_X5_readOr lG_X5_readUnit lG_X5_readWord hG_X5_readAnd hG_X5_readBinder hG_X5_readIf hG_X5_readInner hG_X5_readNot hG_X5_readOr hG_X5_readUnit hG_X5_readWord hs k
  rcases s_ite hs with ⟨c, hs⟩ | ⟨-, hs⟩
  · subst c
    unfold U_X5_readWord_103 at hs
    obtain ⟨a0, g0, hs⟩ := s_bind hs
    obtain ⟨a1, g1, hs⟩ := s_bind hs
    obtain ⟨a2, g2, hs⟩ := s_bind hs
    obtain ⟨a3, g3, hs⟩ := s_bind hs
    obtain ⟨a4, g4, hs⟩ := s_bind hs
    obtain ⟨u9, ge, hs⟩ := s_bind hs
    rw [g_r_to g0, g_i_to g1, g_i_to g2, g_i_to g3, g_i_to g4, g_e_to ge]
    exact v_X5_readWord_103 f_X5_readAnd f_X5_readBinder f_X5_readIf f_X5_readInner f_X5_readNot f_X5_readOr f_X5_readUnit f_X5_readWord lG_X5_readAnd lG_X5_readBinder lG_X5_readIf lG_X5_readInner lG_X5_readNot lG_X5_readOr lG_X5_readUnit lG_X5_readWord hG_X5_readAnd hG_X5_readBinder hG_X5_readIf hG_X5_readInner hG_X5_readNot hG_X5_readOr hG_X5_readUnit hG_X5_readWord hs k
  rcases s_ite hs with ⟨c, hs⟩ | ⟨-, hs⟩
  · subst c
    unfold U_X5_readWord_122 at hs
    obtain ⟨a0, g0, hs⟩ := s_bind hs
    obtain ⟨a1, g1, hs⟩ := s_bind hs
    obtain ⟨u9, ge, hs⟩ := s_bind hs
    rw [g_r_to g0, g_i_to g1, g_e_to ge]
    exact v_X5_readWord_122 f_X5_readAnd f_X5_readBinder f_X5_readIf f_X5_readInner f_X5_readNot f_X5_readOr f_X5_readUnit f_X5_readWord lG_X5_readAnd lG_X5_readBinder lG_X5_readIf lG_X5_readInner lG_X5_readNot lG_X5_readOr lG_X5_readUnit lG_X5_readWord hG_X5_readAnd hG_X5_readBinder hG_X5_readIf hG_X5_readInner hG_X5_readNot hG_X5_readOr hG_X5_readUnit hG_X5_readWord hs k
  cases hs
theorem lq_X5_readAnd : ∀ k : Nat, (∀ {y0 : Nat} {y1 : Int32} {y2 : Int32} {σ : sS} {q : Int32 × sS}, F_X5_readAnd k y0 y1 y2 σ = some q → s_le σ q.2) ∧ (∀ {y0 : Nat} {y1 : Int32} {y2 : Int32} {y3 : Int32} {y4 : Int32} {σ : sS} {q : Int32 × sS}, F_X5_readBinder k y0 y1 y2 y3 y4 σ = some q → s_le σ q.2) ∧ (∀ {y0 : Nat} {y1 : Int32} {y2 : Int32} {σ : sS} {q : Int32 × sS}, F_X5_readIf k y0 y1 y2 σ = some q → s_le σ q.2) ∧ (∀ {y0 : Nat} {y1 : Int32} {y2 : Int32} {σ : sS} {q : Int32 × sS}, F_X5_readInner k y0 y1 y2 σ = some q → s_le σ q.2) ∧ (∀ {y0 : Nat} {y1 : Int32} {y2 : Int32} {σ : sS} {q : Int32 × sS}, F_X5_readNot k y0 y1 y2 σ = some q → s_le σ q.2) ∧ (∀ {y0 : Nat} {y1 : Int32} {y2 : Int32} {σ : sS} {q : Int32 × sS}, F_X5_readOr k y0 y1 y2 σ = some q → s_le σ q.2) ∧ (∀ {y0 : Nat} {y1 : Int32} {y2 : Int32} {σ : sS} {q : Int32 × sS}, F_X5_readUnit k y0 y1 y2 σ = some q → s_le σ q.2) ∧ (∀ {y0 : Nat} {y1 : Int32} {y2 : Int32} {σ : sS} {q : Int32 × sS}, F_X5_readWord k y0 y1 y2 σ = some q → s_le σ q.2) := by
  intro k
  induction k with
  | zero => exact ⟨(fun h => by cases h), (fun h => by cases h), (fun h => by cases h), (fun h => by cases h), (fun h => by cases h), (fun h => by cases h), (fun h => by cases h), (fun h => by cases h)⟩
  | succ k ih =>
    refine ⟨?_, ?_, ?_, ?_, ?_, ?_, ?_, ?_⟩
    · intro y0 y1 y2 σ q h
      have h : ((s_is σ y0 5).bind fun _ => s_run (S_X5_readAnd (F_X5_readAnd k) (F_X5_readBinder k) (F_X5_readIf k) (F_X5_readInner k) (F_X5_readNot k) (F_X5_readOr k) (F_X5_readUnit k) (F_X5_readWord k)) (0, [.ref y0, .int y1, .int y2], σ)) = some q := h
      obtain ⟨-, -, h⟩ := s_bind h
      exact s_run_ind (V := fun x r => s_le x.2.2 r.2) (fun x z r hs hk => by
        have h9 := l_X5_readAnd_s (F_X5_readAnd k) (F_X5_readBinder k) (F_X5_readIf k) (F_X5_readInner k) (F_X5_readNot k) (F_X5_readOr k) (F_X5_readUnit k) (F_X5_readWord k) ih.1 ih.2.1 ih.2.2.1 ih.2.2.2.1 ih.2.2.2.2.1 ih.2.2.2.2.2.1 ih.2.2.2.2.2.2.1 ih.2.2.2.2.2.2.2 hs
        cases z with
        | inl y => exact s_le.tr h9 hk
        | inr q => cases hk; exact h9) h
    · intro y0 y1 y2 y3 y4 σ q h
      have h : ((s_is σ y0 5).bind fun _ => s_run (S_X5_readBinder (F_X5_readAnd k) (F_X5_readBinder k) (F_X5_readIf k) (F_X5_readInner k) (F_X5_readNot k) (F_X5_readOr k) (F_X5_readUnit k) (F_X5_readWord k)) (0, [.ref y0, .int y1, .int y2, .int y3, .int y4], σ)) = some q := h
      obtain ⟨-, -, h⟩ := s_bind h
      exact s_run_ind (V := fun x r => s_le x.2.2 r.2) (fun x z r hs hk => by
        have h9 := l_X5_readBinder_s (F_X5_readAnd k) (F_X5_readBinder k) (F_X5_readIf k) (F_X5_readInner k) (F_X5_readNot k) (F_X5_readOr k) (F_X5_readUnit k) (F_X5_readWord k) ih.1 ih.2.1 ih.2.2.1 ih.2.2.2.1 ih.2.2.2.2.1 ih.2.2.2.2.2.1 ih.2.2.2.2.2.2.1 ih.2.2.2.2.2.2.2 hs
        cases z with
        | inl y => exact s_le.tr h9 hk
        | inr q => cases hk; exact h9) h
    · intro y0 y1 y2 σ q h
      have h : ((s_is σ y0 5).bind fun _ => s_run (S_X5_readIf (F_X5_readAnd k) (F_X5_readBinder k) (F_X5_readIf k) (F_X5_readInner k) (F_X5_readNot k) (F_X5_readOr k) (F_X5_readUnit k) (F_X5_readWord k)) (0, [.ref y0, .int y1, .int y2], σ)) = some q := h
      obtain ⟨-, -, h⟩ := s_bind h
      exact s_run_ind (V := fun x r => s_le x.2.2 r.2) (fun x z r hs hk => by
        have h9 := l_X5_readIf_s (F_X5_readAnd k) (F_X5_readBinder k) (F_X5_readIf k) (F_X5_readInner k) (F_X5_readNot k) (F_X5_readOr k) (F_X5_readUnit k) (F_X5_readWord k) ih.1 ih.2.1 ih.2.2.1 ih.2.2.2.1 ih.2.2.2.2.1 ih.2.2.2.2.2.1 ih.2.2.2.2.2.2.1 ih.2.2.2.2.2.2.2 hs
        cases z with
        | inl y => exact s_le.tr h9 hk
        | inr q => cases hk; exact h9) h
    · intro y0 y1 y2 σ q h
      have h : ((s_is σ y0 5).bind fun _ => s_run (S_X5_readInner (F_X5_readAnd k) (F_X5_readBinder k) (F_X5_readIf k) (F_X5_readInner k) (F_X5_readNot k) (F_X5_readOr k) (F_X5_readUnit k) (F_X5_readWord k)) (0, [.ref y0, .int y1, .int y2], σ)) = some q := h
      obtain ⟨-, -, h⟩ := s_bind h
      exact s_run_ind (V := fun x r => s_le x.2.2 r.2) (fun x z r hs hk => by
        have h9 := l_X5_readInner_s (F_X5_readAnd k) (F_X5_readBinder k) (F_X5_readIf k) (F_X5_readInner k) (F_X5_readNot k) (F_X5_readOr k) (F_X5_readUnit k) (F_X5_readWord k) ih.1 ih.2.1 ih.2.2.1 ih.2.2.2.1 ih.2.2.2.2.1 ih.2.2.2.2.2.1 ih.2.2.2.2.2.2.1 ih.2.2.2.2.2.2.2 hs
        cases z with
        | inl y => exact s_le.tr h9 hk
        | inr q => cases hk; exact h9) h
    · intro y0 y1 y2 σ q h
      have h : ((s_is σ y0 5).bind fun _ => s_run (S_X5_readNot (F_X5_readAnd k) (F_X5_readBinder k) (F_X5_readIf k) (F_X5_readInner k) (F_X5_readNot k) (F_X5_readOr k) (F_X5_readUnit k) (F_X5_readWord k)) (0, [.ref y0, .int y1, .int y2], σ)) = some q := h
      obtain ⟨-, -, h⟩ := s_bind h
      exact s_run_ind (V := fun x r => s_le x.2.2 r.2) (fun x z r hs hk => by
        have h9 := l_X5_readNot_s (F_X5_readAnd k) (F_X5_readBinder k) (F_X5_readIf k) (F_X5_readInner k) (F_X5_readNot k) (F_X5_readOr k) (F_X5_readUnit k) (F_X5_readWord k) ih.1 ih.2.1 ih.2.2.1 ih.2.2.2.1 ih.2.2.2.2.1 ih.2.2.2.2.2.1 ih.2.2.2.2.2.2.1 ih.2.2.2.2.2.2.2 hs
        cases z with
        | inl y => exact s_le.tr h9 hk
        | inr q => cases hk; exact h9) h
    · intro y0 y1 y2 σ q h
      have h : ((s_is σ y0 5).bind fun _ => s_run (S_X5_readOr (F_X5_readAnd k) (F_X5_readBinder k) (F_X5_readIf k) (F_X5_readInner k) (F_X5_readNot k) (F_X5_readOr k) (F_X5_readUnit k) (F_X5_readWord k)) (0, [.ref y0, .int y1, .int y2], σ)) = some q := h
      obtain ⟨-, -, h⟩ := s_bind h
      exact s_run_ind (V := fun x r => s_le x.2.2 r.2) (fun x z r hs hk => by
        have h9 := l_X5_readOr_s (F_X5_readAnd k) (F_X5_readBinder k) (F_X5_readIf k) (F_X5_readInner k) (F_X5_readNot k) (F_X5_readOr k) (F_X5_readUnit k) (F_X5_readWord k) ih.1 ih.2.1 ih.2.2.1 ih.2.2.2.1 ih.2.2.2.2.1 ih.2.2.2.2.2.1 ih.2.2.2.2.2.2.1 ih.2.2.2.2.2.2.2 hs
        cases z with
        | inl y => exact s_le.tr h9 hk
        | inr q => cases hk; exact h9) h
    · intro y0 y1 y2 σ q h
      have h : ((s_is σ y0 5).bind fun _ => s_run (S_X5_readUnit (F_X5_readAnd k) (F_X5_readBinder k) (F_X5_readIf k) (F_X5_readInner k) (F_X5_readNot k) (F_X5_readOr k) (F_X5_readUnit k) (F_X5_readWord k)) (0, [.ref y0, .int y1, .int y2], σ)) = some q := h
      obtain ⟨-, -, h⟩ := s_bind h
      exact s_run_ind (V := fun x r => s_le x.2.2 r.2) (fun x z r hs hk => by
        have h9 := l_X5_readUnit_s (F_X5_readAnd k) (F_X5_readBinder k) (F_X5_readIf k) (F_X5_readInner k) (F_X5_readNot k) (F_X5_readOr k) (F_X5_readUnit k) (F_X5_readWord k) ih.1 ih.2.1 ih.2.2.1 ih.2.2.2.1 ih.2.2.2.2.1 ih.2.2.2.2.2.1 ih.2.2.2.2.2.2.1 ih.2.2.2.2.2.2.2 hs
        cases z with
        | inl y => exact s_le.tr h9 hk
        | inr q => cases hk; exact h9) h
    · intro y0 y1 y2 σ q h
      have h : ((s_is σ y0 5).bind fun _ => s_run (S_X5_readWord (F_X5_readAnd k) (F_X5_readBinder k) (F_X5_readIf k) (F_X5_readInner k) (F_X5_readNot k) (F_X5_readOr k) (F_X5_readUnit k) (F_X5_readWord k)) (0, [.ref y0, .int y1, .int y2], σ)) = some q := h
      obtain ⟨-, -, h⟩ := s_bind h
      exact s_run_ind (V := fun x r => s_le x.2.2 r.2) (fun x z r hs hk => by
        have h9 := l_X5_readWord_s (F_X5_readAnd k) (F_X5_readBinder k) (F_X5_readIf k) (F_X5_readInner k) (F_X5_readNot k) (F_X5_readOr k) (F_X5_readUnit k) (F_X5_readWord k) ih.1 ih.2.1 ih.2.2.1 ih.2.2.2.1 ih.2.2.2.2.1 ih.2.2.2.2.2.1 ih.2.2.2.2.2.2.1 ih.2.2.2.2.2.2.2 hs
        cases z with
        | inl y => exact s_le.tr h9 hk
        | inr q => cases hk; exact h9) h
theorem tq_X5_readAnd {G : sG} {d : Nat} : ∀ k : Nat, (∀ {y0 : Nat} {y1 : Int32} {y2 : Int32} {σ : sS} {q : Int32 × sS}, F_X5_readAnd k y0 y1 y2 σ = some q → s_T G (d + k + 71) M_X5_readAnd [.ref y0, .int y1, .int y2] σ (e_I q) ∧ ∃ fs, σ.1 y0 = some (.inr (5, fs))) ∧ (∀ {y0 : Nat} {y1 : Int32} {y2 : Int32} {y3 : Int32} {y4 : Int32} {σ : sS} {q : Int32 × sS}, F_X5_readBinder k y0 y1 y2 y3 y4 σ = some q → s_T G (d + k + 71) M_X5_readBinder [.ref y0, .int y1, .int y2, .int y3, .int y4] σ (e_I q) ∧ ∃ fs, σ.1 y0 = some (.inr (5, fs))) ∧ (∀ {y0 : Nat} {y1 : Int32} {y2 : Int32} {σ : sS} {q : Int32 × sS}, F_X5_readIf k y0 y1 y2 σ = some q → s_T G (d + k + 71) M_X5_readIf [.ref y0, .int y1, .int y2] σ (e_I q) ∧ ∃ fs, σ.1 y0 = some (.inr (5, fs))) ∧ (∀ {y0 : Nat} {y1 : Int32} {y2 : Int32} {σ : sS} {q : Int32 × sS}, F_X5_readInner k y0 y1 y2 σ = some q → s_T G (d + k + 71) M_X5_readInner [.ref y0, .int y1, .int y2] σ (e_I q) ∧ ∃ fs, σ.1 y0 = some (.inr (5, fs))) ∧ (∀ {y0 : Nat} {y1 : Int32} {y2 : Int32} {σ : sS} {q : Int32 × sS}, F_X5_readNot k y0 y1 y2 σ = some q → s_T G (d + k + 71) M_X5_readNot [.ref y0, .int y1, .int y2] σ (e_I q) ∧ ∃ fs, σ.1 y0 = some (.inr (5, fs))) ∧ (∀ {y0 : Nat} {y1 : Int32} {y2 : Int32} {σ : sS} {q : Int32 × sS}, F_X5_readOr k y0 y1 y2 σ = some q → s_T G (d + k + 71) M_X5_readOr [.ref y0, .int y1, .int y2] σ (e_I q) ∧ ∃ fs, σ.1 y0 = some (.inr (5, fs))) ∧ (∀ {y0 : Nat} {y1 : Int32} {y2 : Int32} {σ : sS} {q : Int32 × sS}, F_X5_readUnit k y0 y1 y2 σ = some q → s_T G (d + k + 71) M_X5_readUnit [.ref y0, .int y1, .int y2] σ (e_I q) ∧ ∃ fs, σ.1 y0 = some (.inr (5, fs))) ∧ (∀ {y0 : Nat} {y1 : Int32} {y2 : Int32} {σ : sS} {q : Int32 × sS}, F_X5_readWord k y0 y1 y2 σ = some q → s_T G (d + k + 71) M_X5_readWord [.ref y0, .int y1, .int y2] σ (e_I q) ∧ ∃ fs, σ.1 y0 = some (.inr (5, fs))) := by
  intro k
  induction k with
  | zero => exact ⟨(fun h => by cases h), (fun h => by cases h), (fun h => by cases h), (fun h => by cases h), (fun h => by cases h), (fun h => by cases h), (fun h => by cases h), (fun h => by cases h)⟩
  | succ k ih =>
    refine ⟨?_, ?_, ?_, ?_, ?_, ?_, ?_, ?_⟩
    · intro y0 y1 y2 σ q h
      have h : ((s_is σ y0 5).bind fun _ => s_run (S_X5_readAnd (F_X5_readAnd k) (F_X5_readBinder k) (F_X5_readIf k) (F_X5_readInner k) (F_X5_readNot k) (F_X5_readOr k) (F_X5_readUnit k) (F_X5_readWord k)) (0, [.ref y0, .int y1, .int y2], σ)) = some q := h
      obtain ⟨u, hu, h⟩ := s_bind h
      refine ⟨?_, s_is_to hu⟩
      exact s_ofV (d := (d + k) + 72) rfl (by decide) (Nat.le_of_ble_eq_true rfl) rfl rfl (s_run_ind (V := fun x r => s_V G ((d + k) + 72) M_X5_readAnd [.ref y0, .int y1, .int y2] σ Y_X5_readAnd x (e_I r)) (fun x z r hs hk => v_X5_readAnd (F_X5_readAnd k) (F_X5_readBinder k) (F_X5_readIf k) (F_X5_readInner k) (F_X5_readNot k) (F_X5_readOr k) (F_X5_readUnit k) (F_X5_readWord k) (lq_X5_readAnd k).1 (lq_X5_readAnd k).2.1 (lq_X5_readAnd k).2.2.1 (lq_X5_readAnd k).2.2.2.1 (lq_X5_readAnd k).2.2.2.2.1 (lq_X5_readAnd k).2.2.2.2.2.1 (lq_X5_readAnd k).2.2.2.2.2.2.1 (lq_X5_readAnd k).2.2.2.2.2.2.2 ih.1 ih.2.1 ih.2.2.1 ih.2.2.2.1 ih.2.2.2.2.1 ih.2.2.2.2.2.1 ih.2.2.2.2.2.2.1 ih.2.2.2.2.2.2.2 hs (by cases z <;> exact hk)) h)
    · intro y0 y1 y2 y3 y4 σ q h
      have h : ((s_is σ y0 5).bind fun _ => s_run (S_X5_readBinder (F_X5_readAnd k) (F_X5_readBinder k) (F_X5_readIf k) (F_X5_readInner k) (F_X5_readNot k) (F_X5_readOr k) (F_X5_readUnit k) (F_X5_readWord k)) (0, [.ref y0, .int y1, .int y2, .int y3, .int y4], σ)) = some q := h
      obtain ⟨u, hu, h⟩ := s_bind h
      refine ⟨?_, s_is_to hu⟩
      exact s_ofV (d := (d + k) + 72) rfl (by decide) (Nat.le_of_ble_eq_true rfl) rfl rfl (s_run_ind (V := fun x r => s_V G ((d + k) + 72) M_X5_readBinder [.ref y0, .int y1, .int y2, .int y3, .int y4] σ Y_X5_readBinder x (e_I r)) (fun x z r hs hk => v_X5_readBinder (F_X5_readAnd k) (F_X5_readBinder k) (F_X5_readIf k) (F_X5_readInner k) (F_X5_readNot k) (F_X5_readOr k) (F_X5_readUnit k) (F_X5_readWord k) (lq_X5_readAnd k).1 (lq_X5_readAnd k).2.1 (lq_X5_readAnd k).2.2.1 (lq_X5_readAnd k).2.2.2.1 (lq_X5_readAnd k).2.2.2.2.1 (lq_X5_readAnd k).2.2.2.2.2.1 (lq_X5_readAnd k).2.2.2.2.2.2.1 (lq_X5_readAnd k).2.2.2.2.2.2.2 ih.1 ih.2.1 ih.2.2.1 ih.2.2.2.1 ih.2.2.2.2.1 ih.2.2.2.2.2.1 ih.2.2.2.2.2.2.1 ih.2.2.2.2.2.2.2 hs (by cases z <;> exact hk)) h)
    · intro y0 y1 y2 σ q h
      have h : ((s_is σ y0 5).bind fun _ => s_run (S_X5_readIf (F_X5_readAnd k) (F_X5_readBinder k) (F_X5_readIf k) (F_X5_readInner k) (F_X5_readNot k) (F_X5_readOr k) (F_X5_readUnit k) (F_X5_readWord k)) (0, [.ref y0, .int y1, .int y2], σ)) = some q := h
      obtain ⟨u, hu, h⟩ := s_bind h
      refine ⟨?_, s_is_to hu⟩
      exact s_ofV (d := (d + k) + 72) rfl (by decide) (Nat.le_of_ble_eq_true rfl) rfl rfl (s_run_ind (V := fun x r => s_V G ((d + k) + 72) M_X5_readIf [.ref y0, .int y1, .int y2] σ Y_X5_readIf x (e_I r)) (fun x z r hs hk => v_X5_readIf (F_X5_readAnd k) (F_X5_readBinder k) (F_X5_readIf k) (F_X5_readInner k) (F_X5_readNot k) (F_X5_readOr k) (F_X5_readUnit k) (F_X5_readWord k) (lq_X5_readAnd k).1 (lq_X5_readAnd k).2.1 (lq_X5_readAnd k).2.2.1 (lq_X5_readAnd k).2.2.2.1 (lq_X5_readAnd k).2.2.2.2.1 (lq_X5_readAnd k).2.2.2.2.2.1 (lq_X5_readAnd k).2.2.2.2.2.2.1 (lq_X5_readAnd k).2.2.2.2.2.2.2 ih.1 ih.2.1 ih.2.2.1 ih.2.2.2.1 ih.2.2.2.2.1 ih.2.2.2.2.2.1 ih.2.2.2.2.2.2.1 ih.2.2.2.2.2.2.2 hs (by cases z <;> exact hk)) h)
    · intro y0 y1 y2 σ q h
      have h : ((s_is σ y0 5).bind fun _ => s_run (S_X5_readInner (F_X5_readAnd k) (F_X5_readBinder k) (F_X5_readIf k) (F_X5_readInner k) (F_X5_readNot k) (F_X5_readOr k) (F_X5_readUnit k) (F_X5_readWord k)) (0, [.ref y0, .int y1, .int y2], σ)) = some q := h
      obtain ⟨u, hu, h⟩ := s_bind h
      refine ⟨?_, s_is_to hu⟩
      exact s_ofV (d := (d + k) + 72) rfl (by decide) (Nat.le_of_ble_eq_true rfl) rfl rfl (s_run_ind (V := fun x r => s_V G ((d + k) + 72) M_X5_readInner [.ref y0, .int y1, .int y2] σ Y_X5_readInner x (e_I r)) (fun x z r hs hk => v_X5_readInner (F_X5_readAnd k) (F_X5_readBinder k) (F_X5_readIf k) (F_X5_readInner k) (F_X5_readNot k) (F_X5_readOr k) (F_X5_readUnit k) (F_X5_readWord k) (lq_X5_readAnd k).1 (lq_X5_readAnd k).2.1 (lq_X5_readAnd k).2.2.1 (lq_X5_readAnd k).2.2.2.1 (lq_X5_readAnd k).2.2.2.2.1 (lq_X5_readAnd k).2.2.2.2.2.1 (lq_X5_readAnd k).2.2.2.2.2.2.1 (lq_X5_readAnd k).2.2.2.2.2.2.2 ih.1 ih.2.1 ih.2.2.1 ih.2.2.2.1 ih.2.2.2.2.1 ih.2.2.2.2.2.1 ih.2.2.2.2.2.2.1 ih.2.2.2.2.2.2.2 hs (by cases z <;> exact hk)) h)
    · intro y0 y1 y2 σ q h
      have h : ((s_is σ y0 5).bind fun _ => s_run (S_X5_readNot (F_X5_readAnd k) (F_X5_readBinder k) (F_X5_readIf k) (F_X5_readInner k) (F_X5_readNot k) (F_X5_readOr k) (F_X5_readUnit k) (F_X5_readWord k)) (0, [.ref y0, .int y1, .int y2], σ)) = some q := h
      obtain ⟨u, hu, h⟩ := s_bind h
      refine ⟨?_, s_is_to hu⟩
      exact s_ofV (d := (d + k) + 72) rfl (by decide) (Nat.le_of_ble_eq_true rfl) rfl rfl (s_run_ind (V := fun x r => s_V G ((d + k) + 72) M_X5_readNot [.ref y0, .int y1, .int y2] σ Y_X5_readNot x (e_I r)) (fun x z r hs hk => v_X5_readNot (F_X5_readAnd k) (F_X5_readBinder k) (F_X5_readIf k) (F_X5_readInner k) (F_X5_readNot k) (F_X5_readOr k) (F_X5_readUnit k) (F_X5_readWord k) (lq_X5_readAnd k).1 (lq_X5_readAnd k).2.1 (lq_X5_readAnd k).2.2.1 (lq_X5_readAnd k).2.2.2.1 (lq_X5_readAnd k).2.2.2.2.1 (lq_X5_readAnd k).2.2.2.2.2.1 (lq_X5_readAnd k).2.2.2.2.2.2.1 (lq_X5_readAnd k).2.2.2.2.2.2.2 ih.1 ih.2.1 ih.2.2.1 ih.2.2.2.1 ih.2.2.2.2.1 ih.2.2.2.2.2.1 ih.2.2.2.2.2.2.1 ih.2.2.2.2.2.2.2 hs (by cases z <;> exact hk)) h)
    · intro y0 y1 y2 σ q h
      have h : ((s_is σ y0 5).bind fun _ => s_run (S_X5_readOr (F_X5_readAnd k) (F_X5_readBinder k) (F_X5_readIf k) (F_X5_readInner k) (F_X5_readNot k) (F_X5_readOr k) (F_X5_readUnit k) (F_X5_readWord k)) (0, [.ref y0, .int y1, .int y2], σ)) = some q := h
      obtain ⟨u, hu, h⟩ := s_bind h
      refine ⟨?_, s_is_to hu⟩
      exact s_ofV (d := (d + k) + 72) rfl (by decide) (Nat.le_of_ble_eq_true rfl) rfl rfl (s_run_ind (V := fun x r => s_V G ((d + k) + 72) M_X5_readOr [.ref y0, .int y1, .int y2] σ Y_X5_readOr x (e_I r)) (fun x z r hs hk => v_X5_readOr (F_X5_readAnd k) (F_X5_readBinder k) (F_X5_readIf k) (F_X5_readInner k) (F_X5_readNot k) (F_X5_readOr k) (F_X5_readUnit k) (F_X5_readWord k) (lq_X5_readAnd k).1 (lq_X5_readAnd k).2.1 (lq_X5_readAnd k).2.2.1 (lq_X5_readAnd k).2.2.2.1 (lq_X5_readAnd k).2.2.2.2.1 (lq_X5_readAnd k).2.2.2.2.2.1 (lq_X5_readAnd k).2.2.2.2.2.2.1 (lq_X5_readAnd k).2.2.2.2.2.2.2 ih.1 ih.2.1 ih.2.2.1 ih.2.2.2.1 ih.2.2.2.2.1 ih.2.2.2.2.2.1 ih.2.2.2.2.2.2.1 ih.2.2.2.2.2.2.2 hs (by cases z <;> exact hk)) h)
    · intro y0 y1 y2 σ q h
      have h : ((s_is σ y0 5).bind fun _ => s_run (S_X5_readUnit (F_X5_readAnd k) (F_X5_readBinder k) (F_X5_readIf k) (F_X5_readInner k) (F_X5_readNot k) (F_X5_readOr k) (F_X5_readUnit k) (F_X5_readWord k)) (0, [.ref y0, .int y1, .int y2], σ)) = some q := h
      obtain ⟨u, hu, h⟩ := s_bind h
      refine ⟨?_, s_is_to hu⟩
      exact s_ofV (d := (d + k) + 72) rfl (by decide) (Nat.le_of_ble_eq_true rfl) rfl rfl (s_run_ind (V := fun x r => s_V G ((d + k) + 72) M_X5_readUnit [.ref y0, .int y1, .int y2] σ Y_X5_readUnit x (e_I r)) (fun x z r hs hk => v_X5_readUnit (F_X5_readAnd k) (F_X5_readBinder k) (F_X5_readIf k) (F_X5_readInner k) (F_X5_readNot k) (F_X5_readOr k) (F_X5_readUnit k) (F_X5_readWord k) (lq_X5_readAnd k).1 (lq_X5_readAnd k).2.1 (lq_X5_readAnd k).2.2.1 (lq_X5_readAnd k).2.2.2.1 (lq_X5_readAnd k).2.2.2.2.1 (lq_X5_readAnd k).2.2.2.2.2.1 (lq_X5_readAnd k).2.2.2.2.2.2.1 (lq_X5_readAnd k).2.2.2.2.2.2.2 ih.1 ih.2.1 ih.2.2.1 ih.2.2.2.1 ih.2.2.2.2.1 ih.2.2.2.2.2.1 ih.2.2.2.2.2.2.1 ih.2.2.2.2.2.2.2 hs (by cases z <;> exact hk)) h)
    · intro y0 y1 y2 σ q h
      have h : ((s_is σ y0 5).bind fun _ => s_run (S_X5_readWord (F_X5_readAnd k) (F_X5_readBinder k) (F_X5_readIf k) (F_X5_readInner k) (F_X5_readNot k) (F_X5_readOr k) (F_X5_readUnit k) (F_X5_readWord k)) (0, [.ref y0, .int y1, .int y2], σ)) = some q := h
      obtain ⟨u, hu, h⟩ := s_bind h
      refine ⟨?_, s_is_to hu⟩
      exact s_ofV (d := (d + k) + 72) rfl (by decide) (Nat.le_of_ble_eq_true rfl) rfl rfl (s_run_ind (V := fun x r => s_V G ((d + k) + 72) M_X5_readWord [.ref y0, .int y1, .int y2] σ Y_X5_readWord x (e_I r)) (fun x z r hs hk => v_X5_readWord (F_X5_readAnd k) (F_X5_readBinder k) (F_X5_readIf k) (F_X5_readInner k) (F_X5_readNot k) (F_X5_readOr k) (F_X5_readUnit k) (F_X5_readWord k) (lq_X5_readAnd k).1 (lq_X5_readAnd k).2.1 (lq_X5_readAnd k).2.2.1 (lq_X5_readAnd k).2.2.2.1 (lq_X5_readAnd k).2.2.2.2.1 (lq_X5_readAnd k).2.2.2.2.2.1 (lq_X5_readAnd k).2.2.2.2.2.2.1 (lq_X5_readAnd k).2.2.2.2.2.2.2 ih.1 ih.2.1 ih.2.2.1 ih.2.2.2.1 ih.2.2.2.2.1 ih.2.2.2.2.2.1 ih.2.2.2.2.2.2.1 ih.2.2.2.2.2.2.2 hs (by cases z <;> exact hk)) h)
theorem l_X5_readAnd {k : Nat} {v0 : Nat} {v1 : Int32} {v2 : Int32} {σ : sS} {q : Int32 × sS} (h : F_X5_readAnd k v0 v1 v2 σ = some q) : s_le σ q.2 := (lq_X5_readAnd k).1 h
theorem t_X5_readAnd {G : sG} {d : Nat} {v0 : Nat} {v1 : Int32} {v2 : Int32} {σ : sS} {q : Int32 × sS} (h : F_X5_readAnd 64 v0 v1 v2 σ = some q) : s_T G (d + 135) M_X5_readAnd [.ref v0, .int v1, .int v2] σ (e_I q) := ((tq_X5_readAnd (G := G) (d := d) 64).1 h).1
theorem b_X5_readAnd {v0 : Nat} {v1 : Int32} {v2 : Int32} {σ : sS} {q : Int32 × sS} (h : F_X5_readAnd 64 v0 v1 v2 σ = some q) : ∃ fs, σ.1 v0 = some (.inr (5, fs)) := by
  have h : ((s_is σ v0 5).bind fun _ => s_run (S_X5_readAnd (F_X5_readAnd 63) (F_X5_readBinder 63) (F_X5_readIf 63) (F_X5_readInner 63) (F_X5_readNot 63) (F_X5_readOr 63) (F_X5_readUnit 63) (F_X5_readWord 63)) (0, [.ref v0, .int v1, .int v2], σ)) = some q := h
  obtain ⟨u, hu, -⟩ := s_bind h
  exact s_is_to hu
theorem l_X5_readBinder {k : Nat} {v0 : Nat} {v1 : Int32} {v2 : Int32} {v3 : Int32} {v4 : Int32} {σ : sS} {q : Int32 × sS} (h : F_X5_readBinder k v0 v1 v2 v3 v4 σ = some q) : s_le σ q.2 := (lq_X5_readAnd k).2.1 h
theorem t_X5_readBinder {G : sG} {d : Nat} {v0 : Nat} {v1 : Int32} {v2 : Int32} {v3 : Int32} {v4 : Int32} {σ : sS} {q : Int32 × sS} (h : F_X5_readBinder 64 v0 v1 v2 v3 v4 σ = some q) : s_T G (d + 135) M_X5_readBinder [.ref v0, .int v1, .int v2, .int v3, .int v4] σ (e_I q) := ((tq_X5_readAnd (G := G) (d := d) 64).2.1 h).1
theorem b_X5_readBinder {v0 : Nat} {v1 : Int32} {v2 : Int32} {v3 : Int32} {v4 : Int32} {σ : sS} {q : Int32 × sS} (h : F_X5_readBinder 64 v0 v1 v2 v3 v4 σ = some q) : ∃ fs, σ.1 v0 = some (.inr (5, fs)) := by
  have h : ((s_is σ v0 5).bind fun _ => s_run (S_X5_readBinder (F_X5_readAnd 63) (F_X5_readBinder 63) (F_X5_readIf 63) (F_X5_readInner 63) (F_X5_readNot 63) (F_X5_readOr 63) (F_X5_readUnit 63) (F_X5_readWord 63)) (0, [.ref v0, .int v1, .int v2, .int v3, .int v4], σ)) = some q := h
  obtain ⟨u, hu, -⟩ := s_bind h
  exact s_is_to hu
theorem l_X5_readIf {k : Nat} {v0 : Nat} {v1 : Int32} {v2 : Int32} {σ : sS} {q : Int32 × sS} (h : F_X5_readIf k v0 v1 v2 σ = some q) : s_le σ q.2 := (lq_X5_readAnd k).2.2.1 h
theorem t_X5_readIf {G : sG} {d : Nat} {v0 : Nat} {v1 : Int32} {v2 : Int32} {σ : sS} {q : Int32 × sS} (h : F_X5_readIf 64 v0 v1 v2 σ = some q) : s_T G (d + 135) M_X5_readIf [.ref v0, .int v1, .int v2] σ (e_I q) := ((tq_X5_readAnd (G := G) (d := d) 64).2.2.1 h).1
theorem b_X5_readIf {v0 : Nat} {v1 : Int32} {v2 : Int32} {σ : sS} {q : Int32 × sS} (h : F_X5_readIf 64 v0 v1 v2 σ = some q) : ∃ fs, σ.1 v0 = some (.inr (5, fs)) := by
  have h : ((s_is σ v0 5).bind fun _ => s_run (S_X5_readIf (F_X5_readAnd 63) (F_X5_readBinder 63) (F_X5_readIf 63) (F_X5_readInner 63) (F_X5_readNot 63) (F_X5_readOr 63) (F_X5_readUnit 63) (F_X5_readWord 63)) (0, [.ref v0, .int v1, .int v2], σ)) = some q := h
  obtain ⟨u, hu, -⟩ := s_bind h
  exact s_is_to hu
theorem l_X5_readInner {k : Nat} {v0 : Nat} {v1 : Int32} {v2 : Int32} {σ : sS} {q : Int32 × sS} (h : F_X5_readInner k v0 v1 v2 σ = some q) : s_le σ q.2 := (lq_X5_readAnd k).2.2.2.1 h
theorem t_X5_readInner {G : sG} {d : Nat} {v0 : Nat} {v1 : Int32} {v2 : Int32} {σ : sS} {q : Int32 × sS} (h : F_X5_readInner 64 v0 v1 v2 σ = some q) : s_T G (d + 135) M_X5_readInner [.ref v0, .int v1, .int v2] σ (e_I q) := ((tq_X5_readAnd (G := G) (d := d) 64).2.2.2.1 h).1
theorem b_X5_readInner {v0 : Nat} {v1 : Int32} {v2 : Int32} {σ : sS} {q : Int32 × sS} (h : F_X5_readInner 64 v0 v1 v2 σ = some q) : ∃ fs, σ.1 v0 = some (.inr (5, fs)) := by
  have h : ((s_is σ v0 5).bind fun _ => s_run (S_X5_readInner (F_X5_readAnd 63) (F_X5_readBinder 63) (F_X5_readIf 63) (F_X5_readInner 63) (F_X5_readNot 63) (F_X5_readOr 63) (F_X5_readUnit 63) (F_X5_readWord 63)) (0, [.ref v0, .int v1, .int v2], σ)) = some q := h
  obtain ⟨u, hu, -⟩ := s_bind h
  exact s_is_to hu
theorem l_X5_readNot {k : Nat} {v0 : Nat} {v1 : Int32} {v2 : Int32} {σ : sS} {q : Int32 × sS} (h : F_X5_readNot k v0 v1 v2 σ = some q) : s_le σ q.2 := (lq_X5_readAnd k).2.2.2.2.1 h
theorem t_X5_readNot {G : sG} {d : Nat} {v0 : Nat} {v1 : Int32} {v2 : Int32} {σ : sS} {q : Int32 × sS} (h : F_X5_readNot 64 v0 v1 v2 σ = some q) : s_T G (d + 135) M_X5_readNot [.ref v0, .int v1, .int v2] σ (e_I q) := ((tq_X5_readAnd (G := G) (d := d) 64).2.2.2.2.1 h).1
theorem b_X5_readNot {v0 : Nat} {v1 : Int32} {v2 : Int32} {σ : sS} {q : Int32 × sS} (h : F_X5_readNot 64 v0 v1 v2 σ = some q) : ∃ fs, σ.1 v0 = some (.inr (5, fs)) := by
  have h : ((s_is σ v0 5).bind fun _ => s_run (S_X5_readNot (F_X5_readAnd 63) (F_X5_readBinder 63) (F_X5_readIf 63) (F_X5_readInner 63) (F_X5_readNot 63) (F_X5_readOr 63) (F_X5_readUnit 63) (F_X5_readWord 63)) (0, [.ref v0, .int v1, .int v2], σ)) = some q := h
  obtain ⟨u, hu, -⟩ := s_bind h
  exact s_is_to hu
theorem l_X5_readOr {k : Nat} {v0 : Nat} {v1 : Int32} {v2 : Int32} {σ : sS} {q : Int32 × sS} (h : F_X5_readOr k v0 v1 v2 σ = some q) : s_le σ q.2 := (lq_X5_readAnd k).2.2.2.2.2.1 h
theorem t_X5_readOr {G : sG} {d : Nat} {v0 : Nat} {v1 : Int32} {v2 : Int32} {σ : sS} {q : Int32 × sS} (h : F_X5_readOr 64 v0 v1 v2 σ = some q) : s_T G (d + 135) M_X5_readOr [.ref v0, .int v1, .int v2] σ (e_I q) := ((tq_X5_readAnd (G := G) (d := d) 64).2.2.2.2.2.1 h).1
theorem b_X5_readOr {v0 : Nat} {v1 : Int32} {v2 : Int32} {σ : sS} {q : Int32 × sS} (h : F_X5_readOr 64 v0 v1 v2 σ = some q) : ∃ fs, σ.1 v0 = some (.inr (5, fs)) := by
  have h : ((s_is σ v0 5).bind fun _ => s_run (S_X5_readOr (F_X5_readAnd 63) (F_X5_readBinder 63) (F_X5_readIf 63) (F_X5_readInner 63) (F_X5_readNot 63) (F_X5_readOr 63) (F_X5_readUnit 63) (F_X5_readWord 63)) (0, [.ref v0, .int v1, .int v2], σ)) = some q := h
  obtain ⟨u, hu, -⟩ := s_bind h
  exact s_is_to hu
theorem l_X5_readUnit {k : Nat} {v0 : Nat} {v1 : Int32} {v2 : Int32} {σ : sS} {q : Int32 × sS} (h : F_X5_readUnit k v0 v1 v2 σ = some q) : s_le σ q.2 := (lq_X5_readAnd k).2.2.2.2.2.2.1 h
theorem t_X5_readUnit {G : sG} {d : Nat} {v0 : Nat} {v1 : Int32} {v2 : Int32} {σ : sS} {q : Int32 × sS} (h : F_X5_readUnit 64 v0 v1 v2 σ = some q) : s_T G (d + 135) M_X5_readUnit [.ref v0, .int v1, .int v2] σ (e_I q) := ((tq_X5_readAnd (G := G) (d := d) 64).2.2.2.2.2.2.1 h).1
theorem b_X5_readUnit {v0 : Nat} {v1 : Int32} {v2 : Int32} {σ : sS} {q : Int32 × sS} (h : F_X5_readUnit 64 v0 v1 v2 σ = some q) : ∃ fs, σ.1 v0 = some (.inr (5, fs)) := by
  have h : ((s_is σ v0 5).bind fun _ => s_run (S_X5_readUnit (F_X5_readAnd 63) (F_X5_readBinder 63) (F_X5_readIf 63) (F_X5_readInner 63) (F_X5_readNot 63) (F_X5_readOr 63) (F_X5_readUnit 63) (F_X5_readWord 63)) (0, [.ref v0, .int v1, .int v2], σ)) = some q := h
  obtain ⟨u, hu, -⟩ := s_bind h
  exact s_is_to hu
theorem l_X5_readWord {k : Nat} {v0 : Nat} {v1 : Int32} {v2 : Int32} {σ : sS} {q : Int32 × sS} (h : F_X5_readWord k v0 v1 v2 σ = some q) : s_le σ q.2 := (lq_X5_readAnd k).2.2.2.2.2.2.2 h
theorem t_X5_readWord {G : sG} {d : Nat} {v0 : Nat} {v1 : Int32} {v2 : Int32} {σ : sS} {q : Int32 × sS} (h : F_X5_readWord 64 v0 v1 v2 σ = some q) : s_T G (d + 135) M_X5_readWord [.ref v0, .int v1, .int v2] σ (e_I q) := ((tq_X5_readAnd (G := G) (d := d) 64).2.2.2.2.2.2.2 h).1
theorem b_X5_readWord {v0 : Nat} {v1 : Int32} {v2 : Int32} {σ : sS} {q : Int32 × sS} (h : F_X5_readWord 64 v0 v1 v2 σ = some q) : ∃ fs, σ.1 v0 = some (.inr (5, fs)) := by
  have h : ((s_is σ v0 5).bind fun _ => s_run (S_X5_readWord (F_X5_readAnd 63) (F_X5_readBinder 63) (F_X5_readIf 63) (F_X5_readInner 63) (F_X5_readNot 63) (F_X5_readOr 63) (F_X5_readUnit 63) (F_X5_readWord 63)) (0, [.ref v0, .int v1, .int v2], σ)) = some q := h
  obtain ⟨u, hu, -⟩ := s_bind h
  exact s_is_to hu
