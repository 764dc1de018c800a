/-! X8_seller -/
noncomputable def T_X8_seller_0 (v0 : Nat) (v1 : Int32) (σ : sS) : Option (sZ Int32) :=
  (F_X8_ofReceipt v0 v1 0 σ).bind fun q1 =>
  (F_X8_ofLine v0 q1.1 0 q1.2).bind fun q2 =>
  some (.inr (q2.1, q2.2))
noncomputable def U_X8_seller_0 (vs : List Value) (σ : sS) : Option (sZ Int32) := (g_r vs).bind fun a0 => (g_i a0.2).bind fun a1 => (g_e a1.2).bind fun _ => T_X8_seller_0 a0.1 a1.1 σ
noncomputable def S_X8_seller (x : sL) : Option (sZ Int32) := if x.1 = 0 then U_X8_seller_0 x.2.1 x.2.2 else none
def Y_X8_seller (pc : Nat) : List Nat := if pc = 0 then [0, 1] else []
noncomputable def F_X8_seller (v0 : Nat) (v1 : Int32) (σ : sS) : Option (Int32 × sS) := (s_is σ v0 8).bind fun _ => s_run S_X8_seller (0, [.ref v0, .int v1], σ)
theorem l_X8_seller_0 {v0 : Nat} {v1 : Int32} {σ : sS} {z : sZ Int32} (hf : T_X8_seller_0 v0 v1 σ = some z) : s_lz σ z := by
  unfold T_X8_seller_0 at hf
  obtain ⟨q1, hh, hf⟩ := s_bind hf
  refine s_lz.tr (l_X8_ofReceipt hh) ?_
  obtain ⟨q2, hh, hf⟩ := s_bind hf
  refine s_lz.tr (l_X8_ofLine hh) ?_
  cases hf
  exact s_le.rf
theorem l_X8_seller_s {x : sL} {z : sZ Int32} (hs : S_X8_seller x = some z) : s_lz x.2.2 z := by
  obtain ⟨pc, vs, σ⟩ := x
  unfold S_X8_seller at hs
  dsimp only at hs ⊢
  rcases s_ite hs with ⟨c, hs⟩ | ⟨-, hs⟩
  · subst c
    unfold U_X8_seller_0 at hs
    obtain ⟨a0, g0, hs⟩ := s_bind hs
    obtain ⟨a1, g1, hs⟩ := s_bind hs
    obtain ⟨u9, ge, hs⟩ := s_bind hs
    exact l_X8_seller_0 hs
  cases hs
theorem l_X8_seller {v0 : Nat} {v1 : Int32} {σ : sS} {q : Int32 × sS} (h : F_X8_seller v0 v1 σ = some q) : s_le σ q.2 := by
  unfold F_X8_seller at h
  obtain ⟨-, -, h⟩ := s_bind h
  exact s_run_ind (V := fun x r => s_le x.2.2 r.2) (fun x z r hs hk => by
    have h9 := l_X8_seller_s hs
    cases z with
    | inl y => exact s_le.tr h9 hk
    | inr q => cases hk; exact h9) h
theorem b_X8_seller {v0 : Nat} {v1 : Int32} {σ : sS} {q : Int32 × sS} (h : F_X8_seller v0 v1 σ = some q) : ∃ fs, σ.1 v0 = some (.inr (8, fs)) := by
  unfold F_X8_seller at h
  obtain ⟨u, hu, -⟩ := s_bind h
  exact s_is_to hu
set_option maxRecDepth 100000 in
set_option maxHeartbeats 4000000 in
theorem v_X8_seller_0 {G : sG} {d : Nat} {vs0 : List Value} {σ0 : sS} {v0 : Nat} {v1 : Int32} {σ : sS} {z : sZ Int32} {r : Int32 × sS} (hf : T_X8_seller_0 v0 v1 σ = some z) (k : s_K G (d + 2) M_X8_seller vs0 σ0 Y_X8_seller e_I z r) : s_V G (d + 2) M_X8_seller vs0 σ0 Y_X8_seller (0, [.ref v0, .int v1], σ) (e_I r) := by
  have le0 : s_le σ (e_I r).2 := s_lek hem_I (l_X8_seller_0 hf) k
  refine ⟨le0, ?_⟩
  intro p e s m below meth c H locs cells slots ls X I hn1 hn2 hl
  have hn : cells + σ0.2.1 ≤ σ.2.1 ∧ slots + σ0.2.2.1 ≤ σ.2.2.1 := ⟨hn1, hn2⟩
  have hl : lv_has ls 2 [(0, .ref v0), (1, .int v1)] := hl
  have hx := X.1
  have hb : c.code = cX8_seller := X.2.1
  have hown : s.vm.findClass RX8 = some m.cls := X.2.2.2.2.2.1
  have hts := X.2.2.2.2.2.2.1
  refine W.eq (g2 := F0 m 0 ls []) rfl ?_
  unfold T_X8_seller_0 at hf
  obtain ⟨q1, h1, hf⟩ := s_bind hf
  obtain ⟨q2, h2, hf⟩ := s_bind hf
  cases hf
  have k : _ = r := k
  subst k
  have le3 : s_le q2.2 q2.2 := s_le.rf
  have le4 := s_le.tr (l_X8_ofLine h2) le3
  refine lv_aload_n hx hb dX8_seller_0 rfl (lv_at hl 0 rfl) ?_
  refine lv_aload_n hx hb dX8_seller_1 rfl (lv_at hl 0 rfl) ?_
  refine lv_iload_n hx hb dX8_seller_2 rfl (lv_at hl 1 rfl) ?_
  refine lv_iconst (v := 0) hx hb dX8_seller_3 (by decide) ?_
  refine r_callV (Y := M_X8_ofReceipt) (v := some (.int q1.1)) X I w_2307 my_X8_ofReceipt (by omega) (t_X8_ofReceipt (G := G) (d := d + 0) h1) (b_X8_ofReceipt h1) rfl rfl hl.1 rfl (Nat.le_of_ble_eq_true rfl) hn le4 dX8_seller_4 (fun H locs cells slots I hn1 hn2 => ?_)
  have I : s_I G q1.2 s H locs := I
  have hn : cells + σ0.2.1 ≤ q1.2.2.1 ∧ slots + σ0.2.2.1 ≤ q1.2.2.2.1 := ⟨hn1, hn2⟩
  refine lv_iconst (v := 0) hx hb dX8_seller_7 (by decide) ?_
  refine r_callV (Y := M_X8_ofLine) (v := some (.int q2.1)) X I w_2015 my_X8_ofLine (by omega) (t_X8_ofLine (G := G) (d := d + 0) h2) (b_X8_ofLine h2) rfl rfl hl.1 rfl (Nat.le_of_ble_eq_true rfl) hn le3 dX8_seller_8 (fun H locs cells slots I hn1 hn2 => ?_)
  have I : s_I G q2.2 s H locs := I
  have hn : cells + σ0.2.1 ≤ q2.2.2.1 ∧ slots + σ0.2.2.1 ≤ q2.2.2.2.1 := ⟨hn1, hn2⟩
  exact r_iret X I rfl rfl rfl hn dX8_seller_11
theorem v_X8_seller {G : sG} {d : Nat} {vs0 : List Value} {σ0 : sS} {x : sL} {z : sZ Int32} {r : Int32 × sS} (hs : S_X8_seller x = some z) (k : s_K G (d + 2) M_X8_seller vs0 σ0 Y_X8_seller e_I z r) : s_V G (d + 2) M_X8_seller vs0 σ0 Y_X8_seller x (e_I r) := by
  obtain ⟨pc, vs, σ⟩ := x
  unfold S_X8_seller at hs
  dsimp only at hs
  rcases s_ite hs with ⟨c, hs⟩ | ⟨-, hs⟩
  · subst c
    unfold U_X8_seller_0 at hs
    obtain ⟨a0, g0, hs⟩ := s_bind hs
    obtain ⟨a1, g1, hs⟩ := s_bind hs
    obtain ⟨u9, ge, hs⟩ := s_bind hs
    rw [g_r_to g0, g_i_to g1, g_e_to ge]
    exact v_X8_seller_0 hs k
  cases hs
theorem t_X8_seller {G : sG} {d : Nat} {v0 : Nat} {v1 : Int32} {σ : sS} {q : Int32 × sS} (h : F_X8_seller v0 v1 σ = some q) : s_T G (d + 2) M_X8_seller [.ref v0, .int v1] σ (e_I q) := by
  unfold F_X8_seller at h
  obtain ⟨-, -, h⟩ := s_bind h
  exact s_ofV rfl (by decide) (Nat.le_of_ble_eq_true rfl) rfl rfl (s_run_ind (V := fun x r => s_V G (d + 2) M_X8_seller [.ref v0, .int v1] σ Y_X8_seller x (e_I r)) (fun x z r hs hk => v_X8_seller hs (by cases z <;> exact hk)) h)
/-! X8_gains -/
noncomputable def T_X8_gains_0 (v0 : Nat) (v1 : Int32) (v2 : Int32) (σ : sS) : Option (sZ Int32) :=
  (s_pf σ v0 8 0 (.int 0)).bind fun σ1 =>
  (F_X8_noHouse v1 σ1).bind fun q2 =>
  (F_X8_throwsIf v0 q2.1 1 q2.2).bind fun q3 =>
  if q3.1 = 0 then ((F_X8_in v2 0 31 q3.2).bind fun q4 =>
  if q4.1 = 0 then (some (.inl (33, [.ref v0, .int v1, .int v2, .int 1, .ref v0], q4.2)))
  else (some (.inl (33, [.ref v0, .int v1, .int v2, .int 0, .ref v0], q4.2))))
  else (some (.inr (0, q3.2)))
noncomputable def U_X8_gains_0 (vs : List Value) (σ : sS) : Option (sZ Int32) := (g_r vs).bind fun a0 => (g_i a0.2).bind fun a1 => (g_i a1.2).bind fun a2 => (g_e a2.2).bind fun _ => T_X8_gains_0 a0.1 a1.1 a2.1 σ
noncomputable def T_X8_gains_33 (v0 : Nat) (v1 : Int32) (v2 : Int32) (w0 : Int32) (w1 : Nat) (σ : sS) : Option (sZ Int32) :=
  (F_X8_throwsIf w1 w0 2 σ).bind fun q1 =>
  if q1.1 = 0 then ((F_X8_goesThrough v0 q1.2).bind fun q2 =>
  some (.inl (51, [.ref v0, .int v1, .int v2, .int 0, .int 0], q2.2)))
  else (some (.inr (0, q1.2)))
noncomputable def U_X8_gains_33 (vs : List Value) (σ : sS) : Option (sZ Int32) := (g_r vs).bind fun a0 => (g_i a0.2).bind fun a1 => (g_i a1.2).bind fun a2 => (g_i a2.2).bind fun a3 => (g_r a3.2).bind fun a4 => (g_e a4.2).bind fun _ => T_X8_gains_33 a0.1 a1.1 a2.1 a3.1 a4.1 σ
noncomputable def T_X8_gains_51 (v0 : Nat) (v1 : Int32) (v2 : Int32) (v3 : Int32) (v4 : Int32) (σ : sS) : Option (sZ Int32) :=
  (F_X8_receipts v0 σ).bind fun q1 =>
  if q1.1 ≤ v4 then (some (.inr (v3, q1.2)))
  else ((F_X8_isVoid v0 v4 q1.2).bind fun q2 =>
  if q2.1 = 0 then ((F_X8_isBack v0 v4 v2 q2.2).bind fun q3 =>
  if q3.1 = 0 then ((F_X8_ofReceipt v0 v4 2 q3.2).bind fun q4 =>
  some (.inl (90, [.ref v0, .int v1, .int v2, .int v3, .int v4, .int q4.1], q4.2)))
  else (some (.inl (79, [.ref v0, .int v1, .int v2, .int v3, .int v4], q3.2))))
  else (some (.inl (79, [.ref v0, .int v1, .int v2, .int v3, .int v4], q2.2))))
noncomputable def U_X8_gains_51 (vs : List Value) (σ : sS) : Option (sZ Int32) := (g_r vs).bind fun a0 => (g_i a0.2).bind fun a1 => (g_i a1.2).bind fun a2 => (g_i a2.2).bind fun a3 => (g_i a3.2).bind fun a4 => (g_e a4.2).bind fun _ => T_X8_gains_51 a0.1 a1.1 a2.1 a3.1 a4.1 σ
noncomputable def T_X8_gains_79 (v0 : Nat) (v1 : Int32) (v2 : Int32) (v3 : Int32) (v4 : Int32) (σ : sS) : Option (sZ Int32) :=
  some (.inl (90, [.ref v0, .int v1, .int v2, .int v3, .int v4, .int 0], σ))
noncomputable def U_X8_gains_79 (vs : List Value) (σ : sS) : Option (sZ Int32) := (g_r vs).bind fun a0 => (g_i a0.2).bind fun a1 => (g_i a1.2).bind fun a2 => (g_i a2.2).bind fun a3 => (g_i a3.2).bind fun a4 => (g_e a4.2).bind fun _ => T_X8_gains_79 a0.1 a1.1 a2.1 a3.1 a4.1 σ
noncomputable def T_X8_gains_90 (v0 : Nat) (v1 : Int32) (v2 : Int32) (v3 : Int32) (v4 : Int32) (w0 : Int32) (σ : sS) : Option (sZ Int32) :=
  (F_X8_seller v0 v4 σ).bind fun q1 =>
  if q1.1 = v1 then (some (.inl (128, [.ref v0, .int v1, .int v2, .int v4, .int w0, .int v3], q1.2)))
  else ((F_X8_ofReceipt v0 v4 1 q1.2).bind fun q2 =>
  if (q2.1 - 4) = v1 then (some (.inl (128, [.ref v0, .int v1, .int v2, .int v4, .int (-w0), .int v3], q2.2)))
  else (some (.inl (128, [.ref v0, .int v1, .int v2, .int v4, .int 0, .int v3], q2.2))))
noncomputable def U_X8_gains_90 (vs : List Value) (σ : sS) : Option (sZ Int32) := (g_r vs).bind fun a0 => (g_i a0.2).bind fun a1 => (g_i a1.2).bind fun a2 => (g_i a2.2).bind fun a3 => (g_i a3.2).bind fun a4 => (g_i a4.2).bind fun a5 => (g_e a5.2).bind fun _ => T_X8_gains_90 a0.1 a1.1 a2.1 a3.1 a4.1 a5.1 σ
noncomputable def T_X8_gains_128 (v0 : Nat) (v1 : Int32) (v2 : Int32) (v4 : Int32) (w0 : Int32) (w1 : Int32) (σ : sS) : Option (sZ Int32) :=
  some (.inl (51, [.ref v0, .int v1, .int v2, .int (w1 + w0), .int (v4 + 1)], σ))
noncomputable def U_X8_gains_128 (vs : List Value) (σ : sS) : Option (sZ Int32) := (g_r vs).bind fun a0 => (g_i a0.2).bind fun a1 => (g_i a1.2).bind fun a2 => (g_i a2.2).bind fun a3 => (g_i a3.2).bind fun a4 => (g_i a4.2).bind fun a5 => (g_e a5.2).bind fun _ => T_X8_gains_128 a0.1 a1.1 a2.1 a3.1 a4.1 a5.1 σ
noncomputable def S_X8_gains (x : sL) : Option (sZ Int32) := if x.1 = 0 then U_X8_gains_0 x.2.1 x.2.2 else if x.1 = 33 then U_X8_gains_33 x.2.1 x.2.2 else if x.1 = 51 then U_X8_gains_51 x.2.1 x.2.2 else if x.1 = 79 then U_X8_gains_79 x.2.1 x.2.2 else if x.1 = 90 then U_X8_gains_90 x.2.1 x.2.2 else if x.1 = 128 then U_X8_gains_128 x.2.1 x.2.2 else none
def Y_X8_gains (pc : Nat) : List Nat := if pc = 0 then [0, 1, 2] else if pc = 33 then [0, 1, 2] else if pc = 51 then [0, 1, 2, 3, 4] else if pc = 79 then [0, 1, 2, 3, 4] else if pc = 90 then [0, 1, 2, 3, 4] else if pc = 128 then [0, 1, 2, 4] else []
noncomputable def F_X8_gains (v0 : Nat) (v1 : Int32) (v2 : Int32) (σ : sS) : Option (Int32 × sS) := (s_is σ v0 8).bind fun _ => s_run S_X8_gains (0, [.ref v0, .int v1, .int v2], σ)
theorem l_X8_gains_0 {v0 : Nat} {v1 : Int32} {v2 : Int32} {σ : sS} {z : sZ Int32} (hf : T_X8_gains_0 v0 v1 v2 σ = some z) : s_lz σ z := by
  unfold T_X8_gains_0 at hf
  obtain ⟨σ1, hh, hf⟩ := s_bind hf
  refine s_lz.tr (s_le2 (s_pf_2 hh)) ?_
  obtain ⟨q2, hh, hf⟩ := s_bind hf
  refine s_lz.tr (l_X8_noHouse hh) ?_
  obtain ⟨q3, hh, hf⟩ := s_bind hf
  refine s_lz.tr (l_X8_throwsIf hh) ?_
  rcases s_ite hf with ⟨-, hf⟩ | ⟨-, hf⟩
  · obtain ⟨q4, hh, hf⟩ := s_bind hf
    refine s_lz.tr (l_X8_in hh) ?_
    rcases s_ite hf with ⟨-, hf⟩ | ⟨-, hf⟩
    · cases hf
      exact s_le.rf
    · cases hf
      exact s_le.rf
  · cases hf
    exact s_le.rf
theorem l_X8_gains_33 {v0 : Nat} {v1 : Int32} {v2 : Int32} {w0 : Int32} {w1 : Nat} {σ : sS} {z : sZ Int32} (hf : T_X8_gains_33 v0 v1 v2 w0 w1 σ = some z) : s_lz σ z := by
  unfold T_X8_gains_33 at hf
  obtain ⟨q1, hh, hf⟩ := s_bind hf
  refine s_lz.tr (l_X8_throwsIf hh) ?_
  rcases s_ite hf with ⟨-, hf⟩ | ⟨-, hf⟩
  · obtain ⟨q2, hh, hf⟩ := s_bind hf
    refine s_lz.tr (l_X8_goesThrough hh) ?_
    cases hf
    exact s_le.rf
  · cases hf
    exact s_le.rf
theorem l_X8_gains_51 {v0 : Nat} {v1 : Int32} {v2 : Int32} {v3 : Int32} {v4 : Int32} {σ : sS} {z : sZ Int32} (hf : T_X8_gains_51 v0 v1 v2 v3 v4 σ = some z) : s_lz σ z := by
  unfold T_X8_gains_51 at hf
  obtain ⟨q1, hh, hf⟩ := s_bind hf
  refine s_lz.tr (l_X8_receipts hh) ?_
  rcases s_ite hf with ⟨-, hf⟩ | ⟨-, hf⟩
  · cases hf
    exact s_le.rf
  · obtain ⟨q2, hh, hf⟩ := s_bind hf
    refine s_lz.tr (l_X8_isVoid hh) ?_
    rcases s_ite hf with ⟨-, hf⟩ | ⟨-, hf⟩
    · obtain ⟨q3, hh, hf⟩ := s_bind hf
      refine s_lz.tr (l_X8_isBack hh) ?_
      rcases s_ite hf with ⟨-, hf⟩ | ⟨-, hf⟩
      · obtain ⟨q4, hh, hf⟩ := s_bind hf
        refine s_lz.tr (l_X8_ofReceipt hh) ?_
        cases hf
        exact s_le.rf
      · cases hf
        exact s_le.rf
    · cases hf
      exact s_le.rf
theorem l_X8_gains_79 {v0 : Nat} {v1 : Int32} {v2 : Int32} {v3 : Int32} {v4 : Int32} {σ : sS} {z : sZ Int32} (hf : T_X8_gains_79 v0 v1 v2 v3 v4 σ = some z) : s_lz σ z := by
  unfold T_X8_gains_79 at hf
  cases hf
  exact s_le.rf
theorem l_X8_gains_90 {v0 : Nat} {v1 : Int32} {v2 : Int32} {v3 : Int32} {v4 : Int32} {w0 : Int32} {σ : sS} {z : sZ Int32} (hf : T_X8_gains_90 v0 v1 v2 v3 v4 w0 σ = some z) : s_lz σ z := by
  unfold T_X8_gains_90 at hf
  obtain ⟨q1, hh, hf⟩ := s_bind hf
  refine s_lz.tr (l_X8_seller hh) ?_
  rcases s_ite hf with ⟨-, hf⟩ | ⟨-, hf⟩
  · cases hf
    exact s_le.rf
  · obtain ⟨q2, hh, hf⟩ := s_bind hf
    refine s_lz.tr (l_X8_ofReceipt hh) ?_
    rcases s_ite hf with ⟨-, hf⟩ | ⟨-, hf⟩
    · cases hf
      exact s_le.rf
    · cases hf
      exact s_le.rf
theorem l_X8_gains_128 {v0 : Nat} {v1 : Int32} {v2 : Int32} {v4 : Int32} {w0 : Int32} {w1 : Int32} {σ : sS} {z : sZ Int32} (hf : T_X8_gains_128 v0 v1 v2 v4 w0 w1 σ = some z) : s_lz σ z := by
  unfold T_X8_gains_128 at hf
  cases hf
  exact s_le.rf
theorem l_X8_gains_s {x : sL} {z : sZ Int32} (hs : S_X8_gains x = some z) : s_lz x.2.2 z := by
  obtain ⟨pc, vs, σ⟩ := x
  unfold S_X8_gains at hs
  dsimp only at hs ⊢
  rcases s_ite hs with ⟨c, hs⟩ | ⟨-, hs⟩
  · subst c
    unfold U_X8_gains_0 at hs
    obtain ⟨a0, g0, hs⟩ := s_bind hs
    obtain ⟨a1, g1, hs⟩ := s_bind hs
    obtain ⟨a2, g2, hs⟩ := s_bind hs
    obtain ⟨u9, ge, hs⟩ := s_bind hs
    exact l_X8_gains_0 hs
  rcases s_ite hs with ⟨c, hs⟩ | ⟨-, hs⟩
  · subst c
    unfold U_X8_gains_33 at hs
    obtain ⟨a0, g0, hs⟩ := s_bind hs
    obtain ⟨a1, g1, hs⟩ := s_bind hs
    obtain ⟨a2, g2, hs⟩ := s_bind hs
    obtain ⟨a3, g3, hs⟩ := s_bind hs
    obtain ⟨a4, g4, hs⟩ := s_bind hs
    obtain ⟨u9, ge, hs⟩ := s_bind hs
    exact l_X8_gains_33 hs
  rcases s_ite hs with ⟨c, hs⟩ | ⟨-, hs⟩
  · subst c
    unfold U_X8_gains_51 at hs
    obtain ⟨a0, g0, hs⟩ := s_bind hs
    obtain ⟨a1, g1, hs⟩ := s_bind hs
    obtain ⟨a2, g2, hs⟩ := s_bind hs
    obtain ⟨a3, g3, hs⟩ := s_bind hs
    obtain ⟨a4, g4, hs⟩ := s_bind hs
    obtain ⟨u9, ge, hs⟩ := s_bind hs
    exact l_X8_gains_51 hs
  rcases s_ite hs with ⟨c, hs⟩ | ⟨-, hs⟩
  · subst c
    unfold U_X8_gains_79 at hs
    obtain ⟨a0, g0, hs⟩ := s_bind hs
    obtain ⟨a1, g1, hs⟩ := s_bind hs
    obtain ⟨a2, g2, hs⟩ := s_bind hs
    obtain ⟨a3, g3, hs⟩ := s_bind hs
    obtain ⟨a4, g4, hs⟩ := s_bind hs
    obtain ⟨u9, ge, hs⟩ := s_bind hs
    exact l_X8_gains_79 hs
  rcases s_ite hs with ⟨c, hs⟩ | ⟨-, hs⟩
  · subst c
    unfold U_X8_gains_90 at hs
    obtain ⟨a0, g0, hs⟩ := s_bind hs
    obtain ⟨a1, g1, hs⟩ := s_bind hs
    obtain ⟨a2, g2, hs⟩ := s_bind hs
    obtain ⟨a3, g3, hs⟩ := s_bind hs
    obtain ⟨a4, g4, hs⟩ := s_bind hs
    obtain ⟨a5, g5, hs⟩ := s_bind hs
    obtain ⟨u9, ge, hs⟩ := s_bind hs
    exact l_X8_gains_90 hs
  rcases s_ite hs with ⟨c, hs⟩ | ⟨-, hs⟩
  · subst c
    unfold U_X8_gains_128 at hs
    obtain ⟨a0, g0, hs⟩ := s_bind hs
    obtain ⟨a1, g1, hs⟩ := s_bind hs
    obtain ⟨a2, g2, hs⟩ := s_bind hs
    obtain ⟨a3, g3, hs⟩ := s_bind hs
    obtain ⟨a4, g4, hs⟩ := s_bind hs
    obtain ⟨a5, g5, hs⟩ := s_bind hs
    obtain ⟨u9, ge, hs⟩ := s_bind hs
    exact l_X8_gains_128 hs
  cases hs
theorem l_X8_gains {v0 : Nat} {v1 : Int32} {v2 : Int32} {σ : sS} {q : Int32 × sS} (h : F_X8_gains v0 v1 v2 σ = some q) : s_le σ q.2 := by
  unfold F_X8_gains at h
  obtain ⟨-, -, h⟩ := s_bind h
  exact s_run_ind (V := fun x r => s_le x.2.2 r.2) (fun x z r hs hk => by
    have h9 := l_X8_gains_s hs
    cases z with
    | inl y => exact s_le.tr h9 hk
    | inr q => cases hk; exact h9) h
theorem b_X8_gains {v0 : Nat} {v1 : Int32} {v2 : Int32} {σ : sS} {q : Int32 × sS} (h : F_X8_gains v0 v1 v2 σ = some q) : ∃ fs, σ.1 v0 = some (.inr (8, fs)) := by
  unfold F_X8_gains at h
  obtain ⟨u, hu, -⟩ := s_bind h
  exact s_is_to hu
set_option maxRecDepth 100000 in
set_option maxHeartbeats 4000000 in
theorem v_X8_gains_0 {G : sG} {d : Nat} {vs0 : List Value} {σ0 : sS} {v0 : Nat} {v1 : Int32} {v2 : Int32} {σ : sS} {z : sZ Int32} {r : Int32 × sS} (hf : T_X8_gains_0 v0 v1 v2 σ = some z) (k : s_K G (d + 8) M_X8_gains vs0 σ0 Y_X8_gains e_I z r) : s_V G (d + 8) M_X8_gains vs0 σ0 Y_X8_gains (0, [.ref v0, .int v1, .int v2], σ) (e_I r) := by
  have le0 : s_le σ (e_I r).2 := s_lek hem_I (l_X8_gains_0 hf) k
  refine ⟨le0, ?_⟩
  intro p e s m below meth c H locs cells slots ls X I hn1 hn2 hl
  have hn : cells + σ0.2.1 ≤ σ.2.1 ∧ slots + σ0.2.2.1 ≤ σ.2.2.1 := ⟨hn1, hn2⟩
  have hl : lv_has ls 6 [(0, .ref v0), (1, .int v1), (2, .int v2)] := hl
  have hx := X.1
  have hb : c.code = cX8_gains := X.2.1
  have hown : s.vm.findClass RX8 = some m.cls := X.2.2.2.2.2.1
  have hts := X.2.2.2.2.2.2.1
  refine W.eq (g2 := F0 m 0 ls []) rfl ?_
  unfold T_X8_gains_0 at hf
  obtain ⟨σ1, h1, hf⟩ := s_bind hf
  obtain ⟨q2, h2, hf⟩ := s_bind hf
  obtain ⟨q3, h3, hf⟩ := s_bind hf
  have le4 : s_le q3.2 (e_I r).2 := by
    refine s_lek hem_I ?_ k
    rcases s_ite hf with ⟨-, hf⟩ | ⟨-, hf⟩
    · obtain ⟨q4, hh, hf⟩ := s_bind hf
      refine s_lz.tr (l_X8_in hh) ?_
      rcases s_ite hf with ⟨-, hf⟩ | ⟨-, hf⟩
      · cases hf
        exact s_le.rf
      · cases hf
        exact s_le.rf
    · cases hf
      exact s_le.rf
  have le5 := s_le.tr (l_X8_throwsIf h3) le4
  have le6 := s_le.tr (l_X8_noHouse h2) le5
  refine lv_aload_n hx hb dX8_gains_0 rfl (lv_at hl 0 rfl) ?_
  refine lv_iconst (v := 0) hx hb dX8_gains_1 (by decide) ?_
  refine r_put X I fp_X8_3 (fun h => by cases h) h1 rfl rfl dX8_gains_2 (fun H locs I => ?_)
  have hn := s_k2 (s_pf_2 h1) hn
  refine lv_aload_n hx hb dX8_gains_5 rfl (lv_at hl 0 rfl) ?_
  refine lv_iload_n hx hb dX8_gains_6 rfl (lv_at hl 1 rfl) ?_
  refine r_callS (Y := M_X8_noHouse) (v := some (.int q2.1)) X I w_1973 my_X8_noHouse (by omega) (t_X8_noHouse (G := G) (d := d + 5) h2) rfl rfl hl.1 rfl (Nat.le_of_ble_eq_true rfl) hn le5 dX8_gains_7 (fun H locs cells slots I hn1 hn2 => ?_)
  have I : s_I G q2.2 s H locs := I
  have hn : cells + σ0.2.1 ≤ q2.2.2.1 ∧ slots + σ0.2.2.1 ≤ q2.2.2.2.1 := ⟨hn1, hn2⟩
  refine lv_iconst (v := 1) hx hb dX8_gains_10 (by decide) ?_
  refine r_callV (Y := M_X8_throwsIf) (v := some (.int q3.1)) X I w_1897 my_X8_throwsIf (by omega) (t_X8_throwsIf (G := G) (d := d + 6) h3) (b_X8_throwsIf h3) rfl rfl hl.1 rfl (Nat.le_of_ble_eq_true rfl) hn le4 dX8_gains_11 (fun H locs cells slots I hn1 hn2 => ?_)
  have I : s_I G q3.2 s H locs := I
  have hn : cells + σ0.2.1 ≤ q3.2.2.1 ∧ slots + σ0.2.2.1 ≤ q3.2.2.2.1 := ⟨hn1, hn2⟩
  rcases s_ite hf with ⟨c7, hf⟩ | ⟨c7, hf⟩
  · refine lv_if_ne (tgt := 40) hx hb dX8_gains_14 (by decide) (fun n => absurd c7 n) (fun _ => ?_)
    obtain ⟨q4, h8, hf⟩ := s_bind hf
    have le9 : s_le q4.2 (e_I r).2 := by
      refine s_lek hem_I ?_ k
      rcases s_ite hf with ⟨-, hf⟩ | ⟨-, hf⟩
      · cases hf
        exact s_le.rf
      · cases hf
        exact s_le.rf
    refine lv_aload_n hx hb dX8_gains_17 rfl (lv_at hl 0 rfl) ?_
    refine lv_iload_n hx hb dX8_gains_18 rfl (lv_at hl 2 rfl) ?_
    refine lv_iconst (v := 0) hx hb dX8_gains_19 (by decide) ?_
    refine lv_bipush (v := 31) hx hb dX8_gains_20 (by decide) ?_
    refine r_callS (Y := M_X8_in) (v := some (.int q4.1)) X I w_1909 my_X8_in (by omega) (t_X8_in (G := G) (d := d + 6) h8) rfl rfl hl.1 rfl (Nat.le_of_ble_eq_true rfl) hn le9 dX8_gains_22 (fun H locs cells slots I hn1 hn2 => ?_)
    have I : s_I G q4.2 s H locs := I
    have hn : cells + σ0.2.1 ≤ q4.2.2.1 ∧ slots + σ0.2.2.1 ≤ q4.2.2.2.1 := ⟨hn1, hn2⟩
    rcases s_ite hf with ⟨c10, hf⟩ | ⟨c10, hf⟩
    · refine lv_if_ne (tgt := 32) hx hb dX8_gains_25 (by decide) (fun n => absurd c10 n) (fun _ => ?_)
      cases hf
      have k : s_V G (d + 8) M_X8_gains vs0 σ0 Y_X8_gains (33, [.ref v0, .int v1, .int v2, .int 1, .ref v0], q4.2) (e_I r) := k
      refine lv_iconst (v := 1) hx hb dX8_gains_28 (by decide) ?_
      refine lv_goto (tgt := 33) hx hb dX8_gains_29 (by decide) ?_
      exact k.2 p e s m below meth c _ _ _ _ _ X I hn.1 hn.2 (lv_sub hl [0, 1, 2] rfl)
    · refine lv_if_ne (tgt := 32) hx hb dX8_gains_25 (by decide) (fun _ => ?_) (fun n => absurd n c10)
      cases hf
      have k : s_V G (d + 8) M_X8_gains vs0 σ0 Y_X8_gains (33, [.ref v0, .int v1, .int v2, .int 0, .ref v0], q4.2) (e_I r) := k
      refine lv_iconst (v := 0) hx hb dX8_gains_32 (by decide) ?_
      exact k.2 p e s m below meth c _ _ _ _ _ X I hn.1 hn.2 (lv_sub hl [0, 1, 2] rfl)
  · refine lv_if_ne (tgt := 40) hx hb dX8_gains_14 (by decide) (fun _ => ?_) (fun n => absurd n c7)
    cases hf
    have k : _ = r := k
    subst k
    refine lv_iconst (v := 0) hx hb dX8_gains_40 (by decide) ?_
    exact r_iret X I rfl rfl rfl hn dX8_gains_41
set_option maxRecDepth 100000 in
set_option maxHeartbeats 4000000 in
theorem v_X8_gains_33 {G : sG} {d : Nat} {vs0 : List Value} {σ0 : sS} {v0 : Nat} {v1 : Int32} {v2 : Int32} {w0 : Int32} {w1 : Nat} {σ : sS} {z : sZ Int32} {r : Int32 × sS} (hf : T_X8_gains_33 v0 v1 v2 w0 w1 σ = some z) (k : s_K G (d + 8) M_X8_gains vs0 σ0 Y_X8_gains e_I z r) : s_V G (d + 8) M_X8_gains vs0 σ0 Y_X8_gains (33, [.ref v0, .int v1, .int v2, .int w0, .ref w1], σ) (e_I r) := by
  have le0 : s_le σ (e_I r).2 := s_lek hem_I (l_X8_gains_33 hf) k
  refine ⟨le0, ?_⟩
  intro p e s m below meth c H locs cells slots ls X I hn1 hn2 hl
  have hn : cells + σ0.2.1 ≤ σ.2.1 ∧ slots + σ0.2.2.1 ≤ σ.2.2.1 := ⟨hn1, hn2⟩
  have hl : lv_has ls 6 [(0, .ref v0), (1, .int v1), (2, .int v2)] := hl
  have hx := X.1
  have hb : c.code = cX8_gains := X.2.1
  have hown : s.vm.findClass RX8 = some m.cls := X.2.2.2.2.2.1
  have hts := X.2.2.2.2.2.2.1
  refine W.eq (g2 := F0 m 33 ls [.int w0, .ref w1]) rfl ?_
  unfold T_X8_gains_33 at hf
  obtain ⟨q1, h1, hf⟩ := s_bind hf
  have le2 : s_le q1.2 (e_I r).2 := by
    refine s_lek hem_I ?_ k
    rcases s_ite hf with ⟨-, hf⟩ | ⟨-, hf⟩
    · obtain ⟨q2, hh, hf⟩ := s_bind hf
      refine s_lz.tr (l_X8_goesThrough hh) ?_
      cases hf
      exact s_le.rf
    · cases hf
      exact s_le.rf
  refine lv_iconst (v := 2) hx hb dX8_gains_33 (by decide) ?_
  refine r_callV (Y := M_X8_throwsIf) (v := some (.int q1.1)) X I w_1897 my_X8_throwsIf (by omega) (t_X8_throwsIf (G := G) (d := d + 6) h1) (b_X8_throwsIf h1) rfl rfl hl.1 rfl (Nat.le_of_ble_eq_true rfl) hn le2 dX8_gains_34 (fun H locs cells slots I hn1 hn2 => ?_)
  have I : s_I G q1.2 s H locs := I
  have hn : cells + σ0.2.1 ≤ q1.2.2.1 ∧ slots + σ0.2.2.1 ≤ q1.2.2.2.1 := ⟨hn1, hn2⟩
  rcases s_ite hf with ⟨c3, hf⟩ | ⟨c3, hf⟩
  · refine lv_if_eq (tgt := 42) hx hb dX8_gains_37 (by decide) (fun _ => ?_) (fun n => absurd c3 n)
    obtain ⟨q2, h4, hf⟩ := s_bind hf
    cases hf
    have k : s_V G (d + 8) M_X8_gains vs0 σ0 Y_X8_gains (51, [.ref v0, .int v1, .int v2, .int 0, .int 0], q2.2) (e_I r) := k
    have le5 : s_le q2.2 (e_I r).2 := k.1
    refine lv_aload_n hx hb dX8_gains_42 rfl (lv_at hl 0 rfl) ?_
    refine r_callV (Y := M_X8_goesThrough) (v := none) X I w_2027 my_X8_goesThrough (by omega) (t_X8_goesThrough (G := G) (d := d + 0) h4) (b_X8_goesThrough h4) rfl rfl hl.1 rfl (Nat.le_of_ble_eq_true rfl) hn le5 dX8_gains_43 (fun H locs cells slots I hn1 hn2 => ?_)
    have I : s_I G q2.2 s H locs := I
    have hn : cells + σ0.2.1 ≤ q2.2.2.1 ∧ slots + σ0.2.2.1 ≤ q2.2.2.2.1 := ⟨hn1, hn2⟩
    refine lv_iconst (v := 0) hx hb dX8_gains_46 (by decide) ?_
    refine lv_istore_n (lv' := [(3, .int 0), (0, .ref v0), (1, .int v1), (2, .int v2)]) hx hb dX8_gains_47 rfl hl (by decide) rfl (fun ls hl => ?_)
    refine lv_iconst (v := 0) hx hb dX8_gains_48 (by decide) ?_
    refine lv_istore (lv' := [(4, .int 0), (3, .int 0), (0, .ref v0), (1, .int v1), (2, .int v2)]) hx hb dX8_gains_49 hl (by decide) rfl (fun ls hl => ?_)
    exact k.2 p e s m below meth c _ _ _ _ _ X I hn.1 hn.2 (lv_sub hl [2, 3, 4, 1, 0] rfl)
  · refine lv_if_eq (tgt := 42) hx hb dX8_gains_37 (by decide) (fun n => absurd n c3) (fun _ => ?_)
    cases hf
    have k : _ = r := k
    subst k
    refine lv_iconst (v := 0) hx hb dX8_gains_40 (by decide) ?_
    exact r_iret X I rfl rfl rfl hn dX8_gains_41
set_option maxRecDepth 100000 in
set_option maxHeartbeats 4000000 in
theorem v_X8_gains_51 {G : sG} {d : Nat} {vs0 : List Value} {σ0 : sS} {v0 : Nat} {v1 : Int32} {v2 : Int32} {v3 : Int32} {v4 : Int32} {σ : sS} {z : sZ Int32} {r : Int32 × sS} (hf : T_X8_gains_51 v0 v1 v2 v3 v4 σ = some z) (k : s_K G (d + 8) M_X8_gains vs0 σ0 Y_X8_gains e_I z r) : s_V G (d + 8) M_X8_gains vs0 σ0 Y_X8_gains (51, [.ref v0, .int v1, .int v2, .int v3, .int v4], σ) (e_I r) := by
  have le0 : s_le σ (e_I r).2 := s_lek hem_I (l_X8_gains_51 hf) k
  refine ⟨le0, ?_⟩
  intro p e s m below meth c H locs cells slots ls X I hn1 hn2 hl
  have hn : cells + σ0.2.1 ≤ σ.2.1 ∧ slots + σ0.2.2.1 ≤ σ.2.2.1 := ⟨hn1, hn2⟩
  have hl : lv_has ls 6 [(0, .ref v0), (1, .int v1), (2, .int v2), (3, .int v3), (4, .int v4)] := hl
  have hx := X.1
  have hb : c.code = cX8_gains := X.2.1
  have hown : s.vm.findClass RX8 = some m.cls := X.2.2.2.2.2.1
  have hts := X.2.2.2.2.2.2.1
  refine W.eq (g2 := F0 m 51 ls []) rfl ?_
  unfold T_X8_gains_51 at hf
  obtain ⟨q1, h1, hf⟩ := s_bind hf
  have le2 : s_le q1.2 (e_I r).2 := by
    refine s_lek hem_I ?_ k
    rcases s_ite hf with ⟨-, hf⟩ | ⟨-, hf⟩
    · cases hf
      exact s_le.rf
    · obtain ⟨q2, hh, hf⟩ := s_bind hf
      refine s_lz.tr (l_X8_isVoid hh) ?_
      rcases s_ite hf with ⟨-, hf⟩ | ⟨-, hf⟩
      · obtain ⟨q3, hh, hf⟩ := s_bind hf
        refine s_lz.tr (l_X8_isBack hh) ?_
        rcases s_ite hf with ⟨-, hf⟩ | ⟨-, hf⟩
        · obtain ⟨q4, hh, hf⟩ := s_bind hf
          refine s_lz.tr (l_X8_ofReceipt hh) ?_
          cases hf
          exact s_le.rf
        · cases hf
          exact s_le.rf
      · cases hf
        exact s_le.rf
  refine lv_iload hx hb dX8_gains_51 (lv_at hl 4 rfl) ?_
  refine lv_aload_n hx hb dX8_gains_53 rfl (lv_at hl 0 rfl) ?_
  refine r_callV (Y := M_X8_receipts) (v := some (.int q1.1)) X I w_2295 my_X8_receipts (by omega) (t_X8_receipts (G := G) (d := d + 6) h1) (b_X8_receipts h1) rfl rfl hl.1 rfl (Nat.le_of_ble_eq_true rfl) hn le2 dX8_gains_54 (fun H locs cells slots I hn1 hn2 => ?_)
  have I : s_I G q1.2 s H locs := I
  have hn : cells + σ0.2.1 ≤ q1.2.2.1 ∧ slots + σ0.2.2.1 ≤ q1.2.2.2.1 := ⟨hn1, hn2⟩
  rcases s_ite hf with ⟨c3, hf⟩ | ⟨c3, hf⟩
  · refine lv_icmp_ge (tgt := 136) hx hb dX8_gains_57 (by decide) (fun _ => ?_) (fun n => absurd c3 n)
    cases hf
    have k : _ = r := k
    subst k
    refine lv_iload_n hx hb dX8_gains_136 rfl (lv_at hl 3 rfl) ?_
    exact r_iret X I rfl rfl rfl hn dX8_gains_137
  · refine lv_icmp_ge (tgt := 136) hx hb dX8_gains_57 (by decide) (fun n => absurd n c3) (fun _ => ?_)
    obtain ⟨q2, h4, hf⟩ := s_bind hf
    have le5 : s_le q2.2 (e_I r).2 := by
      refine s_lek hem_I ?_ k
      rcases s_ite hf with ⟨-, hf⟩ | ⟨-, hf⟩
      · obtain ⟨q3, hh, hf⟩ := s_bind hf
        refine s_lz.tr (l_X8_isBack hh) ?_
        rcases s_ite hf with ⟨-, hf⟩ | ⟨-, hf⟩
        · obtain ⟨q4, hh, hf⟩ := s_bind hf
          refine s_lz.tr (l_X8_ofReceipt hh) ?_
          cases hf
          exact s_le.rf
        · cases hf
          exact s_le.rf
      · cases hf
        exact s_le.rf
    refine lv_aload_n hx hb dX8_gains_60 rfl (lv_at hl 0 rfl) ?_
    refine lv_iload hx hb dX8_gains_61 (lv_at hl 4 rfl) ?_
    refine r_callV (Y := M_X8_isVoid) (v := some (.int q2.1)) X I w_2303 my_X8_isVoid (by omega) (t_X8_isVoid (G := G) (d := d + 5) h4) (b_X8_isVoid h4) rfl rfl hl.1 rfl (Nat.le_of_ble_eq_true rfl) hn le5 dX8_gains_63 (fun H locs cells slots I hn1 hn2 => ?_)
    have I : s_I G q2.2 s H locs := I
    have hn : cells + σ0.2.1 ≤ q2.2.2.1 ∧ slots + σ0.2.2.1 ≤ q2.2.2.2.1 := ⟨hn1, hn2⟩
    rcases s_ite hf with ⟨c6, hf⟩ | ⟨c6, hf⟩
    · refine lv_if_ne (tgt := 79) hx hb dX8_gains_66 (by decide) (fun n => absurd c6 n) (fun _ => ?_)
      obtain ⟨q3, h7, hf⟩ := s_bind hf
      have le8 : s_le q3.2 (e_I r).2 := by
        refine s_lek hem_I ?_ k
        rcases s_ite hf with ⟨-, hf⟩ | ⟨-, hf⟩
        · obtain ⟨q4, hh, hf⟩ := s_bind hf
          refine s_lz.tr (l_X8_ofReceipt hh) ?_
          cases hf
          exact s_le.rf
        · cases hf
          exact s_le.rf
      refine lv_aload_n hx hb dX8_gains_69 rfl (lv_at hl 0 rfl) ?_
      refine lv_iload hx hb dX8_gains_70 (lv_at hl 4 rfl) ?_
      refine lv_iload_n hx hb dX8_gains_72 rfl (lv_at hl 2 rfl) ?_
      refine r_callV (Y := M_X8_isBack) (v := some (.int q3.1)) X I w_2319 my_X8_isBack (by omega) (t_X8_isBack (G := G) (d := d + 0) h7) (b_X8_isBack h7) rfl rfl hl.1 rfl (Nat.le_of_ble_eq_true rfl) hn le8 dX8_gains_73 (fun H locs cells slots I hn1 hn2 => ?_)
      have I : s_I G q3.2 s H locs := I
      have hn : cells + σ0.2.1 ≤ q3.2.2.1 ∧ slots + σ0.2.2.1 ≤ q3.2.2.2.1 := ⟨hn1, hn2⟩
      rcases s_ite hf with ⟨c9, hf⟩ | ⟨c9, hf⟩
      · refine lv_if_eq (tgt := 83) hx hb dX8_gains_76 (by decide) (fun _ => ?_) (fun n => absurd c9 n)
        obtain ⟨q4, h10, hf⟩ := s_bind hf
        cases hf
        have k : s_V G (d + 8) M_X8_gains vs0 σ0 Y_X8_gains (90, [.ref v0, .int v1, .int v2, .int v3, .int v4, .int q4.1], q4.2) (e_I r) := k
        have le11 : s_le q4.2 (e_I r).2 := k.1
        refine lv_aload_n hx hb dX8_gains_83 rfl (lv_at hl 0 rfl) ?_
        refine lv_iload hx hb dX8_gains_84 (lv_at hl 4 rfl) ?_
        refine lv_iconst (v := 2) hx hb dX8_gains_86 (by decide) ?_
        refine r_callV (Y := M_X8_ofReceipt) (v := some (.int q4.1)) X I w_2307 my_X8_ofReceipt (by omega) (t_X8_ofReceipt (G := G) (d := d + 6) h10) (b_X8_ofReceipt h10) rfl rfl hl.1 rfl (Nat.le_of_ble_eq_true rfl) hn le11 dX8_gains_87 (fun H locs cells slots I hn1 hn2 => ?_)
        have I : s_I G q4.2 s H locs := I
        have hn : cells + σ0.2.1 ≤ q4.2.2.1 ∧ slots + σ0.2.2.1 ≤ q4.2.2.2.1 := ⟨hn1, hn2⟩
        exact k.2 p e s m below meth c _ _ _ _ _ X I hn.1 hn.2 (lv_sub hl [0, 1, 2, 3, 4] rfl)
      · refine lv_if_eq (tgt := 83) hx hb dX8_gains_76 (by decide) (fun n => absurd n c9) (fun _ => ?_)
        cases hf
        have k : s_V G (d + 8) M_X8_gains vs0 σ0 Y_X8_gains (79, [.ref v0, .int v1, .int v2, .int v3, .int v4], q3.2) (e_I r) := k
        exact k.2 p e s m below meth c _ _ _ _ _ X I hn.1 hn.2 (lv_sub hl [0, 1, 2, 3, 4] rfl)
    · refine lv_if_ne (tgt := 79) hx hb dX8_gains_66 (by decide) (fun _ => ?_) (fun n => absurd n c6)
      cases hf
      have k : s_V G (d + 8) M_X8_gains vs0 σ0 Y_X8_gains (79, [.ref v0, .int v1, .int v2, .int v3, .int v4], q2.2) (e_I r) := k
      exact k.2 p e s m below meth c _ _ _ _ _ X I hn.1 hn.2 (lv_sub hl [0, 1, 2, 3, 4] rfl)
set_option maxRecDepth 100000 in
set_option maxHeartbeats 4000000 in
theorem v_X8_gains_79 {G : sG} {d : Nat} {vs0 : List Value} {σ0 : sS} {v0 : Nat} {v1 : Int32} {v2 : Int32} {v3 : Int32} {v4 : Int32} {σ : sS} {z : sZ Int32} {r : Int32 × sS} (hf : T_X8_gains_79 v0 v1 v2 v3 v4 σ = some z) (k : s_K G (d + 8) M_X8_gains vs0 σ0 Y_X8_gains e_I z r) : s_V G (d + 8) M_X8_gains vs0 σ0 Y_X8_gains (79, [.ref v0, .int v1, .int v2, .int v3, .int v4], σ) (e_I r) := by
  have le0 : s_le σ (e_I r).2 := s_lek hem_I (l_X8_gains_79 hf) k
  refine ⟨le0, ?_⟩
  intro p e s m below meth c H locs cells slots ls X I hn1 hn2 hl
  have hn : cells + σ0.2.1 ≤ σ.2.1 ∧ slots + σ0.2.2.1 ≤ σ.2.2.1 := ⟨hn1, hn2⟩
  have hl : lv_has ls 6 [(0, .ref v0), (1, .int v1), (2, .int v2), (3, .int v3), (4, .int v4)] := hl
  have hx := X.1
  have hb : c.code = cX8_gains := X.2.1
  have hown : s.vm.findClass RX8 = some m.cls := X.2.2.2.2.2.1
  have hts := X.2.2.2.2.2.2.1
  refine W.eq (g2 := F0 m 79 ls []) rfl ?_
  unfold T_X8_gains_79 at hf
  cases hf
  have k : s_V G (d + 8) M_X8_gains vs0 σ0 Y_X8_gains (90, [.ref v0, .int v1, .int v2, .int v3, .int v4, .int 0], σ) (e_I r) := k
  refine lv_iconst (v := 0) hx hb dX8_gains_79 (by decide) ?_
  refine lv_goto (tgt := 90) hx hb dX8_gains_80 (by decide) ?_
  exact k.2 p e s m below meth c _ _ _ _ _ X I hn.1 hn.2 (lv_sub hl [0, 1, 2, 3, 4] rfl)
set_option maxRecDepth 100000 in
set_option maxHeartbeats 4000000 in
theorem v_X8_gains_90 {G : sG} {d : Nat} {vs0 : List Value} {σ0 : sS} {v0 : Nat} {v1 : Int32} {v2 : Int32} {v3 : Int32} {v4 : Int32} {w0 : Int32} {σ : sS} {z : sZ Int32} {r : Int32 × sS} (hf : T_X8_gains_90 v0 v1 v2 v3 v4 w0 σ = some z) (k : s_K G (d + 8) M_X8_gains vs0 σ0 Y_X8_gains e_I z r) : s_V G (d + 8) M_X8_gains vs0 σ0 Y_X8_gains (90, [.ref v0, .int v1, .int v2, .int v3, .int v4, .int w0], σ) (e_I r) := by
  have le0 : s_le σ (e_I r).2 := s_lek hem_I (l_X8_gains_90 hf) k
  refine ⟨le0, ?_⟩
  intro p e s m below meth c H locs cells slots ls X I hn1 hn2 hl
  have hn : cells + σ0.2.1 ≤ σ.2.1 ∧ slots + σ0.2.2.1 ≤ σ.2.2.1 := ⟨hn1, hn2⟩
  have hl : lv_has ls 6 [(0, .ref v0), (1, .int v1), (2, .int v2), (3, .int v3), (4, .int v4)] := hl
  have hx := X.1
  have hb : c.code = cX8_gains := X.2.1
  have hown : s.vm.findClass RX8 = some m.cls := X.2.2.2.2.2.1
  have hts := X.2.2.2.2.2.2.1
  refine W.eq (g2 := F0 m 90 ls [.int w0]) rfl ?_
  unfold T_X8_gains_90 at hf
  obtain ⟨q1, h1, hf⟩ := s_bind hf
  have le2 : s_le q1.2 (e_I r).2 := by
    refine s_lek hem_I ?_ k
    rcases s_ite hf with ⟨-, hf⟩ | ⟨-, hf⟩
    · cases hf
      exact s_le.rf
    · obtain ⟨q2, hh, hf⟩ := s_bind hf
      refine s_lz.tr (l_X8_ofReceipt hh) ?_
      rcases s_ite hf with ⟨-, hf⟩ | ⟨-, hf⟩
      · cases hf
        exact s_le.rf
      · cases hf
        exact s_le.rf
  refine lv_istore (lv' := [(5, .int w0), (0, .ref v0), (1, .int v1), (2, .int v2), (3, .int v3), (4, .int v4)]) hx hb dX8_gains_90 hl (by decide) rfl (fun ls hl => ?_)
  refine lv_iload_n hx hb dX8_gains_92 rfl (lv_at hl 4 rfl) ?_
  refine lv_aload_n hx hb dX8_gains_93 rfl (lv_at hl 1 rfl) ?_
  refine lv_iload hx hb dX8_gains_94 (lv_at hl 5 rfl) ?_
  refine r_callV (Y := M_X8_seller) (v := some (.int q1.1)) X I w_2315 my_X8_seller (by omega) (t_X8_seller (G := G) (d := d + 5) h1) (b_X8_seller h1) rfl rfl hl.1 rfl (Nat.le_of_ble_eq_true rfl) hn le2 dX8_gains_96 (fun H locs cells slots I hn1 hn2 => ?_)
  have I : s_I G q1.2 s H locs := I
  have hn : cells + σ0.2.1 ≤ q1.2.2.1 ∧ slots + σ0.2.2.1 ≤ q1.2.2.2.1 := ⟨hn1, hn2⟩
  refine lv_iload_n hx hb dX8_gains_99 rfl (lv_at hl 2 rfl) ?_
  rcases s_ite hf with ⟨c3, hf⟩ | ⟨c3, hf⟩
  · refine lv_icmp_ne (tgt := 108) hx hb dX8_gains_100 (by decide) (fun n => absurd c3 n) (fun _ => ?_)
    cases hf
    have k : s_V G (d + 8) M_X8_gains vs0 σ0 Y_X8_gains (128, [.ref v0, .int v1, .int v2, .int v4, .int w0, .int v3], q1.2) (e_I r) := k
    refine lv_iload hx hb dX8_gains_103 (lv_at hl 0 rfl) ?_
    refine lv_goto (tgt := 128) hx hb dX8_gains_105 (by decide) ?_
    exact k.2 p e s m below meth c _ _ _ _ _ X I hn.1 hn.2 (lv_sub hl [1, 2, 3, 5] rfl)
  · refine lv_icmp_ne (tgt := 108) hx hb dX8_gains_100 (by decide) (fun _ => ?_) (fun n => absurd n c3)
    obtain ⟨q2, h4, hf⟩ := s_bind hf
    have le5 : s_le q2.2 (e_I r).2 := by
      refine s_lek hem_I ?_ k
      rcases s_ite hf with ⟨-, hf⟩ | ⟨-, hf⟩
      · cases hf
        exact s_le.rf
      · cases hf
        exact s_le.rf
    refine lv_aload_n hx hb dX8_gains_108 rfl (lv_at hl 1 rfl) ?_
    refine lv_iload hx hb dX8_gains_109 (lv_at hl 5 rfl) ?_
    refine lv_iconst (v := 1) hx hb dX8_gains_111 (by decide) ?_
    refine r_callV (Y := M_X8_ofReceipt) (v := some (.int q2.1)) X I w_2307 my_X8_ofReceipt (by omega) (t_X8_ofReceipt (G := G) (d := d + 6) h4) (b_X8_ofReceipt h4) rfl rfl hl.1 rfl (Nat.le_of_ble_eq_true rfl) hn le5 dX8_gains_112 (fun H locs cells slots I hn1 hn2 => ?_)
    have I : s_I G q2.2 s H locs := I
    have hn : cells + σ0.2.1 ≤ q2.2.2.1 ∧ slots + σ0.2.2.1 ≤ q2.2.2.2.1 := ⟨hn1, hn2⟩
    refine lv_iconst (v := 4) hx hb dX8_gains_115 (by decide) ?_
    refine lv_isub hx hb dX8_gains_116 ?_
    refine lv_iload_n hx hb dX8_gains_117 rfl (lv_at hl 2 rfl) ?_
    rcases s_ite hf with ⟨c6, hf⟩ | ⟨c6, hf⟩
    · refine lv_icmp_ne (tgt := 127) hx hb dX8_gains_118 (by decide) (fun n => absurd c6 n) (fun _ => ?_)
      cases hf
      have k : s_V G (d + 8) M_X8_gains vs0 σ0 Y_X8_gains (128, [.ref v0, .int v1, .int v2, .int v4, .int (-w0), .int v3], q2.2) (e_I r) := k
      refine lv_iload hx hb dX8_gains_121 (lv_at hl 0 rfl) ?_
      refine lv_ineg hx hb dX8_gains_123 ?_
      refine lv_goto (tgt := 128) hx hb dX8_gains_124 (by decide) ?_
      exact k.2 p e s m below meth c _ _ _ _ _ X I hn.1 hn.2 (lv_sub hl [1, 2, 3, 5] rfl)
    · refine lv_icmp_ne (tgt := 127) hx hb dX8_gains_118 (by decide) (fun _ => ?_) (fun n => absurd n c6)
      cases hf
      have k : s_V G (d + 8) M_X8_gains vs0 σ0 Y_X8_gains (128, [.ref v0, .int v1, .int v2, .int v4, .int 0, .int v3], q2.2) (e_I r) := k
      refine lv_iconst (v := 0) hx hb dX8_gains_127 (by decide) ?_
      exact k.2 p e s m below meth c _ _ _ _ _ X I hn.1 hn.2 (lv_sub hl [1, 2, 3, 5] rfl)
set_option maxRecDepth 100000 in
set_option maxHeartbeats 4000000 in
theorem v_X8_gains_128 {G : sG} {d : Nat} {vs0 : List Value} {σ0 : sS} {v0 : Nat} {v1 : Int32} {v2 : Int32} {v4 : Int32} {w0 : Int32} {w1 : Int32} {σ : sS} {z : sZ Int32} {r : Int32 × sS} (hf : T_X8_gains_128 v0 v1 v2 v4 w0 w1 σ = some z) (k : s_K G (d + 8) M_X8_gains vs0 σ0 Y_X8_gains e_I z r) : s_V G (d + 8) M_X8_gains vs0 σ0 Y_X8_gains (128, [.ref v0, .int v1, .int v2, .int v4, .int w0, .int w1], σ) (e_I r) := by
  have le0 : s_le σ (e_I r).2 := s_lek hem_I (l_X8_gains_128 hf) k
  refine ⟨le0, ?_⟩
  intro p e s m below meth c H locs cells slots ls X I hn1 hn2 hl
  have hn : cells + σ0.2.1 ≤ σ.2.1 ∧ slots + σ0.2.2.1 ≤ σ.2.2.1 := ⟨hn1, hn2⟩
  have hl : lv_has ls 6 [(0, .ref v0), (1, .int v1), (2, .int v2), (4, .int v4)] := hl
  have hx := X.1
  have hb : c.code = cX8_gains := X.2.1
  have hown : s.vm.findClass RX8 = some m.cls := X.2.2.2.2.2.1
  have hts := X.2.2.2.2.2.2.1
  refine W.eq (g2 := F0 m 128 ls [.int w0, .int w1]) rfl ?_
  unfold T_X8_gains_128 at hf
  cases hf
  have k : s_V G (d + 8) M_X8_gains vs0 σ0 Y_X8_gains (51, [.ref v0, .int v1, .int v2, .int (w1 + w0), .int (v4 + 1)], σ) (e_I r) := k
  refine lv_iadd hx hb dX8_gains_128 ?_
  refine lv_istore_n (lv' := [(3, .int (w1 + w0)), (0, .ref v0), (1, .int v1), (2, .int v2), (4, .int v4)]) hx hb dX8_gains_129 rfl hl (by decide) rfl (fun ls hl => ?_)
  refine lv_iinc (v := (v4 + 1)) (lv' := [(4, .int (v4 + 1)), (3, .int (w1 + w0)), (0, .ref v0), (1, .int v1), (2, .int v2)]) hx hb dX8_gains_130 hl (k := 4) rfl rfl (by decide) rfl (fun ls hl => ?_)
  refine lv_goto (tgt := 51) hx hb dX8_gains_133 (by decide) ?_
  exact k.2 p e s m below meth c _ _ _ _ _ X I hn.1 hn.2 (lv_sub hl [2, 3, 4, 1, 0] rfl)
theorem v_X8_gains {G : sG} {d : Nat} {vs0 : List Value} {σ0 : sS} {x : sL} {z : sZ Int32} {r : Int32 × sS} (hs : S_X8_gains x = some z) (k : s_K G (d + 8) M_X8_gains vs0 σ0 Y_X8_gains e_I z r) : s_V G (d + 8) M_X8_gains vs0 σ0 Y_X8_gains x (e_I r) := by
  obtain ⟨pc, vs, σ⟩ := x
  unfold S_X8_gains at hs
  dsimp only at hs
  rcases s_ite hs with ⟨c, hs⟩ | ⟨-, hs⟩
  · subst c
    unfold U_X8_gains_0 at hs
    obtain ⟨a0, g0, hs⟩ := s_bind hs
    obtain ⟨a1, g1, hs⟩ := s_bind hs
    obtain ⟨a2, g2, hs⟩ := s_bind hs
    obtain ⟨u9, ge, hs⟩ := s_bind hs
    rw [g_r_to g0, g_i_to g1, g_i_to g2, g_e_to ge]
    exact v_X8_gains_0 hs k
  rcases s_ite hs with ⟨c, hs⟩ | ⟨-, hs⟩
  · subst c
    unfold U_X8_gains_33 at hs
    obtain ⟨a0, g0, hs⟩ := s_bind hs
    obtain ⟨a1, g1, hs⟩ := s_bind hs
    obtain ⟨a2, g2, hs⟩ := s_bind hs
    obtain ⟨a3, g3, hs⟩ := s_bind hs
    obtain ⟨a4, g4, hs⟩ := s_bind hs
    obtain ⟨u9, ge, hs⟩ := s_bind hs
    rw [g_r_to g0, g_i_to g1, g_i_to g2, g_i_to g3, g_r_to g4, g_e_to ge]
    exact v_X8_gains_33 hs k
  rcases s_ite hs with ⟨c, hs⟩ | ⟨-, hs⟩
  · subst c
    unfold U_X8_gains_51 at hs
    obtain ⟨a0, g0, hs⟩ := s_bind hs
    obtain ⟨a1, g1, hs⟩ := s_bind hs
    obtain ⟨a2, g2, hs⟩ := s_bind hs
    obtain ⟨a3, g3, hs⟩ := s_bind hs
    obtain ⟨a4, g4, hs⟩ := s_bind hs
    obtain ⟨u9, ge, hs⟩ := s_bind hs
    rw [g_r_to g0, g_i_to g1, g_i_to g2, g_i_to g3, g_i_to g4, g_e_to ge]
    exact v_X8_gains_51 hs k
  rcases s_ite hs with ⟨c, hs⟩ | ⟨-, hs⟩
  · subst c
    unfold U_X8_gains_79 at hs
    obtain ⟨a0, g0, hs⟩ := s_bind hs
    obtain ⟨a1, g1, hs⟩ := s_bind hs
    obtain ⟨a2, g2, hs⟩ := s_bind hs
    obtain ⟨a3, g3, hs⟩ := s_bind hs
    obtain ⟨a4, g4, hs⟩ := s_bind hs
    obtain ⟨u9, ge, hs⟩ := s_bind hs
    rw [g_r_to g0, g_i_to g1, g_i_to g2, g_i_to g3, g_i_to g4, g_e_to ge]
    exact v_X8_gains_79 hs k
  rcases s_ite hs with ⟨c, hs⟩ | ⟨-, hs⟩
  · subst c
    unfold U_X8_gains_90 at hs
    obtain ⟨a0, g0, hs⟩ := s_bind hs
    obtain ⟨a1, g1, hs⟩ := s_bind hs
    obtain ⟨a2, g2, hs⟩ := s_bind hs
    obtain ⟨a3, g3, hs⟩ := s_bind hs
    obtain ⟨a4, g4, hs⟩ := s_bind hs
    obtain ⟨a5, g5, hs⟩ := s_bind hs
    obtain ⟨u9, ge, hs⟩ := s_bind hs
    rw [g_r_to g0, g_i_to g1, g_i_to g2, g_i_to g3, g_i_to g4, g_i_to g5, g_e_to ge]
    exact v_X8_gains_90 hs k
  rcases s_ite hs with ⟨c, hs⟩ | ⟨-, hs⟩
  · subst c
    unfold U_X8_gains_128 at hs
    obtain ⟨a0, g0, hs⟩ := s_bind hs
    obtain ⟨a1, g1, hs⟩ := s_bind hs
    obtain ⟨a2, g2, hs⟩ := s_bind hs
    obtain ⟨a3, g3, hs⟩ := s_bind hs
    obtain ⟨a4, g4, hs⟩ := s_bind hs
    obtain ⟨a5, g5, hs⟩ := s_bind hs
    obtain ⟨u9, ge, hs⟩ := s_bind hs
    rw [g_r_to g0, g_i_to g1, g_i_to g2, g_i_to g3, g_i_to g4, g_i_to g5, g_e_to ge]
    exact v_X8_gains_128 hs k
  cases hs
theorem t_X8_gains {G : sG} {d : Nat} {v0 : Nat} {v1 : Int32} {v2 : Int32} {σ : sS} {q : Int32 × sS} (h : F_X8_gains v0 v1 v2 σ = some q) : s_T G (d + 8) M_X8_gains [.ref v0, .int v1, .int v2] σ (e_I q) := by
  unfold F_X8_gains at h
  obtain ⟨-, -, h⟩ := s_bind h
  exact s_ofV rfl (by decide) (Nat.le_of_ble_eq_true rfl) rfl rfl (s_run_ind (V := fun x r => s_V G (d + 8) M_X8_gains [.ref v0, .int v1, .int v2] σ Y_X8_gains x (e_I r)) (fun x z r hs hk => v_X8_gains hs (by cases z <;> exact hk)) h)
/-! X1_addReceipt -/
noncomputable def T_X1_addReceipt_0 (v0 : Nat) (v1 : Int32) (v2 : Int32) (v3 : Int32) (v4 : Int32) (σ : sS) : Option (sZ Int32) :=
  (s_fi σ v0 1 9).bind fun x1 =>
  if x1 < 30 then ((s_fi σ v0 1 9).bind fun x2 =>
  (s_fr σ v0 1 14).bind fun x3 =>
  (s_si σ x3 ((x2 * 4) + 0) v1).bind fun σ4 =>
  (s_fr σ4 v0 1 14).bind fun x5 =>
  (s_si σ4 x5 ((x2 * 4) + 1) v2).bind fun σ6 =>
  (s_fr σ6 v0 1 14).bind fun x7 =>
  (s_si σ6 x7 ((x2 * 4) + 2) v3).bind fun σ8 =>
  (s_fr σ8 v0 1 14).bind fun x9 =>
  (s_si σ8 x9 ((x2 * 4) + 3) v4).bind fun σ10 =>
  (s_fi σ10 v0 1 9).bind fun x11 =>
  (s_pf σ10 v0 1 9 (.int (x11 + 1))).bind fun σ12 =>
  some (.inr (x11, σ12)))
  else (some (.inr ((-1), σ)))
noncomputable def U_X1_addReceipt_0 (vs : List Value) (σ : sS) : Option (sZ Int32) := (g_r vs).bind fun a0 => (g_i a0.2).bind fun a1 => (g_i a1.2).bind fun a2 => (g_i a2.2).bind fun a3 => (g_i a3.2).bind fun a4 => (g_e a4.2).bind fun _ => T_X1_addReceipt_0 a0.1 a1.1 a2.1 a3.1 a4.1 σ
noncomputable def S_X1_addReceipt (x : sL) : Option (sZ Int32) := if x.1 = 0 then U_X1_addReceipt_0 x.2.1 x.2.2 else none
def Y_X1_addReceipt (pc : Nat) : List Nat := if pc = 0 then [0, 1, 2, 3, 4] else []
noncomputable def F_X1_addReceipt (v0 : Nat) (v1 : Int32) (v2 : Int32) (v3 : Int32) (v4 : Int32) (σ : sS) : Option (Int32 × sS) := (s_is σ v0 1).bind fun _ => s_run S_X1_addReceipt (0, [.ref v0, .int v1, .int v2, .int v3, .int v4], σ)
theorem l_X1_addReceipt_0 {v0 : Nat} {v1 : Int32} {v2 : Int32} {v3 : Int32} {v4 : Int32} {σ : sS} {z : sZ Int32} (hf : T_X1_addReceipt_0 v0 v1 v2 v3 v4 σ = some z) : s_lz σ z := by
  unfold T_X1_addReceipt_0 at hf
  obtain ⟨x1, -, hf⟩ := s_bind hf
  rcases s_ite hf with ⟨-, hf⟩ | ⟨-, hf⟩
  · obtain ⟨x2, -, hf⟩ := s_bind hf
    obtain ⟨x3, -, hf⟩ := s_bind hf
    obtain ⟨σ4, hh, hf⟩ := s_bind hf
    refine s_lz.tr (s_le2 (s_si_2 hh)) ?_
    obtain ⟨x5, -, hf⟩ := s_bind hf
    obtain ⟨σ6, hh, hf⟩ := s_bind hf
    refine s_lz.tr (s_le2 (s_si_2 hh)) ?_
    obtain ⟨x7, -, hf⟩ := s_bind hf
    obtain ⟨σ8, hh, hf⟩ := s_bind hf
    refine s_lz.tr (s_le2 (s_si_2 hh)) ?_
    obtain ⟨x9, -, hf⟩ := s_bind hf
    obtain ⟨σ10, hh, hf⟩ := s_bind hf
    refine s_lz.tr (s_le2 (s_si_2 hh)) ?_
    obtain ⟨x11, -, hf⟩ := s_bind hf
    obtain ⟨σ12, hh, hf⟩ := s_bind hf
    refine s_lz.tr (s_le2 (s_pf_2 hh)) ?_
    cases hf
    exact s_le.rf
  · cases hf
    exact s_le.rf
theorem l_X1_addReceipt_s {x : sL} {z : sZ Int32} (hs : S_X1_addReceipt x = some z) : s_lz x.2.2 z := by
  obtain ⟨pc, vs, σ⟩ := x
  unfold S_X1_addReceipt at hs
  dsimp only at hs ⊢
  rcases s_ite hs with ⟨c, hs⟩ | ⟨-, hs⟩
  · subst c
    unfold U_X1_addReceipt_0 at hs
    obtain ⟨a0, g0, hs⟩ := s_bind hs
    obtain ⟨a1, g1, hs⟩ := s_bind hs
    obtain ⟨a2, g2, hs⟩ := s_bind hs
    obtain ⟨a3, g3, hs⟩ := s_bind hs
    obtain ⟨a4, g4, hs⟩ := s_bind hs
    obtain ⟨u9, ge, hs⟩ := s_bind hs
    exact l_X1_addReceipt_0 hs
  cases hs
theorem l_X1_addReceipt {v0 : Nat} {v1 : Int32} {v2 : Int32} {v3 : Int32} {v4 : Int32} {σ : sS} {q : Int32 × sS} (h : F_X1_addReceipt v0 v1 v2 v3 v4 σ = some q) : s_le σ q.2 := by
  unfold F_X1_addReceipt at h
  obtain ⟨-, -, h⟩ := s_bind h
  exact s_run_ind (V := fun x r => s_le x.2.2 r.2) (fun x z r hs hk => by
    have h9 := l_X1_addReceipt_s hs
    cases z with
    | inl y => exact s_le.tr h9 hk
    | inr q => cases hk; exact h9) h
theorem b_X1_addReceipt {v0 : Nat} {v1 : Int32} {v2 : Int32} {v3 : Int32} {v4 : Int32} {σ : sS} {q : Int32 × sS} (h : F_X1_addReceipt v0 v1 v2 v3 v4 σ = some q) : ∃ fs, σ.1 v0 = some (.inr (1, fs)) := by
  unfold F_X1_addReceipt at h
  obtain ⟨u, hu, -⟩ := s_bind h
  exact s_is_to hu
set_option maxRecDepth 100000 in
set_option maxHeartbeats 4000000 in
theorem v_X1_addReceipt_0 {G : sG} {d : Nat} {vs0 : List Value} {σ0 : sS} {v0 : Nat} {v1 : Int32} {v2 : Int32} {v3 : Int32} {v4 : Int32} {σ : sS} {z : sZ Int32} {r : Int32 × sS} (hf : T_X1_addReceipt_0 v0 v1 v2 v3 v4 σ = some z) (k : s_K G (d + 1) M_X1_addReceipt vs0 σ0 Y_X1_addReceipt e_I z r) : s_V G (d + 1) M_X1_addReceipt vs0 σ0 Y_X1_addReceipt (0, [.ref v0, .int v1, .int v2, .int v3, .int v4], σ) (e_I r) := by
  have le0 : s_le σ (e_I r).2 := s_lek hem_I (l_X1_addReceipt_0 hf) k
  refine ⟨le0, ?_⟩
  intro p e s m below meth c H locs cells slots ls X I hn1 hn2 hl
  have hn : cells + σ0.2.1 ≤ σ.2.1 ∧ slots + σ0.2.2.1 ≤ σ.2.2.1 := ⟨hn1, hn2⟩
  have hl : lv_has ls 6 [(0, .ref v0), (1, .int v1), (2, .int v2), (3, .int v3), (4, .int v4)] := hl
  have hx := X.1
  have hb : c.code = cX1_addReceipt := X.2.1
  have hown : s.vm.findClass RX1 = some m.cls := X.2.2.2.2.2.1
  have hts := X.2.2.2.2.2.2.1
  refine W.eq (g2 := F0 m 0 ls []) rfl ?_
  unfold T_X1_addReceipt_0 at hf
  obtain ⟨x1, h1, hf⟩ := s_bind hf
  refine lv_aload_n hx hb dX1_addReceipt_0 rfl (lv_at hl 0 rfl) ?_
  refine r_gi X I fl_X1_54 h1 dX1_addReceipt_1 ?_
  refine lv_bipush (v := 30) hx hb dX1_addReceipt_4 (by decide) ?_
  rcases s_ite hf with ⟨c2, hf⟩ | ⟨c2, hf⟩
  · refine lv_icmp_lt (tgt := 11) hx hb dX1_addReceipt_6 (by decide) (fun _ => ?_) (fun n => absurd c2 n)
    obtain ⟨x2, h3, hf⟩ := s_bind hf
    obtain ⟨x3, h4, hf⟩ := s_bind hf
    obtain ⟨σ4, h5, hf⟩ := s_bind hf
    obtain ⟨x5, h6, hf⟩ := s_bind hf
    obtain ⟨σ6, h7, hf⟩ := s_bind hf
    obtain ⟨x7, h8, hf⟩ := s_bind hf
    obtain ⟨σ8, h9, hf⟩ := s_bind hf
    obtain ⟨x9, h10, hf⟩ := s_bind hf
    obtain ⟨σ10, h11, hf⟩ := s_bind hf
    obtain ⟨x11, h12, hf⟩ := s_bind hf
    obtain ⟨σ12, h13, hf⟩ := s_bind hf
    cases hf
    have k : _ = r := k
    subst k
    have le14 : s_le σ12 σ12 := s_le.rf
    have le15 := s_le.tr (s_le2 (s_pf_2 h13)) le14
    have le16 := s_le.tr (s_le2 (s_si_2 h11)) le15
    have le17 := s_le.tr (s_le2 (s_si_2 h9)) le16
    have le18 := s_le.tr (s_le2 (s_si_2 h7)) le17
    refine lv_aload_n hx hb dX1_addReceipt_11 rfl (lv_at hl 0 rfl) ?_
    refine r_gi X I fl_X1_54 h3 dX1_addReceipt_12 ?_
    refine lv_iconst (v := 4) hx hb dX1_addReceipt_15 (by decide) ?_
    refine lv_imul hx hb dX1_addReceipt_16 ?_
    refine lv_istore (lv' := [(5, .int (x2 * 4)), (0, .ref v0), (1, .int v1), (2, .int v2), (3, .int v3), (4, .int v4)]) hx hb dX1_addReceipt_17 hl (by decide) rfl (fun ls hl => ?_)
    refine lv_aload_n hx hb dX1_addReceipt_19 rfl (lv_at hl 1 rfl) ?_
    refine r_gr X I fl_X1_41 h4 dX1_addReceipt_20 ?_
    refine lv_iload hx hb dX1_addReceipt_23 (lv_at hl 0 rfl) ?_
    refine lv_iconst (v := 0) hx hb dX1_addReceipt_25 (by decide) ?_
    refine lv_iadd hx hb dX1_addReceipt_26 ?_
    refine lv_iload_n hx hb dX1_addReceipt_27 rfl (lv_at hl 2 rfl) ?_
    refine r_iast X I h5 dX1_addReceipt_28 (fun H locs I => ?_)
    have hn := s_k2 (s_si_2 h5) hn
    refine lv_aload_n hx hb dX1_addReceipt_29 rfl (lv_at hl 1 rfl) ?_
    refine r_gr X I fl_X1_41 h6 dX1_addReceipt_30 ?_
    refine lv_iload hx hb dX1_addReceipt_33 (lv_at hl 0 rfl) ?_
    refine lv_iconst (v := 1) hx hb dX1_addReceipt_35 (by decide) ?_
    refine lv_iadd hx hb dX1_addReceipt_36 ?_
    refine lv_iload_n hx hb dX1_addReceipt_37 rfl (lv_at hl 3 rfl) ?_
    refine r_iast X I h7 dX1_addReceipt_38 (fun H locs I => ?_)
    have hn := s_k2 (s_si_2 h7) hn
    refine lv_aload_n hx hb dX1_addReceipt_39 rfl (lv_at hl 1 rfl) ?_
    refine r_gr X I fl_X1_41 h8 dX1_addReceipt_40 ?_
    refine lv_iload hx hb dX1_addReceipt_43 (lv_at hl 0 rfl) ?_
    refine lv_iconst (v := 2) hx hb dX1_addReceipt_45 (by decide) ?_
    refine lv_iadd hx hb dX1_addReceipt_46 ?_
    refine lv_iload_n hx hb dX1_addReceipt_47 rfl (lv_at hl 4 rfl) ?_
    refine r_iast X I h9 dX1_addReceipt_48 (fun H locs I => ?_)
    have hn := s_k2 (s_si_2 h9) hn
    refine lv_aload_n hx hb dX1_addReceipt_49 rfl (lv_at hl 1 rfl) ?_
    refine r_gr X I fl_X1_41 h10 dX1_addReceipt_50 ?_
    refine lv_iload hx hb dX1_addReceipt_53 (lv_at hl 0 rfl) ?_
    refine lv_iconst (v := 3) hx hb dX1_addReceipt_55 (by decide) ?_
    refine lv_iadd hx hb dX1_addReceipt_56 ?_
    refine lv_iload hx hb dX1_addReceipt_57 (lv_at hl 5 rfl) ?_
    refine r_iast X I h11 dX1_addReceipt_59 (fun H locs I => ?_)
    have hn := s_k2 (s_si_2 h11) hn
    refine lv_aload_n hx hb dX1_addReceipt_60 rfl (lv_at hl 1 rfl) ?_
    refine lv_dup hx hb dX1_addReceipt_61 rfl ?_
    refine r_gi X I fl_X1_54 h12 dX1_addReceipt_62 ?_
    refine lv_dup_x1 hx hb dX1_addReceipt_65 rfl rfl ?_
    refine lv_iconst (v := 1) hx hb dX1_addReceipt_66 (by decide) ?_
    refine lv_iadd hx hb dX1_addReceipt_67 ?_
    refine r_put X I fp_X1_54 (fun h => by cases h) h13 rfl rfl dX1_addReceipt_68 (fun H locs I => ?_)
    have hn := s_k2 (s_pf_2 h13) hn
    exact r_iret X I rfl rfl rfl hn dX1_addReceipt_71
  · refine lv_icmp_lt (tgt := 11) hx hb dX1_addReceipt_6 (by decide) (fun n => absurd n c2) (fun _ => ?_)
    cases hf
    have k : _ = r := k
    subst k
    refine lv_iconst (v := (-1)) hx hb dX1_addReceipt_9 (by decide) ?_
    exact r_iret X I rfl rfl rfl hn dX1_addReceipt_10
theorem v_X1_addReceipt {G : sG} {d : Nat} {vs0 : List Value} {σ0 : sS} {x : sL} {z : sZ Int32} {r : Int32 × sS} (hs : S_X1_addReceipt x = some z) (k : s_K G (d + 1) M_X1_addReceipt vs0 σ0 Y_X1_addReceipt e_I z r) : s_V G (d + 1) M_X1_addReceipt vs0 σ0 Y_X1_addReceipt x (e_I r) := by
  obtain ⟨pc, vs, σ⟩ := x
  unfold S_X1_addReceipt at hs
  dsimp only at hs
  rcases s_ite hs with ⟨c, hs⟩ | ⟨-, hs⟩
  · subst c
    unfold U_X1_addReceipt_0 at hs
    obtain ⟨a0, g0, hs⟩ := s_bind hs
    obtain ⟨a1, g1, hs⟩ := s_bind hs
    obtain ⟨a2, g2, hs⟩ := s_bind hs
    obtain ⟨a3, g3, hs⟩ := s_bind hs
    obtain ⟨a4, g4, hs⟩ := s_bind hs
    obtain ⟨u9, ge, hs⟩ := s_bind hs
    rw [g_r_to g0, g_i_to g1, g_i_to g2, g_i_to g3, g_i_to g4, g_e_to ge]
    exact v_X1_addReceipt_0 hs k
  cases hs
theorem t_X1_addReceipt {G : sG} {d : Nat} {v0 : Nat} {v1 : Int32} {v2 : Int32} {v3 : Int32} {v4 : Int32} {σ : sS} {q : Int32 × sS} (h : F_X1_addReceipt v0 v1 v2 v3 v4 σ = some q) : s_T G (d + 1) M_X1_addReceipt [.ref v0, .int v1, .int v2, .int v3, .int v4] σ (e_I q) := by
  unfold F_X1_addReceipt at h
  obtain ⟨-, -, h⟩ := s_bind h
  exact s_ofV rfl (by decide) (Nat.le_of_ble_eq_true rfl) rfl rfl (s_run_ind (V := fun x r => s_V G (d + 1) M_X1_addReceipt [.ref v0, .int v1, .int v2, .int v3, .int v4] σ Y_X1_addReceipt x (e_I r)) (fun x z r hs hk => v_X1_addReceipt hs (by cases z <;> exact hk)) h)
/-! X7_sell -/
noncomputable def T_X7_sell_0 (v0 : Nat) (v1 : Int32) (v2 : Int32) (v3 : Int32) (v4 : Int32) (σ : sS) : Option (sZ (Int32 ⊕ String)) :=
  (F_X7_needLine v0 v1 σ).bind fun q1 => s_sum q1.1 (fun x2 => (s_fr q1.2 v0 7 1).bind fun x4 =>
  (F_X1_ofLine x4 v1 0 q1.2).bind fun q5 =>
  if v2 = (4 + q5.1) then (some (.inl (25, [.ref v0, .int v1, .int v2, .int v3, .int v4, .int 1], q5.2)))
  else (some (.inl (25, [.ref v0, .int v1, .int v2, .int v3, .int v4, .int 0], q5.2)))) (fun E3 => some (.inr (.inr E3, q1.2)))
noncomputable def U_X7_sell_0 (vs : List Value) (σ : sS) : Option (sZ (Int32 ⊕ String)) := (g_r vs).bind fun a0 => (g_i a0.2).bind fun a1 => (g_i a1.2).bind fun a2 => (g_i a2.2).bind fun a3 => (g_i a3.2).bind fun a4 => (g_e a4.2).bind fun _ => T_X7_sell_0 a0.1 a1.1 a2.1 a3.1 a4.1 σ
noncomputable def T_X7_sell_25 (v0 : Nat) (v1 : Int32) (v2 : Int32) (v3 : Int32) (v4 : Int32) (w0 : Int32) (σ : sS) : Option (sZ (Int32 ⊕ String)) :=
  if v2 < 0 then (some (.inr (.inr "java/lang/IllegalArgumentException", s_ex σ)))
  else (if (7 : Int32) ≤ v2 then (some (.inr (.inr "java/lang/IllegalArgumentException", s_ex σ)))
  else (if w0 = 0 then (if v3 < 0 then (some (.inr (.inr "java/lang/IllegalArgumentException", s_ex σ)))
  else (if (9999 : Int32) < v3 then (some (.inr (.inr "java/lang/IllegalArgumentException", s_ex σ)))
  else (if v4 < 0 then (some (.inr (.inr "java/lang/IllegalArgumentException", s_ex σ)))
  else (if v4 ≤ 9999 then ((s_fr σ v0 7 1).bind fun x1 =>
  (s_fi σ x1 1 9).bind fun x2 =>
  if x2 < 30 then ((s_fr σ v0 7 1).bind fun x3 =>
  (F_X1_addReceipt x3 v1 v2 v3 v4 σ).bind fun q4 =>
  some (.inr (.inl q4.1, q4.2)))
  else (some (.inr (.inr "java/lang/UnsupportedOperationException", s_ex σ))))
  else (some (.inr (.inr "java/lang/IllegalArgumentException", s_ex σ)))))))
  else (some (.inr (.inr "java/lang/IllegalArgumentException", s_ex σ)))))
noncomputable def U_X7_sell_25 (vs : List Value) (σ : sS) : Option (sZ (Int32 ⊕ String)) := (g_r vs).bind fun a0 => (g_i a0.2).bind fun a1 => (g_i a1.2).bind fun a2 => (g_i a2.2).bind fun a3 => (g_i a3.2).bind fun a4 => (g_i a4.2).bind fun a5 => (g_e a5.2).bind fun _ => T_X7_sell_25 a0.1 a1.1 a2.1 a3.1 a4.1 a5.1 σ
noncomputable def S_X7_sell (x : sL) : Option (sZ (Int32 ⊕ String)) := if x.1 = 0 then U_X7_sell_0 x.2.1 x.2.2 else if x.1 = 25 then U_X7_sell_25 x.2.1 x.2.2 else none
def Y_X7_sell (pc : Nat) : List Nat := if pc = 0 then [0, 1, 2, 3, 4] else if pc = 25 then [0, 1, 2, 3, 4] else []
noncomputable def F_X7_sell (v0 : Nat) (v1 : Int32) (v2 : Int32) (v3 : Int32) (v4 : Int32) (σ : sS) : Option ((Int32 ⊕ String) × sS) := (s_is σ v0 7).bind fun _ => s_run S_X7_sell (0, [.ref v0, .int v1, .int v2, .int v3, .int v4], σ)
theorem l_X7_sell_0 {v0 : Nat} {v1 : Int32} {v2 : Int32} {v3 : Int32} {v4 : Int32} {σ : sS} {z : sZ (Int32 ⊕ String)} (hf : T_X7_sell_0 v0 v1 v2 v3 v4 σ = some z) : s_lz σ z := by
  unfold T_X7_sell_0 at hf
  obtain ⟨q1, hh, hf⟩ := s_bind hf
  refine s_lz.tr (l_X7_needLine hh) ?_
  rcases s_sum_some hf with ⟨x2, -, hf⟩ | ⟨E3, -, hf⟩
  · obtain ⟨x4, -, hf⟩ := s_bind hf
    obtain ⟨q5, hh, hf⟩ := s_bind hf
    refine s_lz.tr (l_X1_ofLine hh) ?_
    rcases s_ite hf with ⟨-, hf⟩ | ⟨-, hf⟩
    · cases hf
      exact s_le.rf
    · cases hf
      exact s_le.rf
  · cases hf
    exact s_le.rf
theorem l_X7_sell_25 {v0 : Nat} {v1 : Int32} {v2 : Int32} {v3 : Int32} {v4 : Int32} {w0 : Int32} {σ : sS} {z : sZ (Int32 ⊕ String)} (hf : T_X7_sell_25 v0 v1 v2 v3 v4 w0 σ = some z) : s_lz σ z := by
  unfold T_X7_sell_25 at hf
  rcases s_ite hf with ⟨-, hf⟩ | ⟨-, hf⟩
  · cases hf
    exact s_ex_le
  · rcases s_ite hf with ⟨-, hf⟩ | ⟨-, hf⟩
    · cases hf
      exact s_ex_le
    · rcases s_ite hf with ⟨-, hf⟩ | ⟨-, hf⟩
      · rcases s_ite hf with ⟨-, hf⟩ | ⟨-, hf⟩
        · cases hf
          exact s_ex_le
        · rcases s_ite hf with ⟨-, hf⟩ | ⟨-, hf⟩
          · cases hf
            exact s_ex_le
          · rcases s_ite hf with ⟨-, hf⟩ | ⟨-, hf⟩
            · cases hf
              exact s_ex_le
            · rcases s_ite hf with ⟨-, hf⟩ | ⟨-, hf⟩
              · obtain ⟨x1, -, hf⟩ := s_bind hf
                obtain ⟨x2, -, hf⟩ := s_bind hf
                rcases s_ite hf with ⟨-, hf⟩ | ⟨-, hf⟩
                · obtain ⟨x3, -, hf⟩ := s_bind hf
                  obtain ⟨q4, hh, hf⟩ := s_bind hf
                  refine s_lz.tr (l_X1_addReceipt hh) ?_
                  cases hf
                  exact s_le.rf
                · cases hf
                  exact s_ex_le
              · cases hf
                exact s_ex_le
      · cases hf
        exact s_ex_le
theorem l_X7_sell_s {x : sL} {z : sZ (Int32 ⊕ String)} (hs : S_X7_sell x = some z) : s_lz x.2.2 z := by
  obtain ⟨pc, vs, σ⟩ := x
  unfold S_X7_sell at hs
  dsimp only at hs ⊢
  rcases s_ite hs with ⟨c, hs⟩ | ⟨-, hs⟩
  · subst c
    unfold U_X7_sell_0 at hs
    obtain ⟨a0, g0, hs⟩ := s_bind hs
    obtain ⟨a1, g1, hs⟩ := s_bind hs
    obtain ⟨a2, g2, hs⟩ := s_bind hs
    obtain ⟨a3, g3, hs⟩ := s_bind hs
    obtain ⟨a4, g4, hs⟩ := s_bind hs
    obtain ⟨u9, ge, hs⟩ := s_bind hs
    exact l_X7_sell_0 hs
  rcases s_ite hs with ⟨c, hs⟩ | ⟨-, hs⟩
  · subst c
    unfold U_X7_sell_25 at hs
    obtain ⟨a0, g0, hs⟩ := s_bind hs
    obtain ⟨a1, g1, hs⟩ := s_bind hs
    obtain ⟨a2, g2, hs⟩ := s_bind hs
    obtain ⟨a3, g3, hs⟩ := s_bind hs
    obtain ⟨a4, g4, hs⟩ := s_bind hs
    obtain ⟨a5, g5, hs⟩ := s_bind hs
    obtain ⟨u9, ge, hs⟩ := s_bind hs
    exact l_X7_sell_25 hs
  cases hs
theorem l_X7_sell {v0 : Nat} {v1 : Int32} {v2 : Int32} {v3 : Int32} {v4 : Int32} {σ : sS} {q : (Int32 ⊕ String) × sS} (h : F_X7_sell v0 v1 v2 v3 v4 σ = some q) : s_le σ q.2 := by
  unfold F_X7_sell at h
  obtain ⟨-, -, h⟩ := s_bind h
  exact s_run_ind (V := fun x r => s_le x.2.2 r.2) (fun x z r hs hk => by
    have h9 := l_X7_sell_s hs
    cases z with
    | inl y => exact s_le.tr h9 hk
    | inr q => cases hk; exact h9) h
theorem b_X7_sell {v0 : Nat} {v1 : Int32} {v2 : Int32} {v3 : Int32} {v4 : Int32} {σ : sS} {q : (Int32 ⊕ String) × sS} (h : F_X7_sell v0 v1 v2 v3 v4 σ = some q) : ∃ fs, σ.1 v0 = some (.inr (7, fs)) := by
  unfold F_X7_sell at h
  obtain ⟨u, hu, -⟩ := s_bind h
  exact s_is_to hu
set_option maxRecDepth 100000 in
set_option maxHeartbeats 4000000 in
theorem v_X7_sell_0 {G : sG} {d : Nat} {vs0 : List Value} {σ0 : sS} {v0 : Nat} {v1 : Int32} {v2 : Int32} {v3 : Int32} {v4 : Int32} {σ : sS} {z : sZ (Int32 ⊕ String)} {r : (Int32 ⊕ String) × sS} (hf : T_X7_sell_0 v0 v1 v2 v3 v4 σ = some z) (k : s_K G (d + 2) M_X7_sell vs0 σ0 Y_X7_sell e_IX z r) : s_V G (d + 2) M_X7_sell vs0 σ0 Y_X7_sell (0, [.ref v0, .int v1, .int v2, .int v3, .int v4], σ) (e_IX r) := by
  have le0 : s_le σ (e_IX r).2 := s_lek hem_IX (l_X7_sell_0 hf) k
  refine ⟨le0, ?_⟩
  intro p e s m below meth c H locs cells slots ls X I hn1 hn2 hl
  have hn : cells + σ0.2.1 ≤ σ.2.1 ∧ slots + σ0.2.2.1 ≤ σ.2.2.1 := ⟨hn1, hn2⟩
  have hl : lv_has ls 6 [(0, .ref v0), (1, .int v1), (2, .int v2), (3, .int v3), (4, .int v4)] := hl
  have hx := X.1
  have hb : c.code = cX7_sell := X.2.1
  have hown : s.vm.findClass RX7 = some m.cls := X.2.2.2.2.2.1
  have hts := X.2.2.2.2.2.2.1
  refine W.eq (g2 := F0 m 0 ls []) rfl ?_
  unfold T_X7_sell_0 at hf
  obtain ⟨q1, h1, hf⟩ := s_bind hf
  refine lv_aload_n hx hb dX7_sell_0 rfl (lv_at hl 0 rfl) ?_
  refine lv_iload_n hx hb dX7_sell_1 rfl (lv_at hl 1 rfl) ?_
  rcases s_sum_some hf with ⟨x2, hq2, hf⟩ | ⟨E3, hq2, hf⟩
  · have le3 : s_le q1.2 (e_IX r).2 := by
      refine s_lek hem_IX ?_ k
      obtain ⟨x4, -, hf⟩ := s_bind hf
      obtain ⟨q5, hh, hf⟩ := s_bind hf
      refine s_lz.tr (l_X1_ofLine hh) ?_
      rcases s_ite hf with ⟨-, hf⟩ | ⟨-, hf⟩
      · cases hf
        exact s_le.rf
      · cases hf
        exact s_le.rf
    refine r_callV (Y := M_X7_needLine) (v := none) X I w_1138 my_X7_needLine (by omega) (t_X7_needLine (G := G) (d := d + 0) h1) (b_X7_needLine h1) (e_VX_l hq2) rfl hl.1 rfl (Nat.le_of_ble_eq_true rfl) hn le3 dX7_sell_2 (fun H locs cells slots I hn1 hn2 => ?_)
    have I : s_I G q1.2 s H locs := I
    have hn : cells + σ0.2.1 ≤ q1.2.2.1 ∧ slots + σ0.2.2.1 ≤ q1.2.2.2.1 := ⟨hn1, hn2⟩
    obtain ⟨x4, h4, hf⟩ := s_bind hf
    obtain ⟨q5, h5, hf⟩ := s_bind hf
    have le6 : s_le q5.2 (e_IX r).2 := by
      refine s_lek hem_IX ?_ k
      rcases s_ite hf with ⟨-, hf⟩ | ⟨-, hf⟩
      · cases hf
        exact s_le.rf
      · cases hf
        exact s_le.rf
    refine lv_iload_n hx hb dX7_sell_5 rfl (lv_at hl 2 rfl) ?_
    refine lv_iconst (v := 4) hx hb dX7_sell_6 (by decide) ?_
    refine lv_aload_n hx hb dX7_sell_7 rfl (lv_at hl 0 rfl) ?_
    refine r_gr X I fl_X7_19 h4 dX7_sell_8 ?_
    refine lv_iload_n hx hb dX7_sell_11 rfl (lv_at hl 1 rfl) ?_
    refine lv_iconst (v := 0) hx hb dX7_sell_12 (by decide) ?_
    refine r_callV (Y := M_X1_ofLine) (v := some (.int q5.1)) X I w_1183 my_X1_ofLine (by omega) (t_X1_ofLine (G := G) (d := d + 0) h5) (b_X1_ofLine h5) rfl rfl hl.1 rfl (Nat.le_of_ble_eq_true rfl) hn le6 dX7_sell_13 (fun H locs cells slots I hn1 hn2 => ?_)
    have I : s_I G q5.2 s H locs := I
    have hn : cells + σ0.2.1 ≤ q5.2.2.1 ∧ slots + σ0.2.2.1 ≤ q5.2.2.2.1 := ⟨hn1, hn2⟩
    refine lv_iadd hx hb dX7_sell_16 ?_
    rcases s_ite hf with ⟨c7, hf⟩ | ⟨c7, hf⟩
    · refine lv_icmp_ne (tgt := 24) hx hb dX7_sell_17 (by decide) (fun n => absurd c7 n) (fun _ => ?_)
      cases hf
      have k : s_V G (d + 2) M_X7_sell vs0 σ0 Y_X7_sell (25, [.ref v0, .int v1, .int v2, .int v3, .int v4, .int 1], q5.2) (e_IX r) := k
      refine lv_iconst (v := 1) hx hb dX7_sell_20 (by decide) ?_
      refine lv_goto (tgt := 25) hx hb dX7_sell_21 (by decide) ?_
      exact k.2 p e s m below meth c _ _ _ _ _ X I hn.1 hn.2 (lv_sub hl [0, 1, 2, 3, 4] rfl)
    · refine lv_icmp_ne (tgt := 24) hx hb dX7_sell_17 (by decide) (fun _ => ?_) (fun n => absurd n c7)
      cases hf
      have k : s_V G (d + 2) M_X7_sell vs0 σ0 Y_X7_sell (25, [.ref v0, .int v1, .int v2, .int v3, .int v4, .int 0], q5.2) (e_IX r) := k
      refine lv_iconst (v := 0) hx hb dX7_sell_24 (by decide) ?_
      exact k.2 p e s m below meth c _ _ _ _ _ X I hn.1 hn.2 (lv_sub hl [0, 1, 2, 3, 4] rfl)
  · cases hf
    have k : _ = r := k
    subst k
    exact r_callVx (Y := M_X7_needLine) X I rfl w_1138 my_X7_needLine (by omega) (t_X7_needLine (G := G) (d := d + 0) h1) (b_X7_needLine h1) (e_VX_r hq2) rfl hl.1 rfl (Nat.le_of_ble_eq_true rfl) hn rfl dX7_sell_2
set_option maxRecDepth 100000 in
set_option maxHeartbeats 4000000 in
theorem v_X7_sell_25 {G : sG} {d : Nat} {vs0 : List Value} {σ0 : sS} {v0 : Nat} {v1 : Int32} {v2 : Int32} {v3 : Int32} {v4 : Int32} {w0 : Int32} {σ : sS} {z : sZ (Int32 ⊕ String)} {r : (Int32 ⊕ String) × sS} (hf : T_X7_sell_25 v0 v1 v2 v3 v4 w0 σ = some z) (k : s_K G (d + 2) M_X7_sell vs0 σ0 Y_X7_sell e_IX z r) : s_V G (d + 2) M_X7_sell vs0 σ0 Y_X7_sell (25, [.ref v0, .int v1, .int v2, .int v3, .int v4, .int w0], σ) (e_IX r) := by
  have le0 : s_le σ (e_IX r).2 := s_lek hem_IX (l_X7_sell_25 hf) k
  refine ⟨le0, ?_⟩
  intro p e s m below meth c H locs cells slots ls X I hn1 hn2 hl
  have hn : cells + σ0.2.1 ≤ σ.2.1 ∧ slots + σ0.2.2.1 ≤ σ.2.2.1 := ⟨hn1, hn2⟩
  have hl : lv_has ls 6 [(0, .ref v0), (1, .int v1), (2, .int v2), (3, .int v3), (4, .int v4)] := hl
  have hx := X.1
  have hb : c.code = cX7_sell := X.2.1
  have hown : s.vm.findClass RX7 = some m.cls := X.2.2.2.2.2.1
  have hts := X.2.2.2.2.2.2.1
  refine W.eq (g2 := F0 m 25 ls [.int w0]) rfl ?_
  unfold T_X7_sell_25 at hf
  refine lv_istore (lv' := [(5, .int w0), (0, .ref v0), (1, .int v1), (2, .int v2), (3, .int v3), (4, .int v4)]) hx hb dX7_sell_25 hl (by decide) rfl (fun ls hl => ?_)
  refine lv_iload_n hx hb dX7_sell_27 rfl (lv_at hl 3 rfl) ?_
  rcases s_ite hf with ⟨c1, hf⟩ | ⟨c1, hf⟩
  · refine lv_if_lt (tgt := 42) hx hb dX7_sell_28 (by decide) (fun _ => ?_) (fun n => absurd c1 n)
    cases hf
    have k : _ = r := k
    subst k
    exact r_throwW X I rfl th_X7_96_288 hl.1 (Nat.le_of_ble_eq_true rfl) hn rfl dX7_sell_42 dX7_sell_45 dX7_sell_46 dX7_sell_49 dX7_sell_52
  · refine lv_if_lt (tgt := 42) hx hb dX7_sell_28 (by decide) (fun n => absurd n c1) (fun _ => ?_)
    refine lv_iload_n hx hb dX7_sell_31 rfl (lv_at hl 3 rfl) ?_
    refine lv_bipush (v := 7) hx hb dX7_sell_32 (by decide) ?_
    rcases s_ite hf with ⟨c2, hf⟩ | ⟨c2, hf⟩
    · refine lv_icmp_ge (tgt := 42) hx hb dX7_sell_34 (by decide) (fun _ => ?_) (fun n => absurd c2 n)
      cases hf
      have k : _ = r := k
      subst k
      exact r_throwW X I rfl th_X7_96_288 hl.1 (Nat.le_of_ble_eq_true rfl) hn rfl dX7_sell_42 dX7_sell_45 dX7_sell_46 dX7_sell_49 dX7_sell_52
    · refine lv_icmp_ge (tgt := 42) hx hb dX7_sell_34 (by decide) (fun n => absurd n c2) (fun _ => ?_)
      refine lv_iload hx hb dX7_sell_37 (lv_at hl 0 rfl) ?_
      rcases s_ite hf with ⟨c3, hf⟩ | ⟨c3, hf⟩
      · refine lv_if_eq (tgt := 53) hx hb dX7_sell_39 (by decide) (fun _ => ?_) (fun n => absurd c3 n)
        refine lv_iload_n hx hb dX7_sell_53 rfl (lv_at hl 4 rfl) ?_
        rcases s_ite hf with ⟨c4, hf⟩ | ⟨c4, hf⟩
        · refine lv_if_lt (tgt := 77) hx hb dX7_sell_54 (by decide) (fun _ => ?_) (fun n => absurd c4 n)
          cases hf
          have k : _ = r := k
          subst k
          exact r_throwW X I rfl th_X7_96_290 hl.1 (Nat.le_of_ble_eq_true rfl) hn rfl dX7_sell_77 dX7_sell_80 dX7_sell_81 dX7_sell_84 dX7_sell_87
        · refine lv_if_lt (tgt := 77) hx hb dX7_sell_54 (by decide) (fun n => absurd n c4) (fun _ => ?_)
          refine lv_iload_n hx hb dX7_sell_57 rfl (lv_at hl 4 rfl) ?_
          refine lv_sipush (v := 9999) hx hb dX7_sell_58 (by decide) ?_
          rcases s_ite hf with ⟨c5, hf⟩ | ⟨c5, hf⟩
          · refine lv_icmp_gt (tgt := 77) hx hb dX7_sell_61 (by decide) (fun _ => ?_) (fun n => absurd c5 n)
            cases hf
            have k : _ = r := k
            subst k
            exact r_throwW X I rfl th_X7_96_290 hl.1 (Nat.le_of_ble_eq_true rfl) hn rfl dX7_sell_77 dX7_sell_80 dX7_sell_81 dX7_sell_84 dX7_sell_87
          · refine lv_icmp_gt (tgt := 77) hx hb dX7_sell_61 (by decide) (fun n => absurd n c5) (fun _ => ?_)
            refine lv_iload hx hb dX7_sell_64 (lv_at hl 5 rfl) ?_
            rcases s_ite hf with ⟨c6, hf⟩ | ⟨c6, hf⟩
            · refine lv_if_lt (tgt := 77) hx hb dX7_sell_66 (by decide) (fun _ => ?_) (fun n => absurd c6 n)
              cases hf
              have k : _ = r := k
              subst k
              exact r_throwW X I rfl th_X7_96_290 hl.1 (Nat.le_of_ble_eq_true rfl) hn rfl dX7_sell_77 dX7_sell_80 dX7_sell_81 dX7_sell_84 dX7_sell_87
            · refine lv_if_lt (tgt := 77) hx hb dX7_sell_66 (by decide) (fun n => absurd n c6) (fun _ => ?_)
              refine lv_iload hx hb dX7_sell_69 (lv_at hl 5 rfl) ?_
              refine lv_sipush (v := 9999) hx hb dX7_sell_71 (by decide) ?_
              rcases s_ite hf with ⟨c7, hf⟩ | ⟨c7, hf⟩
              · refine lv_icmp_le (tgt := 88) hx hb dX7_sell_74 (by decide) (fun _ => ?_) (fun n => absurd c7 n)
                obtain ⟨x1, h8, hf⟩ := s_bind hf
                obtain ⟨x2, h9, hf⟩ := s_bind hf
                refine lv_aload_n hx hb dX7_sell_88 rfl (lv_at hl 1 rfl) ?_
                refine r_gr X I fl_X7_19 h8 dX7_sell_89 ?_
                refine r_gi X I fl_X7_292 h9 dX7_sell_92 ?_
                refine lv_bipush (v := 30) hx hb dX7_sell_95 (by decide) ?_
                rcases s_ite hf with ⟨c10, hf⟩ | ⟨c10, hf⟩
                · refine lv_icmp_lt (tgt := 111) hx hb dX7_sell_97 (by decide) (fun _ => ?_) (fun n => absurd c10 n)
                  obtain ⟨x3, h11, hf⟩ := s_bind hf
                  obtain ⟨q4, h12, hf⟩ := s_bind hf
                  cases hf
                  have k : _ = r := k
                  subst k
                  have le13 : s_le q4.2 q4.2 := s_le.rf
                  refine lv_aload_n hx hb dX7_sell_111 rfl (lv_at hl 1 rfl) ?_
                  refine r_gr X I fl_X7_19 h11 dX7_sell_112 ?_
                  refine lv_iload_n hx hb dX7_sell_115 rfl (lv_at hl 2 rfl) ?_
                  refine lv_iload_n hx hb dX7_sell_116 rfl (lv_at hl 3 rfl) ?_
                  refine lv_iload_n hx hb dX7_sell_117 rfl (lv_at hl 4 rfl) ?_
                  refine lv_iload hx hb dX7_sell_118 (lv_at hl 5 rfl) ?_
                  refine r_callV (Y := M_X1_addReceipt) (v := some (.int q4.1)) X I w_1628 my_X1_addReceipt (by omega) (t_X1_addReceipt (G := G) (d := d + 0) h12) (b_X1_addReceipt h12) rfl rfl hl.1 rfl (Nat.le_of_ble_eq_true rfl) hn le13 dX7_sell_120 (fun H locs cells slots I hn1 hn2 => ?_)
                  have I : s_I G q4.2 s H locs := I
                  have hn : cells + σ0.2.1 ≤ q4.2.2.1 ∧ slots + σ0.2.2.1 ≤ q4.2.2.2.1 := ⟨hn1, hn2⟩
                  exact r_iret X I rfl rfl rfl hn dX7_sell_123
                · refine lv_icmp_lt (tgt := 111) hx hb dX7_sell_97 (by decide) (fun n => absurd n c10) (fun _ => ?_)
                  cases hf
                  have k : _ = r := k
                  subst k
                  exact r_throwW X I rfl th_X7_106_295 hl.1 (Nat.le_of_ble_eq_true rfl) hn rfl dX7_sell_100 dX7_sell_103 dX7_sell_104 dX7_sell_107 dX7_sell_110
              · refine lv_icmp_le (tgt := 88) hx hb dX7_sell_74 (by decide) (fun n => absurd n c7) (fun _ => ?_)
                cases hf
                have k : _ = r := k
                subst k
                exact r_throwW X I rfl th_X7_96_290 hl.1 (Nat.le_of_ble_eq_true rfl) hn rfl dX7_sell_77 dX7_sell_80 dX7_sell_81 dX7_sell_84 dX7_sell_87
      · refine lv_if_eq (tgt := 53) hx hb dX7_sell_39 (by decide) (fun n => absurd n c3) (fun _ => ?_)
        cases hf
        have k : _ = r := k
        subst k
        exact r_throwW X I rfl th_X7_96_288 hl.1 (Nat.le_of_ble_eq_true rfl) hn rfl dX7_sell_42 dX7_sell_45 dX7_sell_46 dX7_sell_49 dX7_sell_52
theorem v_X7_sell {G : sG} {d : Nat} {vs0 : List Value} {σ0 : sS} {x : sL} {z : sZ (Int32 ⊕ String)} {r : (Int32 ⊕ String) × sS} (hs : S_X7_sell x = some z) (k : s_K G (d + 2) M_X7_sell vs0 σ0 Y_X7_sell e_IX z r) : s_V G (d + 2) M_X7_sell vs0 σ0 Y_X7_sell x (e_IX r) := by
  obtain ⟨pc, vs, σ⟩ := x
  unfold S_X7_sell at hs
  dsimp only at hs
  rcases s_ite hs with ⟨c, hs⟩ | ⟨-, hs⟩
  · subst c
    unfold U_X7_sell_0 at hs
    obtain ⟨a0, g0, hs⟩ := s_bind hs
    obtain ⟨a1, g1, hs⟩ := s_bind hs
    obtain ⟨a2, g2, hs⟩ := s_bind hs
    obtain ⟨a3, g3, hs⟩ := s_bind hs
    obtain ⟨a4, g4, hs⟩ := s_bind hs
    obtain ⟨u9, ge, hs⟩ := s_bind hs
    rw [g_r_to g0, g_i_to g1, g_i_to g2, g_i_to g3, g_i_to g4, g_e_to ge]
    exact v_X7_sell_0 hs k
  rcases s_ite hs with ⟨c, hs⟩ | ⟨-, hs⟩
  · subst c
    unfold U_X7_sell_25 at hs
    obtain ⟨a0, g0, hs⟩ := s_bind hs
    obtain ⟨a1, g1, hs⟩ := s_bind hs
    obtain ⟨a2, g2, hs⟩ := s_bind hs
    obtain ⟨a3, g3, hs⟩ := s_bind hs
    obtain ⟨a4, g4, hs⟩ := s_bind hs
    obtain ⟨a5, g5, hs⟩ := s_bind hs
    obtain ⟨u9, ge, hs⟩ := s_bind hs
    rw [g_r_to g0, g_i_to g1, g_i_to g2, g_i_to g3, g_i_to g4, g_i_to g5, g_e_to ge]
    exact v_X7_sell_25 hs k
  cases hs
theorem t_X7_sell {G : sG} {d : Nat} {v0 : Nat} {v1 : Int32} {v2 : Int32} {v3 : Int32} {v4 : Int32} {σ : sS} {q : (Int32 ⊕ String) × sS} (h : F_X7_sell v0 v1 v2 v3 v4 σ = some q) : s_T G (d + 2) M_X7_sell [.ref v0, .int v1, .int v2, .int v3, .int v4] σ (e_IX q) := by
  unfold F_X7_sell at h
  obtain ⟨-, -, h⟩ := s_bind h
  exact s_ofV rfl (by decide) (Nat.le_of_ble_eq_true rfl) rfl rfl (s_run_ind (V := fun x r => s_V G (d + 2) M_X7_sell [.ref v0, .int v1, .int v2, .int v3, .int v4] σ Y_X7_sell x (e_IX r)) (fun x z r hs hk => v_X7_sell hs (by cases z <;> exact hk)) h)
/-! L_sell -/
noncomputable def T_L_sell_0 (v0 : Nat) (v1 : Int32) (v2 : Int32) (v3 : Int32) (v4 : Int32) (v5 : Nat) (σ : sS) : Option (sZ Int32) :=
  (F_X7_sell v0 v1 v2 v3 v4 σ).bind fun q1 => s_sum q1.1 (fun x2 => (s_sl q1.2 v5 0 ((x2 : Int32).toInt64)).bind fun σ4 =>
  some (.inr (0, σ4))) (fun E3 => if E3 = "java/lang/IndexOutOfBoundsException" then (some (.inr (1, q1.2))) else if E3 = "java/lang/IllegalArgumentException" then (some (.inr (2, q1.2))) else if E3 = "java/lang/UnsupportedOperationException" then (some (.inr (3, q1.2))) else none)
noncomputable def U_L_sell_0 (vs : List Value) (σ : sS) : Option (sZ Int32) := (g_r vs).bind fun a0 => (g_i a0.2).bind fun a1 => (g_i a1.2).bind fun a2 => (g_i a2.2).bind fun a3 => (g_i a3.2).bind fun a4 => (g_r a4.2).bind fun a5 => (g_e a5.2).bind fun _ => T_L_sell_0 a0.1 a1.1 a2.1 a3.1 a4.1 a5.1 σ
noncomputable def S_L_sell (x : sL) : Option (sZ Int32) := if x.1 = 0 then U_L_sell_0 x.2.1 x.2.2 else none
def Y_L_sell (pc : Nat) : List Nat := if pc = 0 then [0, 1, 2, 3, 4, 5] else []
noncomputable def F_L_sell (v0 : Nat) (v1 : Int32) (v2 : Int32) (v3 : Int32) (v4 : Int32) (v5 : Nat) (σ : sS) : Option (Int32 × sS) := s_run S_L_sell (0, [.ref v0, .int v1, .int v2, .int v3, .int v4, .ref v5], σ)
theorem hp_L_sell_9_1 : s_pass RL "java/lang/IllegalArgumentException" 9 [(0, 14, 17, 27)] := fun z hz => by
  simp only [List.mem_cons, List.not_mem_nil, or_false] at hz
  rcases hz with rfl
  · exact ⟨rfl, by decide, "java/lang/IndexOutOfBoundsException", w_1011, by decide +kernel⟩
theorem hp_L_sell_9_2 : s_pass RL "java/lang/UnsupportedOperationException" 9 [(0, 14, 17, 27), (0, 14, 21, 13)] := fun z hz => by
  simp only [List.mem_cons, List.not_mem_nil, or_false] at hz
  rcases hz with rfl | rfl
  · exact ⟨rfl, by decide, "java/lang/IndexOutOfBoundsException", w_1011, by decide +kernel⟩
  · exact ⟨rfl, by decide, "java/lang/IllegalArgumentException", w_691, by decide +kernel⟩
theorem l_L_sell_0 {v0 : Nat} {v1 : Int32} {v2 : Int32} {v3 : Int32} {v4 : Int32} {v5 : Nat} {σ : sS} {z : sZ Int32} (hf : T_L_sell_0 v0 v1 v2 v3 v4 v5 σ = some z) : s_lz σ z := by
  unfold T_L_sell_0 at hf
  obtain ⟨q1, hh, hf⟩ := s_bind hf
  refine s_lz.tr (l_X7_sell hh) ?_
  rcases s_sum_some hf with ⟨x2, -, hf⟩ | ⟨E3, -, hf⟩
  · obtain ⟨σ4, hh, hf⟩ := s_bind hf
    refine s_lz.tr (s_le2 (s_sl_2 hh)) ?_
    cases hf
    exact s_le.rf
  · rcases s_ite hf with ⟨-, hf⟩ | ⟨-, hf⟩
    · cases hf
      exact s_le.rf
    rcases s_ite hf with ⟨-, hf⟩ | ⟨-, hf⟩
    · cases hf
      exact s_le.rf
    rcases s_ite hf with ⟨-, hf⟩ | ⟨-, hf⟩
    · cases hf
      exact s_le.rf
    cases hf
theorem l_L_sell_s {x : sL} {z : sZ Int32} (hs : S_L_sell x = some z) : s_lz x.2.2 z := by
  obtain ⟨pc, vs, σ⟩ := x
  unfold S_L_sell at hs
  dsimp only at hs ⊢
  rcases s_ite hs with ⟨c, hs⟩ | ⟨-, hs⟩
  · subst c
    unfold U_L_sell_0 at hs
    obtain ⟨a0, g0, hs⟩ := s_bind hs
    obtain ⟨a1, g1, hs⟩ := s_bind hs
    obtain ⟨a2, g2, hs⟩ := s_bind hs
    obtain ⟨a3, g3, hs⟩ := s_bind hs
    obtain ⟨a4, g4, hs⟩ := s_bind hs
    obtain ⟨a5, g5, hs⟩ := s_bind hs
    obtain ⟨u9, ge, hs⟩ := s_bind hs
    exact l_L_sell_0 hs
  cases hs
theorem l_L_sell {v0 : Nat} {v1 : Int32} {v2 : Int32} {v3 : Int32} {v4 : Int32} {v5 : Nat} {σ : sS} {q : Int32 × sS} (h : F_L_sell v0 v1 v2 v3 v4 v5 σ = some q) : s_le σ q.2 := by
  unfold F_L_sell at h
  exact s_run_ind (V := fun x r => s_le x.2.2 r.2) (fun x z r hs hk => by
    have h9 := l_L_sell_s hs
    cases z with
    | inl y => exact s_le.tr h9 hk
    | inr q => cases hk; exact h9) h
set_option maxRecDepth 100000 in
set_option maxHeartbeats 4000000 in
theorem v_L_sell_0 {G : sG} {d : Nat} {vs0 : List Value} {σ0 : sS} {v0 : Nat} {v1 : Int32} {v2 : Int32} {v3 : Int32} {v4 : Int32} {v5 : Nat} {σ : sS} {z : sZ Int32} {r : Int32 × sS} (hf : T_L_sell_0 v0 v1 v2 v3 v4 v5 σ = some z) (k : s_K G (d + 3) M_L_sell vs0 σ0 Y_L_sell e_I z r) : s_V G (d + 3) M_L_sell vs0 σ0 Y_L_sell (0, [.ref v0, .int v1, .int v2, .int v3, .int v4, .ref v5], σ) (e_I r) := by
  have le0 : s_le σ (e_I r).2 := s_lek hem_I (l_L_sell_0 hf) k
  refine ⟨le0, ?_⟩
  intro p e s m below meth c H locs cells slots ls X I hn1 hn2 hl
  have hn : cells + σ0.2.1 ≤ σ.2.1 ∧ slots + σ0.2.2.1 ≤ σ.2.2.1 := ⟨hn1, hn2⟩
  have hl : lv_has ls 7 [(0, .ref v0), (1, .int v1), (2, .int v2), (3, .int v3), (4, .int v4), (5, .ref v5)] := hl
  have hx := X.1
  have hb : c.code = cL_sell := X.2.1
  have hown : s.vm.findClass RL = some m.cls := X.2.2.2.2.2.1
  have hts := X.2.2.2.2.2.2.1
  refine W.eq (g2 := F0 m 0 ls []) rfl ?_
  unfold T_L_sell_0 at hf
  obtain ⟨q1, h1, hf⟩ := s_bind hf
  refine lv_aload hx hb dL_sell_0 (lv_at hl 5 rfl) ?_
  refine lv_iconst (v := 0) hx hb dL_sell_2 (by decide) ?_
  refine lv_aload_n hx hb dL_sell_3 rfl (lv_at hl 0 rfl) ?_
  refine lv_iload_n hx hb dL_sell_4 rfl (lv_at hl 1 rfl) ?_
  refine lv_iload_n hx hb dL_sell_5 rfl (lv_at hl 2 rfl) ?_
  refine lv_iload_n hx hb dL_sell_6 rfl (lv_at hl 3 rfl) ?_
  refine lv_iload hx hb dL_sell_7 (lv_at hl 4 rfl) ?_
  rcases s_sum_some hf with ⟨x2, hq2, hf⟩ | ⟨E3, hq2, hf⟩
  · have le3 : s_le q1.2 (e_I r).2 := by
      refine s_lek hem_I ?_ k
      obtain ⟨σ4, hh, hf⟩ := s_bind hf
      refine s_lz.tr (s_le2 (s_sl_2 hh)) ?_
      cases hf
      exact s_le.rf
    refine r_callV (Y := M_X7_sell) (v := some (.int x2)) X I w_1621 my_X7_sell (by omega) (t_X7_sell (G := G) (d := d + 0) h1) (b_X7_sell h1) (e_IX_l hq2) rfl hl.1 rfl (Nat.le_of_ble_eq_true rfl) hn le3 dL_sell_9 (fun H locs cells slots I hn1 hn2 => ?_)
    have I : s_I G q1.2 s H locs := I
    have hn : cells + σ0.2.1 ≤ q1.2.2.1 ∧ slots + σ0.2.2.1 ≤ q1.2.2.2.1 := ⟨hn1, hn2⟩
    obtain ⟨σ4, h4, hf⟩ := s_bind hf
    cases hf
    have k : _ = r := k
    subst k
    have le5 : s_le σ4 σ4 := s_le.rf
    refine lv_i2l hx hb dL_sell_12 rfl ?_
    refine r_last X I h4 dL_sell_13 (fun H locs I => ?_)
    have hn := s_k2 (s_sl_2 h4) hn
    refine lv_goto (tgt := 29) hx hb dL_sell_14 (by decide) ?_
    refine lv_iconst (v := 0) hx hb dL_sell_29 (by decide) ?_
    exact r_iret X I rfl rfl rfl hn dL_sell_30
  · rcases s_ite hf with ⟨c6, hf⟩ | ⟨c6, hf⟩
    · subst c6
      have le7 : s_le q1.2 (e_I r).2 := by
        refine s_lek hem_I ?_ k
        cases hf
        exact s_le.rf
      refine r_callVh (x := (0, 14, 17, 27)) (Y := M_X7_sell) (E := "java/lang/IndexOutOfBoundsException") (name := "java/lang/IndexOutOfBoundsException") X I [] [(0, 14, 21, 13), (0, 14, 25, 15)] rfl (fun z hz => by cases hz) rfl (by decide) w_1011 (by decide +kernel) w_1621 my_X7_sell (by omega) (t_X7_sell (G := G) (d := d + 0) h1) (b_X7_sell h1) (e_IX_r hq2) rfl hl.1 rfl (Nat.le_of_ble_eq_true rfl) hn le7 dL_sell_9 (fun a5 H locs cells slots I hn1 hn2 => ?_)
      have I : s_I G q1.2 s H locs := I
      have hn : cells + σ0.2.1 ≤ q1.2.2.1 ∧ slots + σ0.2.2.1 ≤ q1.2.2.2.1 := ⟨hn1, hn2⟩
      cases hf
      have k : _ = r := k
      subst k
      refine lv_astore (lv' := [(6, .ref a5), (0, .ref v0), (1, .int v1), (2, .int v2), (3, .int v3), (4, .int v4), (5, .ref v5)]) hx hb dL_sell_17 hl (by decide) rfl (fun ls hl => ?_)
      refine lv_iconst (v := 1) hx hb dL_sell_19 (by decide) ?_
      exact r_iret X I rfl rfl rfl hn dL_sell_20
    rcases s_ite hf with ⟨c8, hf⟩ | ⟨c8, hf⟩
    · subst c8
      have le9 : s_le q1.2 (e_I r).2 := by
        refine s_lek hem_I ?_ k
        cases hf
        exact s_le.rf
      refine r_callVh (x := (0, 14, 21, 13)) (Y := M_X7_sell) (E := "java/lang/IllegalArgumentException") (name := "java/lang/IllegalArgumentException") X I [(0, 14, 17, 27)] [(0, 14, 25, 15)] rfl hp_L_sell_9_1 rfl (by decide) w_691 (by decide +kernel) w_1621 my_X7_sell (by omega) (t_X7_sell (G := G) (d := d + 0) h1) (b_X7_sell h1) (e_IX_r hq2) rfl hl.1 rfl (Nat.le_of_ble_eq_true rfl) hn le9 dL_sell_9 (fun a6 H locs cells slots I hn1 hn2 => ?_)
      have I : s_I G q1.2 s H locs := I
      have hn : cells + σ0.2.1 ≤ q1.2.2.1 ∧ slots + σ0.2.2.1 ≤ q1.2.2.2.1 := ⟨hn1, hn2⟩
      cases hf
      have k : _ = r := k
      subst k
      refine lv_astore (lv' := [(6, .ref a6), (0, .ref v0), (1, .int v1), (2, .int v2), (3, .int v3), (4, .int v4), (5, .ref v5)]) hx hb dL_sell_21 hl (by decide) rfl (fun ls hl => ?_)
      refine lv_iconst (v := 2) hx hb dL_sell_23 (by decide) ?_
      exact r_iret X I rfl rfl rfl hn dL_sell_24
    rcases s_ite hf with ⟨c10, hf⟩ | ⟨c10, hf⟩
    · subst c10
      have le11 : s_le q1.2 (e_I r).2 := by
        refine s_lek hem_I ?_ k
        cases hf
        exact s_le.rf
      refine r_callVh (x := (0, 14, 25, 15)) (Y := M_X7_sell) (E := "java/lang/UnsupportedOperationException") (name := "java/lang/UnsupportedOperationException") X I [(0, 14, 17, 27), (0, 14, 21, 13)] [] rfl hp_L_sell_9_2 rfl (by decide) w_692 (by decide +kernel) w_1621 my_X7_sell (by omega) (t_X7_sell (G := G) (d := d + 0) h1) (b_X7_sell h1) (e_IX_r hq2) rfl hl.1 rfl (Nat.le_of_ble_eq_true rfl) hn le11 dL_sell_9 (fun a7 H locs cells slots I hn1 hn2 => ?_)
      have I : s_I G q1.2 s H locs := I
      have hn : cells + σ0.2.1 ≤ q1.2.2.1 ∧ slots + σ0.2.2.1 ≤ q1.2.2.2.1 := ⟨hn1, hn2⟩
      cases hf
      have k : _ = r := k
      subst k
      refine lv_astore (lv' := [(6, .ref a7), (0, .ref v0), (1, .int v1), (2, .int v2), (3, .int v3), (4, .int v4), (5, .ref v5)]) hx hb dL_sell_25 hl (by decide) rfl (fun ls hl => ?_)
      refine lv_iconst (v := 3) hx hb dL_sell_27 (by decide) ?_
      exact r_iret X I rfl rfl rfl hn dL_sell_28
    cases hf
theorem v_L_sell {G : sG} {d : Nat} {vs0 : List Value} {σ0 : sS} {x : sL} {z : sZ Int32} {r : Int32 × sS} (hs : S_L_sell x = some z) (k : s_K G (d + 3) M_L_sell vs0 σ0 Y_L_sell e_I z r) : s_V G (d + 3) M_L_sell vs0 σ0 Y_L_sell x (e_I r) := by
  obtain ⟨pc, vs, σ⟩ := x
  unfold S_L_sell at hs
  dsimp only at hs
  rcases s_ite hs with ⟨c, hs⟩ | ⟨-, hs⟩
  · subst c
    unfold U_L_sell_0 at hs
    obtain ⟨a0, g0, hs⟩ := s_bind hs
    obtain ⟨a1, g1, hs⟩ := s_bind hs
    obtain ⟨a2, g2, hs⟩ := s_bind hs
    obtain ⟨a3, g3, hs⟩ := s_bind hs
    obtain ⟨a4, g4, hs⟩ := s_bind hs
    obtain ⟨a5, g5, hs⟩ := s_bind hs
    obtain ⟨u9, ge, hs⟩ := s_bind hs
    rw [g_r_to g0, g_i_to g1, g_i_to g2, g_i_to g3, g_i_to g4, g_r_to g5, g_e_to ge]
    exact v_L_sell_0 hs k
  cases hs
theorem t_L_sell {G : sG} {d : Nat} {v0 : Nat} {v1 : Int32} {v2 : Int32} {v3 : Int32} {v4 : Int32} {v5 : Nat} {σ : sS} {q : Int32 × sS} (h : F_L_sell v0 v1 v2 v3 v4 v5 σ = some q) : s_T G (d + 3) M_L_sell [.ref v0, .int v1, .int v2, .int v3, .int v4, .ref v5] σ (e_I q) := by
  unfold F_L_sell at h
  exact s_ofVH rfl (by decide) (Nat.le_of_ble_eq_true rfl) rfl rfl (s_run_ind (V := fun x r => s_V G (d + 3) M_L_sell [.ref v0, .int v1, .int v2, .int v3, .int v4, .ref v5] σ Y_L_sell x (e_I r)) (fun x z r hs hk => v_L_sell hs (by cases z <;> exact hk)) h)
/-! X8_sell -/
noncomputable def T_X8_sell_0 (v0 : Nat) (v1 : Int32) (v2 : Int32) (v3 : Int32) (v4 : Int32) (σ : sS) : Option (sZ Int32) :=
  (s_pf σ v0 8 0 (.int 0)).bind fun σ1 =>
  (F_X8_noLine v0 v1 σ1).bind fun q2 =>
  (F_X8_throwsIf v0 q2.1 1 q2.2).bind fun q3 =>
  if q3.1 = 0 then ((F_X8_in v2 0 6 q3.2).bind fun q4 =>
  if q4.1 = 0 then (some (.inl (64, [.ref v0, .int v1, .int v2, .int v3, .int v4, .ref v0], q4.2)))
  else ((F_X8_in v3 0 9999 q4.2).bind fun q5 =>
  if q5.1 = 0 then (some (.inl (64, [.ref v0, .int v1, .int v2, .int v3, .int v4, .ref v0], q5.2)))
  else ((F_X8_in v4 0 9999 q5.2).bind fun q6 =>
  if q6.1 = 0 then (some (.inl (64, [.ref v0, .int v1, .int v2, .int v3, .int v4, .ref v0], q6.2)))
  else ((F_X8_ofLine v0 v1 0 q6.2).bind fun q7 =>
  if (v2 - 4) = q7.1 then (some (.inl (64, [.ref v0, .int v1, .int v2, .int v3, .int v4, .ref v0], q7.2)))
  else (some (.inl (69, [.ref v0, .int v1, .int v2, .int v3, .int v4, .int 0, .ref v0], q7.2)))))))
  else (some (.inr (0, q3.2)))
noncomputable def U_X8_sell_0 (vs : List Value) (σ : sS) : Option (sZ Int32) := (g_r vs).bind fun a0 => (g_i a0.2).bind fun a1 => (g_i a1.2).bind fun a2 => (g_i a2.2).bind fun a3 => (g_i a3.2).bind fun a4 => (g_e a4.2).bind fun _ => T_X8_sell_0 a0.1 a1.1 a2.1 a3.1 a4.1 σ
noncomputable def T_X8_sell_64 (v0 : Nat) (v1 : Int32) (v2 : Int32) (v3 : Int32) (v4 : Int32) (w0 : Nat) (σ : sS) : Option (sZ Int32) :=
  some (.inl (69, [.ref v0, .int v1, .int v2, .int v3, .int v4, .int 1, .ref w0], σ))
noncomputable def U_X8_sell_64 (vs : List Value) (σ : sS) : Option (sZ Int32) := (g_r vs).bind fun a0 => (g_i a0.2).bind fun a1 => (g_i a1.2).bind fun a2 => (g_i a2.2).bind fun a3 => (g_i a3.2).bind fun a4 => (g_r a4.2).bind fun a5 => (g_e a5.2).bind fun _ => T_X8_sell_64 a0.1 a1.1 a2.1 a3.1 a4.1 a5.1 σ
noncomputable def T_X8_sell_69 (v0 : Nat) (v1 : Int32) (v2 : Int32) (v3 : Int32) (v4 : Int32) (w0 : Int32) (w1 : Nat) (σ : sS) : Option (sZ Int32) :=
  (F_X8_throwsIf w1 w0 2 σ).bind fun q1 =>
  if q1.1 = 0 then ((F_X8_receipts v0 q1.2).bind fun q2 =>
  if q2.1 = 30 then (some (.inl (91, [.ref v0, .int v1, .int v2, .int v3, .int v4, .int 1, .ref v0], q2.2)))
  else (some (.inl (91, [.ref v0, .int v1, .int v2, .int v3, .int v4, .int 0, .ref v0], q2.2))))
  else (some (.inr (0, q1.2)))
noncomputable def U_X8_sell_69 (vs : List Value) (σ : sS) : Option (sZ Int32) := (g_r vs).bind fun a0 => (g_i a0.2).bind fun a1 => (g_i a1.2).bind fun a2 => (g_i a2.2).bind fun a3 => (g_i a3.2).bind fun a4 => (g_i a4.2).bind fun a5 => (g_r a5.2).bind fun a6 => (g_e a6.2).bind fun _ => T_X8_sell_69 a0.1 a1.1 a2.1 a3.1 a4.1 a5.1 a6.1 σ
noncomputable def T_X8_sell_91 (v0 : Nat) (v1 : Int32) (v2 : Int32) (v3 : Int32) (v4 : Int32) (w0 : Int32) (w1 : Nat) (σ : sS) : Option (sZ Int32) :=
  (F_X8_throwsIf w1 w0 3 σ).bind fun q1 =>
  if q1.1 = 0 then ((F_X8_receipts v0 q1.2).bind fun q2 =>
  (s_fr q2.2 v0 8 1).bind fun x3 =>
  (s_si q2.2 x3 (1532 + (5 * q2.1)) v1).bind fun σ4 =>
  (s_fr σ4 v0 8 1).bind fun x5 =>
  (s_si σ4 x5 ((1532 + (5 * q2.1)) + 1) v2).bind fun σ6 =>
  (s_fr σ6 v0 8 1).bind fun x7 =>
  (s_si σ6 x7 ((1532 + (5 * q2.1)) + 2) v3).bind fun σ8 =>
  (s_fr σ8 v0 8 1).bind fun x9 =>
  (s_si σ8 x9 ((1532 + (5 * q2.1)) + 3) v4).bind fun σ10 =>
  (s_fr σ10 v0 8 1).bind fun x11 =>
  (s_si σ10 x11 ((1532 + (5 * q2.1)) + 4) 0).bind fun σ12 =>
  (s_fr σ12 v0 8 1).bind fun x13 =>
  (s_ai σ12 x13 3).bind fun x14 =>
  (s_si σ12 x13 3 (x14 + 1)).bind fun σ15 =>
  (F_X8_receipts v0 σ15).bind fun q16 =>
  some (.inr ((q16.1 - 1), q16.2)))
  else (some (.inr (0, q1.2)))
noncomputable def U_X8_sell_91 (vs : List Value) (σ : sS) : Option (sZ Int32) := (g_r vs).bind fun a0 => (g_i a0.2).bind fun a1 => (g_i a1.2).bind fun a2 => (g_i a2.2).bind fun a3 => (g_i a3.2).bind fun a4 => (g_i a4.2).bind fun a5 => (g_r a5.2).bind fun a6 => (g_e a6.2).bind fun _ => T_X8_sell_91 a0.1 a1.1 a2.1 a3.1 a4.1 a5.1 a6.1 σ
noncomputable def S_X8_sell (x : sL) : Option (sZ Int32) := if x.1 = 0 then U_X8_sell_0 x.2.1 x.2.2 else if x.1 = 64 then U_X8_sell_64 x.2.1 x.2.2 else if x.1 = 69 then U_X8_sell_69 x.2.1 x.2.2 else if x.1 = 91 then U_X8_sell_91 x.2.1 x.2.2 else none
def Y_X8_sell (pc : Nat) : List Nat := if pc = 0 then [0, 1, 2, 3, 4] else if pc = 64 then [0, 1, 2, 3, 4] else if pc = 69 then [0, 1, 2, 3, 4] else if pc = 91 then [0, 1, 2, 3, 4] else []
noncomputable def F_X8_sell (v0 : Nat) (v1 : Int32) (v2 : Int32) (v3 : Int32) (v4 : Int32) (σ : sS) : Option (Int32 × sS) := (s_is σ v0 8).bind fun _ => s_run S_X8_sell (0, [.ref v0, .int v1, .int v2, .int v3, .int v4], σ)
theorem l_X8_sell_0 {v0 : Nat} {v1 : Int32} {v2 : Int32} {v3 : Int32} {v4 : Int32} {σ : sS} {z : sZ Int32} (hf : T_X8_sell_0 v0 v1 v2 v3 v4 σ = some z) : s_lz σ z := by
  unfold T_X8_sell_0 at hf
  obtain ⟨σ1, hh, hf⟩ := s_bind hf
  refine s_lz.tr (s_le2 (s_pf_2 hh)) ?_
  obtain ⟨q2, hh, hf⟩ := s_bind hf
  refine s_lz.tr (l_X8_noLine hh) ?_
  obtain ⟨q3, hh, hf⟩ := s_bind hf
  refine s_lz.tr (l_X8_throwsIf hh) ?_
  rcases s_ite hf with ⟨-, hf⟩ | ⟨-, hf⟩
  · obtain ⟨q4, hh, hf⟩ := s_bind hf
    refine s_lz.tr (l_X8_in hh) ?_
    rcases s_ite hf with ⟨-, hf⟩ | ⟨-, hf⟩
    · cases hf
      exact s_le.rf
    · obtain ⟨q5, hh, hf⟩ := s_bind hf
      refine s_lz.tr (l_X8_in hh) ?_
      rcases s_ite hf with ⟨-, hf⟩ | ⟨-, hf⟩
      · cases hf
        exact s_le.rf
      · obtain ⟨q6, hh, hf⟩ := s_bind hf
        refine s_lz.tr (l_X8_in hh) ?_
        rcases s_ite hf with ⟨-, hf⟩ | ⟨-, hf⟩
        · cases hf
          exact s_le.rf
        · obtain ⟨q7, hh, hf⟩ := s_bind hf
          refine s_lz.tr (l_X8_ofLine hh) ?_
          rcases s_ite hf with ⟨-, hf⟩ | ⟨-, hf⟩
          · cases hf
            exact s_le.rf
          · cases hf
            exact s_le.rf
  · cases hf
    exact s_le.rf
theorem l_X8_sell_64 {v0 : Nat} {v1 : Int32} {v2 : Int32} {v3 : Int32} {v4 : Int32} {w0 : Nat} {σ : sS} {z : sZ Int32} (hf : T_X8_sell_64 v0 v1 v2 v3 v4 w0 σ = some z) : s_lz σ z := by
  unfold T_X8_sell_64 at hf
  cases hf
  exact s_le.rf
theorem l_X8_sell_69 {v0 : Nat} {v1 : Int32} {v2 : Int32} {v3 : Int32} {v4 : Int32} {w0 : Int32} {w1 : Nat} {σ : sS} {z : sZ Int32} (hf : T_X8_sell_69 v0 v1 v2 v3 v4 w0 w1 σ = some z) : s_lz σ z := by
  unfold T_X8_sell_69 at hf
  obtain ⟨q1, hh, hf⟩ := s_bind hf
  refine s_lz.tr (l_X8_throwsIf hh) ?_
  rcases s_ite hf with ⟨-, hf⟩ | ⟨-, hf⟩
  · obtain ⟨q2, hh, hf⟩ := s_bind hf
    refine s_lz.tr (l_X8_receipts hh) ?_
    rcases s_ite hf with ⟨-, hf⟩ | ⟨-, hf⟩
    · cases hf
      exact s_le.rf
    · cases hf
      exact s_le.rf
  · cases hf
    exact s_le.rf
theorem l_X8_sell_91 {v0 : Nat} {v1 : Int32} {v2 : Int32} {v3 : Int32} {v4 : Int32} {w0 : Int32} {w1 : Nat} {σ : sS} {z : sZ Int32} (hf : T_X8_sell_91 v0 v1 v2 v3 v4 w0 w1 σ = some z) : s_lz σ z := by
  unfold T_X8_sell_91 at hf
  obtain ⟨q1, hh, hf⟩ := s_bind hf
  refine s_lz.tr (l_X8_throwsIf hh) ?_
  rcases s_ite hf with ⟨-, hf⟩ | ⟨-, hf⟩
  · obtain ⟨q2, hh, hf⟩ := s_bind hf
    refine s_lz.tr (l_X8_receipts hh) ?_
    obtain ⟨x3, -, hf⟩ := s_bind hf
    obtain ⟨σ4, hh, hf⟩ := s_bind hf
    refine s_lz.tr (s_le2 (s_si_2 hh)) ?_
    obtain ⟨x5, -, hf⟩ := s_bind hf
    obtain ⟨σ6, hh, hf⟩ := s_bind hf
    refine s_lz.tr (s_le2 (s_si_2 hh)) ?_
    obtain ⟨x7, -, hf⟩ := s_bind hf
    obtain ⟨σ8, hh, hf⟩ := s_bind hf
    refine s_lz.tr (s_le2 (s_si_2 hh)) ?_
    obtain ⟨x9, -, hf⟩ := s_bind hf
    obtain ⟨σ10, hh, hf⟩ := s_bind hf
    refine s_lz.tr (s_le2 (s_si_2 hh)) ?_
    obtain ⟨x11, -, hf⟩ := s_bind hf
    obtain ⟨σ12, hh, hf⟩ := s_bind hf
    refine s_lz.tr (s_le2 (s_si_2 hh)) ?_
    obtain ⟨x13, -, hf⟩ := s_bind hf
    obtain ⟨x14, -, hf⟩ := s_bind hf
    obtain ⟨σ15, hh, hf⟩ := s_bind hf
    refine s_lz.tr (s_le2 (s_si_2 hh)) ?_
    obtain ⟨q16, hh, hf⟩ := s_bind hf
    refine s_lz.tr (l_X8_receipts hh) ?_
    cases hf
    exact s_le.rf
  · cases hf
    exact s_le.rf
theorem l_X8_sell_s {x : sL} {z : sZ Int32} (hs : S_X8_sell x = some z) : s_lz x.2.2 z := by
  obtain ⟨pc, vs, σ⟩ := x
  unfold S_X8_sell at hs
  dsimp only at hs ⊢
  rcases s_ite hs with ⟨c, hs⟩ | ⟨-, hs⟩
  · subst c
    unfold U_X8_sell_0 at hs
    obtain ⟨a0, g0, hs⟩ := s_bind hs
    obtain ⟨a1, g1, hs⟩ := s_bind hs
    obtain ⟨a2, g2, hs⟩ := s_bind hs
    obtain ⟨a3, g3, hs⟩ := s_bind hs
    obtain ⟨a4, g4, hs⟩ := s_bind hs
    obtain ⟨u9, ge, hs⟩ := s_bind hs
    exact l_X8_sell_0 hs
  rcases s_ite hs with ⟨c, hs⟩ | ⟨-, hs⟩
  · subst c
    unfold U_X8_sell_64 at hs
    obtain ⟨a0, g0, hs⟩ := s_bind hs
    obtain ⟨a1, g1, hs⟩ := s_bind hs
    obtain ⟨a2, g2, hs⟩ := s_bind hs
    obtain ⟨a3, g3, hs⟩ := s_bind hs
    obtain ⟨a4, g4, hs⟩ := s_bind hs
    obtain ⟨a5, g5, hs⟩ := s_bind hs
    obtain ⟨u9, ge, hs⟩ := s_bind hs
    exact l_X8_sell_64 hs
  rcases s_ite hs with ⟨c, hs⟩ | ⟨-, hs⟩
  · subst c
    unfold U_X8_sell_69 at hs
    obtain ⟨a0, g0, hs⟩ := s_bind hs
    obtain ⟨a1, g1, hs⟩ := s_bind hs
    obtain ⟨a2, g2, hs⟩ := s_bind hs
    obtain ⟨a3, g3, hs⟩ := s_bind hs
    obtain ⟨a4, g4, hs⟩ := s_bind hs
    obtain ⟨a5, g5, hs⟩ := s_bind hs
    obtain ⟨a6, g6, hs⟩ := s_bind hs
    obtain ⟨u9, ge, hs⟩ := s_bind hs
    exact l_X8_sell_69 hs
  rcases s_ite hs with ⟨c, hs⟩ | ⟨-, hs⟩
  · subst c
    unfold U_X8_sell_91 at hs
    obtain ⟨a0, g0, hs⟩ := s_bind hs
    obtain ⟨a1, g1, hs⟩ := s_bind hs
    obtain ⟨a2, g2, hs⟩ := s_bind hs
    obtain ⟨a3, g3, hs⟩ := s_bind hs
    obtain ⟨a4, g4, hs⟩ := s_bind hs
    obtain ⟨a5, g5, hs⟩ := s_bind hs
    obtain ⟨a6, g6, hs⟩ := s_bind hs
    obtain ⟨u9, ge, hs⟩ := s_bind hs
    exact l_X8_sell_91 hs
  cases hs
theorem l_X8_sell {v0 : Nat} {v1 : Int32} {v2 : Int32} {v3 : Int32} {v4 : Int32} {σ : sS} {q : Int32 × sS} (h : F_X8_sell v0 v1 v2 v3 v4 σ = some q) : s_le σ q.2 := by
  unfold F_X8_sell at h
  obtain ⟨-, -, h⟩ := s_bind h
  exact s_run_ind (V := fun x r => s_le x.2.2 r.2) (fun x z r hs hk => by
    have h9 := l_X8_sell_s hs
    cases z with
    | inl y => exact s_le.tr h9 hk
    | inr q => cases hk; exact h9) h
theorem b_X8_sell {v0 : Nat} {v1 : Int32} {v2 : Int32} {v3 : Int32} {v4 : Int32} {σ : sS} {q : Int32 × sS} (h : F_X8_sell v0 v1 v2 v3 v4 σ = some q) : ∃ fs, σ.1 v0 = some (.inr (8, fs)) := by
  unfold F_X8_sell at h
  obtain ⟨u, hu, -⟩ := s_bind h
  exact s_is_to hu
set_option maxRecDepth 100000 in
set_option maxHeartbeats 4000000 in
theorem v_X8_sell_0 {G : sG} {d : Nat} {vs0 : List Value} {σ0 : sS} {v0 : Nat} {v1 : Int32} {v2 : Int32} {v3 : Int32} {v4 : Int32} {σ : sS} {z : sZ Int32} {r : Int32 × sS} (hf : T_X8_sell_0 v0 v1 v2 v3 v4 σ = some z) (k : s_K G (d + 3) M_X8_sell vs0 σ0 Y_X8_sell e_I z r) : s_V G (d + 3) M_X8_sell vs0 σ0 Y_X8_sell (0, [.ref v0, .int v1, .int v2, .int v3, .int v4], σ) (e_I r) := by
  have le0 : s_le σ (e_I r).2 := s_lek hem_I (l_X8_sell_0 hf) k
  refine ⟨le0, ?_⟩
  intro p e s m below meth c H locs cells slots ls X I hn1 hn2 hl
  have hn : cells + σ0.2.1 ≤ σ.2.1 ∧ slots + σ0.2.2.1 ≤ σ.2.2.1 := ⟨hn1, hn2⟩
  have hl : lv_has ls 6 [(0, .ref v0), (1, .int v1), (2, .int v2), (3, .int v3), (4, .int v4)] := hl
  have hx := X.1
  have hb : c.code = cX8_sell := X.2.1
  have hown : s.vm.findClass RX8 = some m.cls := X.2.2.2.2.2.1
  have hts := X.2.2.2.2.2.2.1
  refine W.eq (g2 := F0 m 0 ls []) rfl ?_
  unfold T_X8_sell_0 at hf
  obtain ⟨σ1, h1, hf⟩ := s_bind hf
  obtain ⟨q2, h2, hf⟩ := s_bind hf
  obtain ⟨q3, h3, hf⟩ := s_bind hf
  have le4 : s_le q3.2 (e_I r).2 := by
    refine s_lek hem_I ?_ k
    rcases s_ite hf with ⟨-, hf⟩ | ⟨-, hf⟩
    · obtain ⟨q4, hh, hf⟩ := s_bind hf
      refine s_lz.tr (l_X8_in hh) ?_
      rcases s_ite hf with ⟨-, hf⟩ | ⟨-, hf⟩
      · cases hf
        exact s_le.rf
      · obtain ⟨q5, hh, hf⟩ := s_bind hf
        refine s_lz.tr (l_X8_in hh) ?_
        rcases s_ite hf with ⟨-, hf⟩ | ⟨-, hf⟩
        · cases hf
          exact s_le.rf
        · obtain ⟨q6, hh, hf⟩ := s_bind hf
          refine s_lz.tr (l_X8_in hh) ?_
          rcases s_ite hf with ⟨-, hf⟩ | ⟨-, hf⟩
          · cases hf
            exact s_le.rf
          · obtain ⟨q7, hh, hf⟩ := s_bind hf
            refine s_lz.tr (l_X8_ofLine hh) ?_
            rcases s_ite hf with ⟨-, hf⟩ | ⟨-, hf⟩
            · cases hf
              exact s_le.rf
            · cases hf
              exact s_le.rf
    · cases hf
      exact s_le.rf
  have le5 := s_le.tr (l_X8_throwsIf h3) le4
  have le6 := s_le.tr (l_X8_noLine h2) le5
  refine lv_aload_n hx hb dX8_sell_0 rfl (lv_at hl 0 rfl) ?_
  refine lv_iconst (v := 0) hx hb dX8_sell_1 (by decide) ?_
  refine r_put X I fp_X8_3 (fun h => by cases h) h1 rfl rfl dX8_sell_2 (fun H locs I => ?_)
  have hn := s_k2 (s_pf_2 h1) hn
  refine lv_aload_n hx hb dX8_sell_5 rfl (lv_at hl 0 rfl) ?_
  refine lv_aload_n hx hb dX8_sell_6 rfl (lv_at hl 0 rfl) ?_
  refine lv_iload_n hx hb dX8_sell_7 rfl (lv_at hl 1 rfl) ?_
  refine r_callV (Y := M_X8_noLine) (v := some (.int q2.1)) X I w_1999 my_X8_noLine (by omega) (t_X8_noLine (G := G) (d := d + 0) h2) (b_X8_noLine h2) rfl rfl hl.1 rfl (Nat.le_of_ble_eq_true rfl) hn le5 dX8_sell_8 (fun H locs cells slots I hn1 hn2 => ?_)
  have I : s_I G q2.2 s H locs := I
  have hn : cells + σ0.2.1 ≤ q2.2.2.1 ∧ slots + σ0.2.2.1 ≤ q2.2.2.2.1 := ⟨hn1, hn2⟩
  refine lv_iconst (v := 1) hx hb dX8_sell_11 (by decide) ?_
  refine r_callV (Y := M_X8_throwsIf) (v := some (.int q3.1)) X I w_1897 my_X8_throwsIf (by omega) (t_X8_throwsIf (G := G) (d := d + 1) h3) (b_X8_throwsIf h3) rfl rfl hl.1 rfl (Nat.le_of_ble_eq_true rfl) hn le4 dX8_sell_12 (fun H locs cells slots I hn1 hn2 => ?_)
  have I : s_I G q3.2 s H locs := I
  have hn : cells + σ0.2.1 ≤ q3.2.2.1 ∧ slots + σ0.2.2.1 ≤ q3.2.2.2.1 := ⟨hn1, hn2⟩
  rcases s_ite hf with ⟨c7, hf⟩ | ⟨c7, hf⟩
  · refine lv_if_ne (tgt := 98) hx hb dX8_sell_15 (by decide) (fun n => absurd c7 n) (fun _ => ?_)
    obtain ⟨q4, h8, hf⟩ := s_bind hf
    have le9 : s_le q4.2 (e_I r).2 := by
      refine s_lek hem_I ?_ k
      rcases s_ite hf with ⟨-, hf⟩ | ⟨-, hf⟩
      · cases hf
        exact s_le.rf
      · obtain ⟨q5, hh, hf⟩ := s_bind hf
        refine s_lz.tr (l_X8_in hh) ?_
        rcases s_ite hf with ⟨-, hf⟩ | ⟨-, hf⟩
        · cases hf
          exact s_le.rf
        · obtain ⟨q6, hh, hf⟩ := s_bind hf
          refine s_lz.tr (l_X8_in hh) ?_
          rcases s_ite hf with ⟨-, hf⟩ | ⟨-, hf⟩
          · cases hf
            exact s_le.rf
          · obtain ⟨q7, hh, hf⟩ := s_bind hf
            refine s_lz.tr (l_X8_ofLine hh) ?_
            rcases s_ite hf with ⟨-, hf⟩ | ⟨-, hf⟩
            · cases hf
              exact s_le.rf
            · cases hf
              exact s_le.rf
    refine lv_aload_n hx hb dX8_sell_18 rfl (lv_at hl 0 rfl) ?_
    refine lv_iload_n hx hb dX8_sell_19 rfl (lv_at hl 2 rfl) ?_
    refine lv_iconst (v := 0) hx hb dX8_sell_20 (by decide) ?_
    refine lv_bipush (v := 6) hx hb dX8_sell_21 (by decide) ?_
    refine r_callS (Y := M_X8_in) (v := some (.int q4.1)) X I w_1909 my_X8_in (by omega) (t_X8_in (G := G) (d := d + 1) h8) rfl rfl hl.1 rfl (Nat.le_of_ble_eq_true rfl) hn le9 dX8_sell_23 (fun H locs cells slots I hn1 hn2 => ?_)
    have I : s_I G q4.2 s H locs := I
    have hn : cells + σ0.2.1 ≤ q4.2.2.1 ∧ slots + σ0.2.2.1 ≤ q4.2.2.2.1 := ⟨hn1, hn2⟩
    rcases s_ite hf with ⟨c10, hf⟩ | ⟨c10, hf⟩
    · refine lv_if_eq (tgt := 64) hx hb dX8_sell_26 (by decide) (fun _ => ?_) (fun n => absurd c10 n)
      cases hf
      have k : s_V G (d + 3) M_X8_sell vs0 σ0 Y_X8_sell (64, [.ref v0, .int v1, .int v2, .int v3, .int v4, .ref v0], q4.2) (e_I r) := k
      exact k.2 p e s m below meth c _ _ _ _ _ X I hn.1 hn.2 (lv_sub hl [0, 1, 2, 3, 4] rfl)
    · refine lv_if_eq (tgt := 64) hx hb dX8_sell_26 (by decide) (fun n => absurd n c10) (fun _ => ?_)
      obtain ⟨q5, h11, hf⟩ := s_bind hf
      have le12 : s_le q5.2 (e_I r).2 := by
        refine s_lek hem_I ?_ k
        rcases s_ite hf with ⟨-, hf⟩ | ⟨-, hf⟩
        · cases hf
          exact s_le.rf
        · obtain ⟨q6, hh, hf⟩ := s_bind hf
          refine s_lz.tr (l_X8_in hh) ?_
          rcases s_ite hf with ⟨-, hf⟩ | ⟨-, hf⟩
          · cases hf
            exact s_le.rf
          · obtain ⟨q7, hh, hf⟩ := s_bind hf
            refine s_lz.tr (l_X8_ofLine hh) ?_
            rcases s_ite hf with ⟨-, hf⟩ | ⟨-, hf⟩
            · cases hf
              exact s_le.rf
            · cases hf
              exact s_le.rf
      refine lv_iload_n hx hb dX8_sell_29 rfl (lv_at hl 3 rfl) ?_
      refine lv_iconst (v := 0) hx hb dX8_sell_30 (by decide) ?_
      refine lv_sipush (v := 9999) hx hb dX8_sell_31 (by decide) ?_
      refine r_callS (Y := M_X8_in) (v := some (.int q5.1)) X I w_1909 my_X8_in (by omega) (t_X8_in (G := G) (d := d + 1) h11) rfl rfl hl.1 rfl (Nat.le_of_ble_eq_true rfl) hn le12 dX8_sell_34 (fun H locs cells slots I hn1 hn2 => ?_)
      have I : s_I G q5.2 s H locs := I
      have hn : cells + σ0.2.1 ≤ q5.2.2.1 ∧ slots + σ0.2.2.1 ≤ q5.2.2.2.1 := ⟨hn1, hn2⟩
      rcases s_ite hf with ⟨c13, hf⟩ | ⟨c13, hf⟩
      · refine lv_if_eq (tgt := 64) hx hb dX8_sell_37 (by decide) (fun _ => ?_) (fun n => absurd c13 n)
        cases hf
        have k : s_V G (d + 3) M_X8_sell vs0 σ0 Y_X8_sell (64, [.ref v0, .int v1, .int v2, .int v3, .int v4, .ref v0], q5.2) (e_I r) := k
        exact k.2 p e s m below meth c _ _ _ _ _ X I hn.1 hn.2 (lv_sub hl [0, 1, 2, 3, 4] rfl)
      · refine lv_if_eq (tgt := 64) hx hb dX8_sell_37 (by decide) (fun n => absurd n c13) (fun _ => ?_)
        obtain ⟨q6, h14, hf⟩ := s_bind hf
        have le15 : s_le q6.2 (e_I r).2 := by
          refine s_lek hem_I ?_ k
          rcases s_ite hf with ⟨-, hf⟩ | ⟨-, hf⟩
          · cases hf
            exact s_le.rf
          · obtain ⟨q7, hh, hf⟩ := s_bind hf
            refine s_lz.tr (l_X8_ofLine hh) ?_
            rcases s_ite hf with ⟨-, hf⟩ | ⟨-, hf⟩
            · cases hf
              exact s_le.rf
            · cases hf
              exact s_le.rf
        refine lv_iload hx hb dX8_sell_40 (lv_at hl 4 rfl) ?_
        refine lv_iconst (v := 0) hx hb dX8_sell_42 (by decide) ?_
        refine lv_sipush (v := 9999) hx hb dX8_sell_43 (by decide) ?_
        refine r_callS (Y := M_X8_in) (v := some (.int q6.1)) X I w_1909 my_X8_in (by omega) (t_X8_in (G := G) (d := d + 1) h14) rfl rfl hl.1 rfl (Nat.le_of_ble_eq_true rfl) hn le15 dX8_sell_46 (fun H locs cells slots I hn1 hn2 => ?_)
        have I : s_I G q6.2 s H locs := I
        have hn : cells + σ0.2.1 ≤ q6.2.2.1 ∧ slots + σ0.2.2.1 ≤ q6.2.2.2.1 := ⟨hn1, hn2⟩
        rcases s_ite hf with ⟨c16, hf⟩ | ⟨c16, hf⟩
        · refine lv_if_eq (tgt := 64) hx hb dX8_sell_49 (by decide) (fun _ => ?_) (fun n => absurd c16 n)
          cases hf
          have k : s_V G (d + 3) M_X8_sell vs0 σ0 Y_X8_sell (64, [.ref v0, .int v1, .int v2, .int v3, .int v4, .ref v0], q6.2) (e_I r) := k
          exact k.2 p e s m below meth c _ _ _ _ _ X I hn.1 hn.2 (lv_sub hl [0, 1, 2, 3, 4] rfl)
        · refine lv_if_eq (tgt := 64) hx hb dX8_sell_49 (by decide) (fun n => absurd n c16) (fun _ => ?_)
          obtain ⟨q7, h17, hf⟩ := s_bind hf
          have le18 : s_le q7.2 (e_I r).2 := by
            refine s_lek hem_I ?_ k
            rcases s_ite hf with ⟨-, hf⟩ | ⟨-, hf⟩
            · cases hf
              exact s_le.rf
            · cases hf
              exact s_le.rf
          refine lv_iload_n hx hb dX8_sell_52 rfl (lv_at hl 2 rfl) ?_
          refine lv_iconst (v := 4) hx hb dX8_sell_53 (by decide) ?_
          refine lv_isub hx hb dX8_sell_54 ?_
          refine lv_aload_n hx hb dX8_sell_55 rfl (lv_at hl 0 rfl) ?_
          refine lv_iload_n hx hb dX8_sell_56 rfl (lv_at hl 1 rfl) ?_
          refine lv_iconst (v := 0) hx hb dX8_sell_57 (by decide) ?_
          refine r_callV (Y := M_X8_ofLine) (v := some (.int q7.1)) X I w_2015 my_X8_ofLine (by omega) (t_X8_ofLine (G := G) (d := d + 1) h17) (b_X8_ofLine h17) rfl rfl hl.1 rfl (Nat.le_of_ble_eq_true rfl) hn le18 dX8_sell_58 (fun H locs cells slots I hn1 hn2 => ?_)
          have I : s_I G q7.2 s H locs := I
          have hn : cells + σ0.2.1 ≤ q7.2.2.1 ∧ slots + σ0.2.2.1 ≤ q7.2.2.2.1 := ⟨hn1, hn2⟩
          rcases s_ite hf with ⟨c19, hf⟩ | ⟨c19, hf⟩
          · refine lv_icmp_ne (tgt := 68) hx hb dX8_sell_61 (by decide) (fun n => absurd c19 n) (fun _ => ?_)
            cases hf
            have k : s_V G (d + 3) M_X8_sell vs0 σ0 Y_X8_sell (64, [.ref v0, .int v1, .int v2, .int v3, .int v4, .ref v0], q7.2) (e_I r) := k
            exact k.2 p e s m below meth c _ _ _ _ _ X I hn.1 hn.2 (lv_sub hl [0, 1, 2, 3, 4] rfl)
          · refine lv_icmp_ne (tgt := 68) hx hb dX8_sell_61 (by decide) (fun _ => ?_) (fun n => absurd n c19)
            cases hf
            have k : s_V G (d + 3) M_X8_sell vs0 σ0 Y_X8_sell (69, [.ref v0, .int v1, .int v2, .int v3, .int v4, .int 0, .ref v0], q7.2) (e_I r) := k
            refine lv_iconst (v := 0) hx hb dX8_sell_68 (by decide) ?_
            exact k.2 p e s m below meth c _ _ _ _ _ X I hn.1 hn.2 (lv_sub hl [0, 1, 2, 3, 4] rfl)
  · refine lv_if_ne (tgt := 98) hx hb dX8_sell_15 (by decide) (fun _ => ?_) (fun n => absurd n c7)
    cases hf
    have k : _ = r := k
    subst k
    refine lv_iconst (v := 0) hx hb dX8_sell_98 (by decide) ?_
    exact r_iret X I rfl rfl rfl hn dX8_sell_99
set_option maxRecDepth 100000 in
set_option maxHeartbeats 4000000 in
theorem v_X8_sell_64 {G : sG} {d : Nat} {vs0 : List Value} {σ0 : sS} {v0 : Nat} {v1 : Int32} {v2 : Int32} {v3 : Int32} {v4 : Int32} {w0 : Nat} {σ : sS} {z : sZ Int32} {r : Int32 × sS} (hf : T_X8_sell_64 v0 v1 v2 v3 v4 w0 σ = some z) (k : s_K G (d + 3) M_X8_sell vs0 σ0 Y_X8_sell e_I z r) : s_V G (d + 3) M_X8_sell vs0 σ0 Y_X8_sell (64, [.ref v0, .int v1, .int v2, .int v3, .int v4, .ref w0], σ) (e_I r) := by
  have le0 : s_le σ (e_I r).2 := s_lek hem_I (l_X8_sell_64 hf) k
  refine ⟨le0, ?_⟩
  intro p e s m below meth c H locs cells slots ls X I hn1 hn2 hl
  have hn : cells + σ0.2.1 ≤ σ.2.1 ∧ slots + σ0.2.2.1 ≤ σ.2.2.1 := ⟨hn1, hn2⟩
  have hl : lv_has ls 6 [(0, .ref v0), (1, .int v1), (2, .int v2), (3, .int v3), (4, .int v4)] := hl
  have hx := X.1
  have hb : c.code = cX8_sell := X.2.1
  have hown : s.vm.findClass RX8 = some m.cls := X.2.2.2.2.2.1
  have hts := X.2.2.2.2.2.2.1
  refine W.eq (g2 := F0 m 64 ls [.ref w0]) rfl ?_
  unfold T_X8_sell_64 at hf
  cases hf
  have k : s_V G (d + 3) M_X8_sell vs0 σ0 Y_X8_sell (69, [.ref v0, .int v1, .int v2, .int v3, .int v4, .int 1, .ref w0], σ) (e_I r) := k
  refine lv_iconst (v := 1) hx hb dX8_sell_64 (by decide) ?_
  refine lv_goto (tgt := 69) hx hb dX8_sell_65 (by decide) ?_
  exact k.2 p e s m below meth c _ _ _ _ _ X I hn.1 hn.2 (lv_sub hl [0, 1, 2, 3, 4] rfl)
set_option maxRecDepth 100000 in
set_option maxHeartbeats 4000000 in
theorem v_X8_sell_69 {G : sG} {d : Nat} {vs0 : List Value} {σ0 : sS} {v0 : Nat} {v1 : Int32} {v2 : Int32} {v3 : Int32} {v4 : Int32} {w0 : Int32} {w1 : Nat} {σ : sS} {z : sZ Int32} {r : Int32 × sS} (hf : T_X8_sell_69 v0 v1 v2 v3 v4 w0 w1 σ = some z) (k : s_K G (d + 3) M_X8_sell vs0 σ0 Y_X8_sell e_I z r) : s_V G (d + 3) M_X8_sell vs0 σ0 Y_X8_sell (69, [.ref v0, .int v1, .int v2, .int v3, .int v4, .int w0, .ref w1], σ) (e_I r) := by
  have le0 : s_le σ (e_I r).2 := s_lek hem_I (l_X8_sell_69 hf) k
  refine ⟨le0, ?_⟩
  intro p e s m below meth c H locs cells slots ls X I hn1 hn2 hl
  have hn : cells + σ0.2.1 ≤ σ.2.1 ∧ slots + σ0.2.2.1 ≤ σ.2.2.1 := ⟨hn1, hn2⟩
  have hl : lv_has ls 6 [(0, .ref v0), (1, .int v1), (2, .int v2), (3, .int v3), (4, .int v4)] := hl
  have hx := X.1
  have hb : c.code = cX8_sell := X.2.1
  have hown : s.vm.findClass RX8 = some m.cls := X.2.2.2.2.2.1
  have hts := X.2.2.2.2.2.2.1
  refine W.eq (g2 := F0 m 69 ls [.int w0, .ref w1]) rfl ?_
  unfold T_X8_sell_69 at hf
  obtain ⟨q1, h1, hf⟩ := s_bind hf
  have le2 : s_le q1.2 (e_I r).2 := by
    refine s_lek hem_I ?_ k
    rcases s_ite hf with ⟨-, hf⟩ | ⟨-, hf⟩
    · obtain ⟨q2, hh, hf⟩ := s_bind hf
      refine s_lz.tr (l_X8_receipts hh) ?_
      rcases s_ite hf with ⟨-, hf⟩ | ⟨-, hf⟩
      · cases hf
        exact s_le.rf
      · cases hf
        exact s_le.rf
    · cases hf
      exact s_le.rf
  refine lv_iconst (v := 2) hx hb dX8_sell_69 (by decide) ?_
  refine r_callV (Y := M_X8_throwsIf) (v := some (.int q1.1)) X I w_1897 my_X8_throwsIf (by omega) (t_X8_throwsIf (G := G) (d := d + 1) h1) (b_X8_throwsIf h1) rfl rfl hl.1 rfl (Nat.le_of_ble_eq_true rfl) hn le2 dX8_sell_70 (fun H locs cells slots I hn1 hn2 => ?_)
  have I : s_I G q1.2 s H locs := I
  have hn : cells + σ0.2.1 ≤ q1.2.2.1 ∧ slots + σ0.2.2.1 ≤ q1.2.2.2.1 := ⟨hn1, hn2⟩
  rcases s_ite hf with ⟨c3, hf⟩ | ⟨c3, hf⟩
  · refine lv_if_ne (tgt := 98) hx hb dX8_sell_73 (by decide) (fun n => absurd c3 n) (fun _ => ?_)
    obtain ⟨q2, h4, hf⟩ := s_bind hf
    have le5 : s_le q2.2 (e_I r).2 := by
      refine s_lek hem_I ?_ k
      rcases s_ite hf with ⟨-, hf⟩ | ⟨-, hf⟩
      · cases hf
        exact s_le.rf
      · cases hf
        exact s_le.rf
    refine lv_aload_n hx hb dX8_sell_76 rfl (lv_at hl 0 rfl) ?_
    refine lv_aload_n hx hb dX8_sell_77 rfl (lv_at hl 0 rfl) ?_
    refine r_callV (Y := M_X8_receipts) (v := some (.int q2.1)) X I w_2295 my_X8_receipts (by omega) (t_X8_receipts (G := G) (d := d + 1) h4) (b_X8_receipts h4) rfl rfl hl.1 rfl (Nat.le_of_ble_eq_true rfl) hn le5 dX8_sell_78 (fun H locs cells slots I hn1 hn2 => ?_)
    have I : s_I G q2.2 s H locs := I
    have hn : cells + σ0.2.1 ≤ q2.2.2.1 ∧ slots + σ0.2.2.1 ≤ q2.2.2.2.1 := ⟨hn1, hn2⟩
    refine lv_bipush (v := 30) hx hb dX8_sell_81 (by decide) ?_
    rcases s_ite hf with ⟨c6, hf⟩ | ⟨c6, hf⟩
    · refine lv_icmp_ne (tgt := 90) hx hb dX8_sell_83 (by decide) (fun n => absurd c6 n) (fun _ => ?_)
      cases hf
      have k : s_V G (d + 3) M_X8_sell vs0 σ0 Y_X8_sell (91, [.ref v0, .int v1, .int v2, .int v3, .int v4, .int 1, .ref v0], q2.2) (e_I r) := k
      refine lv_iconst (v := 1) hx hb dX8_sell_86 (by decide) ?_
      refine lv_goto (tgt := 91) hx hb dX8_sell_87 (by decide) ?_
      exact k.2 p e s m below meth c _ _ _ _ _ X I hn.1 hn.2 (lv_sub hl [0, 1, 2, 3, 4] rfl)
    · refine lv_icmp_ne (tgt := 90) hx hb dX8_sell_83 (by decide) (fun _ => ?_) (fun n => absurd n c6)
      cases hf
      have k : s_V G (d + 3) M_X8_sell vs0 σ0 Y_X8_sell (91, [.ref v0, .int v1, .int v2, .int v3, .int v4, .int 0, .ref v0], q2.2) (e_I r) := k
      refine lv_iconst (v := 0) hx hb dX8_sell_90 (by decide) ?_
      exact k.2 p e s m below meth c _ _ _ _ _ X I hn.1 hn.2 (lv_sub hl [0, 1, 2, 3, 4] rfl)
  · refine lv_if_ne (tgt := 98) hx hb dX8_sell_73 (by decide) (fun _ => ?_) (fun n => absurd n c3)
    cases hf
    have k : _ = r := k
    subst k
    refine lv_iconst (v := 0) hx hb dX8_sell_98 (by decide) ?_
    exact r_iret X I rfl rfl rfl hn dX8_sell_99
set_option maxRecDepth 100000 in
set_option maxHeartbeats 4000000 in
theorem v_X8_sell_91 {G : sG} {d : Nat} {vs0 : List Value} {σ0 : sS} {v0 : Nat} {v1 : Int32} {v2 : Int32} {v3 : Int32} {v4 : Int32} {w0 : Int32} {w1 : Nat} {σ : sS} {z : sZ Int32} {r : Int32 × sS} (hf : T_X8_sell_91 v0 v1 v2 v3 v4 w0 w1 σ = some z) (k : s_K G (d + 3) M_X8_sell vs0 σ0 Y_X8_sell e_I z r) : s_V G (d + 3) M_X8_sell vs0 σ0 Y_X8_sell (91, [.ref v0, .int v1, .int v2, .int v3, .int v4, .int w0, .ref w1], σ) (e_I r) := by
  have le0 : s_le σ (e_I r).2 := s_lek hem_I (l_X8_sell_91 hf) k
  refine ⟨le0, ?_⟩
  intro p e s m below meth c H locs cells slots ls X I hn1 hn2 hl
  have hn : cells + σ0.2.1 ≤ σ.2.1 ∧ slots + σ0.2.2.1 ≤ σ.2.2.1 := ⟨hn1, hn2⟩
  have hl : lv_has ls 6 [(0, .ref v0), (1, .int v1), (2, .int v2), (3, .int v3), (4, .int v4)] := hl
  have hx := X.1
  have hb : c.code = cX8_sell := X.2.1
  have hown : s.vm.findClass RX8 = some m.cls := X.2.2.2.2.2.1
  have hts := X.2.2.2.2.2.2.1
  refine W.eq (g2 := F0 m 91 ls [.int w0, .ref w1]) rfl ?_
  unfold T_X8_sell_91 at hf
  obtain ⟨q1, h1, hf⟩ := s_bind hf
  have le2 : s_le q1.2 (e_I r).2 := by
    refine s_lek hem_I ?_ k
    rcases s_ite hf with ⟨-, hf⟩ | ⟨-, hf⟩
    · obtain ⟨q2, hh, hf⟩ := s_bind hf
      refine s_lz.tr (l_X8_receipts hh) ?_
      obtain ⟨x3, -, hf⟩ := s_bind hf
      obtain ⟨σ4, hh, hf⟩ := s_bind hf
      refine s_lz.tr (s_le2 (s_si_2 hh)) ?_
      obtain ⟨x5, -, hf⟩ := s_bind hf
      obtain ⟨σ6, hh, hf⟩ := s_bind hf
      refine s_lz.tr (s_le2 (s_si_2 hh)) ?_
      obtain ⟨x7, -, hf⟩ := s_bind hf
      obtain ⟨σ8, hh, hf⟩ := s_bind hf
      refine s_lz.tr (s_le2 (s_si_2 hh)) ?_
      obtain ⟨x9, -, hf⟩ := s_bind hf
      obtain ⟨σ10, hh, hf⟩ := s_bind hf
      refine s_lz.tr (s_le2 (s_si_2 hh)) ?_
      obtain ⟨x11, -, hf⟩ := s_bind hf
      obtain ⟨σ12, hh, hf⟩ := s_bind hf
      refine s_lz.tr (s_le2 (s_si_2 hh)) ?_
      obtain ⟨x13, -, hf⟩ := s_bind hf
      obtain ⟨x14, -, hf⟩ := s_bind hf
      obtain ⟨σ15, hh, hf⟩ := s_bind hf
      refine s_lz.tr (s_le2 (s_si_2 hh)) ?_
      obtain ⟨q16, hh, hf⟩ := s_bind hf
      refine s_lz.tr (l_X8_receipts hh) ?_
      cases hf
      exact s_le.rf
    · cases hf
      exact s_le.rf
  refine lv_iconst (v := 3) hx hb dX8_sell_91 (by decide) ?_
  refine r_callV (Y := M_X8_throwsIf) (v := some (.int q1.1)) X I w_1897 my_X8_throwsIf (by omega) (t_X8_throwsIf (G := G) (d := d + 1) h1) (b_X8_throwsIf h1) rfl rfl hl.1 rfl (Nat.le_of_ble_eq_true rfl) hn le2 dX8_sell_92 (fun H locs cells slots I hn1 hn2 => ?_)
  have I : s_I G q1.2 s H locs := I
  have hn : cells + σ0.2.1 ≤ q1.2.2.1 ∧ slots + σ0.2.2.1 ≤ q1.2.2.2.1 := ⟨hn1, hn2⟩
  rcases s_ite hf with ⟨c3, hf⟩ | ⟨c3, hf⟩
  · refine lv_if_eq (tgt := 100) hx hb dX8_sell_95 (by decide) (fun _ => ?_) (fun n => absurd c3 n)
    obtain ⟨q2, h4, hf⟩ := s_bind hf
    obtain ⟨x3, h5, hf⟩ := s_bind hf
    obtain ⟨σ4, h6, hf⟩ := s_bind hf
    obtain ⟨x5, h7, hf⟩ := s_bind hf
    obtain ⟨σ6, h8, hf⟩ := s_bind hf
    obtain ⟨x7, h9, hf⟩ := s_bind hf
    obtain ⟨σ8, h10, hf⟩ := s_bind hf
    obtain ⟨x9, h11, hf⟩ := s_bind hf
    obtain ⟨σ10, h12, hf⟩ := s_bind hf
    obtain ⟨x11, h13, hf⟩ := s_bind hf
    obtain ⟨σ12, h14, hf⟩ := s_bind hf
    obtain ⟨x13, h15, hf⟩ := s_bind hf
    obtain ⟨x14, h16, hf⟩ := s_bind hf
    obtain ⟨σ15, h17, hf⟩ := s_bind hf
    obtain ⟨q16, h18, hf⟩ := s_bind hf
    cases hf
    have k : _ = r := k
    subst k
    have le19 : s_le q16.2 q16.2 := s_le.rf
    have le20 := s_le.tr (l_X8_receipts h18) le19
    have le21 := s_le.tr (s_le2 (s_si_2 h17)) le20
    have le22 := s_le.tr (s_le2 (s_si_2 h14)) le21
    have le23 := s_le.tr (s_le2 (s_si_2 h12)) le22
    have le24 := s_le.tr (s_le2 (s_si_2 h10)) le23
    have le25 := s_le.tr (s_le2 (s_si_2 h8)) le24
    have le26 := s_le.tr (s_le2 (s_si_2 h6)) le25
    refine lv_sipush (v := 1532) hx hb dX8_sell_100 (by decide) ?_
    refine lv_iconst (v := 5) hx hb dX8_sell_103 (by decide) ?_
    refine lv_aload_n hx hb dX8_sell_104 rfl (lv_at hl 0 rfl) ?_
    refine r_callV (Y := M_X8_receipts) (v := some (.int q2.1)) X I w_2295 my_X8_receipts (by omega) (t_X8_receipts (G := G) (d := d + 1) h4) (b_X8_receipts h4) rfl rfl hl.1 rfl (Nat.le_of_ble_eq_true rfl) hn le26 dX8_sell_105 (fun H locs cells slots I hn1 hn2 => ?_)
    have I : s_I G q2.2 s H locs := I
    have hn : cells + σ0.2.1 ≤ q2.2.2.1 ∧ slots + σ0.2.2.1 ≤ q2.2.2.2.1 := ⟨hn1, hn2⟩
    refine lv_imul hx hb dX8_sell_108 ?_
    refine lv_iadd hx hb dX8_sell_109 ?_
    refine lv_istore (lv' := [(5, .int (1532 + (5 * q2.1))), (0, .ref v0), (1, .int v1), (2, .int v2), (3, .int v3), (4, .int v4)]) hx hb dX8_sell_110 hl (by decide) rfl (fun ls hl => ?_)
    refine lv_aload_n hx hb dX8_sell_112 rfl (lv_at hl 1 rfl) ?_
    refine r_gr X I fl_X8_13 h5 dX8_sell_113 ?_
    refine lv_iload hx hb dX8_sell_116 (lv_at hl 0 rfl) ?_
    refine lv_iload_n hx hb dX8_sell_118 rfl (lv_at hl 2 rfl) ?_
    refine r_iast X I h6 dX8_sell_119 (fun H locs I => ?_)
    have hn := s_k2 (s_si_2 h6) hn
    refine lv_aload_n hx hb dX8_sell_120 rfl (lv_at hl 1 rfl) ?_
    refine r_gr X I fl_X8_13 h7 dX8_sell_121 ?_
    refine lv_iload hx hb dX8_sell_124 (lv_at hl 0 rfl) ?_
    refine lv_iconst (v := 1) hx hb dX8_sell_126 (by decide) ?_
    refine lv_iadd hx hb dX8_sell_127 ?_
    refine lv_iload_n hx hb dX8_sell_128 rfl (lv_at hl 3 rfl) ?_
    refine r_iast X I h8 dX8_sell_129 (fun H locs I => ?_)
    have hn := s_k2 (s_si_2 h8) hn
    refine lv_aload_n hx hb dX8_sell_130 rfl (lv_at hl 1 rfl) ?_
    refine r_gr X I fl_X8_13 h9 dX8_sell_131 ?_
    refine lv_iload hx hb dX8_sell_134 (lv_at hl 0 rfl) ?_
    refine lv_iconst (v := 2) hx hb dX8_sell_136 (by decide) ?_
    refine lv_iadd hx hb dX8_sell_137 ?_
    refine lv_iload_n hx hb dX8_sell_138 rfl (lv_at hl 4 rfl) ?_
    refine r_iast X I h10 dX8_sell_139 (fun H locs I => ?_)
    have hn := s_k2 (s_si_2 h10) hn
    refine lv_aload_n hx hb dX8_sell_140 rfl (lv_at hl 1 rfl) ?_
    refine r_gr X I fl_X8_13 h11 dX8_sell_141 ?_
    refine lv_iload hx hb dX8_sell_144 (lv_at hl 0 rfl) ?_
    refine lv_iconst (v := 3) hx hb dX8_sell_146 (by decide) ?_
    refine lv_iadd hx hb dX8_sell_147 ?_
    refine lv_iload hx hb dX8_sell_148 (lv_at hl 5 rfl) ?_
    refine r_iast X I h12 dX8_sell_150 (fun H locs I => ?_)
    have hn := s_k2 (s_si_2 h12) hn
    refine lv_aload_n hx hb dX8_sell_151 rfl (lv_at hl 1 rfl) ?_
    refine r_gr X I fl_X8_13 h13 dX8_sell_152 ?_
    refine lv_iload hx hb dX8_sell_155 (lv_at hl 0 rfl) ?_
    refine lv_iconst (v := 4) hx hb dX8_sell_157 (by decide) ?_
    refine lv_iadd hx hb dX8_sell_158 ?_
    refine lv_iconst (v := 0) hx hb dX8_sell_159 (by decide) ?_
    refine r_iast X I h14 dX8_sell_160 (fun H locs I => ?_)
    have hn := s_k2 (s_si_2 h14) hn
    refine lv_aload_n hx hb dX8_sell_161 rfl (lv_at hl 1 rfl) ?_
    refine r_gr X I fl_X8_13 h15 dX8_sell_162 ?_
    refine lv_iconst (v := 3) hx hb dX8_sell_165 (by decide) ?_
    refine lv_dup2_11 hx hb dX8_sell_166 rfl rfl ?_
    refine r_iald X I h16 dX8_sell_167 ?_
    refine lv_iconst (v := 1) hx hb dX8_sell_168 (by decide) ?_
    refine lv_iadd hx hb dX8_sell_169 ?_
    refine r_iast X I h17 dX8_sell_170 (fun H locs I => ?_)
    have hn := s_k2 (s_si_2 h17) hn
    refine lv_aload_n hx hb dX8_sell_171 rfl (lv_at hl 1 rfl) ?_
    refine r_callV (Y := M_X8_receipts) (v := some (.int q16.1)) X I w_2295 my_X8_receipts (by omega) (t_X8_receipts (G := G) (d := d + 1) h18) (b_X8_receipts h18) rfl rfl hl.1 rfl (Nat.le_of_ble_eq_true rfl) hn le19 dX8_sell_172 (fun H locs cells slots I hn1 hn2 => ?_)
    have I : s_I G q16.2 s H locs := I
    have hn : cells + σ0.2.1 ≤ q16.2.2.1 ∧ slots + σ0.2.2.1 ≤ q16.2.2.2.1 := ⟨hn1, hn2⟩
    refine lv_iconst (v := 1) hx hb dX8_sell_175 (by decide) ?_
    refine lv_isub hx hb dX8_sell_176 ?_
    exact r_iret X I rfl rfl rfl hn dX8_sell_177
  · refine lv_if_eq (tgt := 100) hx hb dX8_sell_95 (by decide) (fun n => absurd n c3) (fun _ => ?_)
    cases hf
    have k : _ = r := k
    subst k
    refine lv_iconst (v := 0) hx hb dX8_sell_98 (by decide) ?_
    exact r_iret X I rfl rfl rfl hn dX8_sell_99
theorem v_X8_sell {G : sG} {d : Nat} {vs0 : List Value} {σ0 : sS} {x : sL} {z : sZ Int32} {r : Int32 × sS} (hs : S_X8_sell x = some z) (k : s_K G (d + 3) M_X8_sell vs0 σ0 Y_X8_sell e_I z r) : s_V G (d + 3) M_X8_sell vs0 σ0 Y_X8_sell x (e_I r) := by
  obtain ⟨pc, vs, σ⟩ := x
  unfold S_X8_sell at hs
  dsimp only at hs
  rcases s_ite hs with ⟨c, hs⟩ | ⟨-, hs⟩
  · subst c
    unfold U_X8_sell_0 at hs
    obtain ⟨a0, g0, hs⟩ := s_bind hs
    obtain ⟨a1, g1, hs⟩ := s_bind hs
    obtain ⟨a2, g2, hs⟩ := s_bind hs
    obtain ⟨a3, g3, hs⟩ := s_bind hs
    obtain ⟨a4, g4, hs⟩ := s_bind hs
    obtain ⟨u9, ge, hs⟩ := s_bind hs
    rw [g_r_to g0, g_i_to g1, g_i_to g2, g_i_to g3, g_i_to g4, g_e_to ge]
    exact v_X8_sell_0 hs k
  rcases s_ite hs with ⟨c, hs⟩ | ⟨-, hs⟩
  · subst c
    unfold U_X8_sell_64 at hs
    obtain ⟨a0, g0, hs⟩ := s_bind hs
    obtain ⟨a1, g1, hs⟩ := s_bind hs
    obtain ⟨a2, g2, hs⟩ := s_bind hs
    obtain ⟨a3, g3, hs⟩ := s_bind hs
    obtain ⟨a4, g4, hs⟩ := s_bind hs
    obtain ⟨a5, g5, hs⟩ := s_bind hs
    obtain ⟨u9, ge, hs⟩ := s_bind hs
    rw [g_r_to g0, g_i_to g1, g_i_to g2, g_i_to g3, g_i_to g4, g_r_to g5, g_e_to ge]
    exact v_X8_sell_64 hs k
  rcases s_ite hs with ⟨c, hs⟩ | ⟨-, hs⟩
  · subst c
    unfold U_X8_sell_69 at hs
    obtain ⟨a0, g0, hs⟩ := s_bind hs
    obtain ⟨a1, g1, hs⟩ := s_bind hs
    obtain ⟨a2, g2, hs⟩ := s_bind hs
    obtain ⟨a3, g3, hs⟩ := s_bind hs
    obtain ⟨a4, g4, hs⟩ := s_bind hs
    obtain ⟨a5, g5, hs⟩ := s_bind hs
    obtain ⟨a6, g6, hs⟩ := s_bind hs
    obtain ⟨u9, ge, hs⟩ := s_bind hs
    rw [g_r_to g0, g_i_to g1, g_i_to g2, g_i_to g3, g_i_to g4, g_i_to g5, g_r_to g6, g_e_to ge]
    exact v_X8_sell_69 hs k
  rcases s_ite hs with ⟨c, hs⟩ | ⟨-, hs⟩
  · subst c
    unfold U_X8_sell_91 at hs
    obtain ⟨a0, g0, hs⟩ := s_bind hs
    obtain ⟨a1, g1, hs⟩ := s_bind hs
    obtain ⟨a2, g2, hs⟩ := s_bind hs
    obtain ⟨a3, g3, hs⟩ := s_bind hs
    obtain ⟨a4, g4, hs⟩ := s_bind hs
    obtain ⟨a5, g5, hs⟩ := s_bind hs
    obtain ⟨a6, g6, hs⟩ := s_bind hs
    obtain ⟨u9, ge, hs⟩ := s_bind hs
    rw [g_r_to g0, g_i_to g1, g_i_to g2, g_i_to g3, g_i_to g4, g_i_to g5, g_r_to g6, g_e_to ge]
    exact v_X8_sell_91 hs k
  cases hs
theorem t_X8_sell {G : sG} {d : Nat} {v0 : Nat} {v1 : Int32} {v2 : Int32} {v3 : Int32} {v4 : Int32} {σ : sS} {q : Int32 × sS} (h : F_X8_sell v0 v1 v2 v3 v4 σ = some q) : s_T G (d + 3) M_X8_sell [.ref v0, .int v1, .int v2, .int v3, .int v4] σ (e_I q) := by
  unfold F_X8_sell at h
  obtain ⟨-, -, h⟩ := s_bind h
  exact s_ofV rfl (by decide) (Nat.le_of_ble_eq_true rfl) rfl rfl (s_run_ind (V := fun x r => s_V G (d + 3) M_X8_sell [.ref v0, .int v1, .int v2, .int v3, .int v4] σ Y_X8_sell x (e_I r)) (fun x z r hs hk => v_X8_sell hs (by cases z <;> exact hk)) h)
/-! X7_undo -/
noncomputable def T_X7_undo_0 (v0 : Nat) (v1 : Int32) (σ : sS) : Option (sZ (Int32 ⊕ String)) :=
  if v1 < 0 then (some (.inr (.inr "java/lang/IndexOutOfBoundsException", s_ex σ)))
  else ((s_fr σ v0 7 1).bind fun x1 =>
  (s_fi σ x1 1 9).bind fun x2 =>
  if v1 < x2 then ((s_fr σ v0 7 1).bind fun x3 =>
  (F_X1_isVoid x3 v1 σ).bind fun q4 =>
  if q4.1 = 0 then (some (.inl (42, [.ref v0, .int v1, .int 1], q4.2)))
  else (some (.inl (42, [.ref v0, .int v1, .int 0], q4.2))))
  else (some (.inr (.inr "java/lang/IndexOutOfBoundsException", s_ex σ))))
noncomputable def U_X7_undo_0 (vs : List Value) (σ : sS) : Option (sZ (Int32 ⊕ String)) := (g_r vs).bind fun a0 => (g_i a0.2).bind fun a1 => (g_e a1.2).bind fun _ => T_X7_undo_0 a0.1 a1.1 σ
noncomputable def T_X7_undo_42 (v0 : Nat) (v1 : Int32) (w0 : Int32) (σ : sS) : Option (sZ (Int32 ⊕ String)) :=
  (s_fr σ v0 7 1).bind fun x1 =>
  (s_fi σ x1 1 10).bind fun x2 =>
  (s_pf σ x1 1 10 (.int (x2 ||| (1 <<< (v1 &&& 31))))).bind fun σ3 =>
  if (w0 = 0 ∨ w0 = 1) then (some (.inr (.inl w0, σ3))) else none
noncomputable def U_X7_undo_42 (vs : List Value) (σ : sS) : Option (sZ (Int32 ⊕ String)) := (g_r vs).bind fun a0 => (g_i a0.2).bind fun a1 => (g_i a1.2).bind fun a2 => (g_e a2.2).bind fun _ => T_X7_undo_42 a0.1 a1.1 a2.1 σ
noncomputable def S_X7_undo (x : sL) : Option (sZ (Int32 ⊕ String)) := if x.1 = 0 then U_X7_undo_0 x.2.1 x.2.2 else if x.1 = 42 then U_X7_undo_42 x.2.1 x.2.2 else none
def Y_X7_undo (pc : Nat) : List Nat := if pc = 0 then [0, 1] else if pc = 42 then [0, 1] else []
noncomputable def F_X7_undo (v0 : Nat) (v1 : Int32) (σ : sS) : Option ((Int32 ⊕ String) × sS) := (s_is σ v0 7).bind fun _ => s_run S_X7_undo (0, [.ref v0, .int v1], σ)
theorem l_X7_undo_0 {v0 : Nat} {v1 : Int32} {σ : sS} {z : sZ (Int32 ⊕ String)} (hf : T_X7_undo_0 v0 v1 σ = some z) : s_lz σ z := by
  unfold T_X7_undo_0 at hf
  rcases s_ite hf with ⟨-, hf⟩ | ⟨-, hf⟩
  · cases hf
    exact s_ex_le
  · obtain ⟨x1, -, hf⟩ := s_bind hf
    obtain ⟨x2, -, hf⟩ := s_bind hf
    rcases s_ite hf with ⟨-, hf⟩ | ⟨-, hf⟩
    · obtain ⟨x3, -, hf⟩ := s_bind hf
      obtain ⟨q4, hh, hf⟩ := s_bind hf
      refine s_lz.tr (l_X1_isVoid hh) ?_
      rcases s_ite hf with ⟨-, hf⟩ | ⟨-, hf⟩
      · cases hf
        exact s_le.rf
      · cases hf
        exact s_le.rf
    · cases hf
      exact s_ex_le
theorem l_X7_undo_42 {v0 : Nat} {v1 : Int32} {w0 : Int32} {σ : sS} {z : sZ (Int32 ⊕ String)} (hf : T_X7_undo_42 v0 v1 w0 σ = some z) : s_lz σ z := by
  unfold T_X7_undo_42 at hf
  obtain ⟨x1, -, hf⟩ := s_bind hf
  obtain ⟨x2, -, hf⟩ := s_bind hf
  obtain ⟨σ3, hh, hf⟩ := s_bind hf
  refine s_lz.tr (s_le2 (s_pf_2 hh)) ?_
  rcases s_ite hf with ⟨-, hf⟩ | ⟨-, hf⟩
  · cases hf
    exact s_le.rf
  · cases hf
theorem l_X7_undo_s {x : sL} {z : sZ (Int32 ⊕ String)} (hs : S_X7_undo x = some z) : s_lz x.2.2 z := by
  obtain ⟨pc, vs, σ⟩ := x
  unfold S_X7_undo at hs
  dsimp only at hs ⊢
  rcases s_ite hs with ⟨c, hs⟩ | ⟨-, hs⟩
  · subst c
    unfold U_X7_undo_0 at hs
    obtain ⟨a0, g0, hs⟩ := s_bind hs
    obtain ⟨a1, g1, hs⟩ := s_bind hs
    obtain ⟨u9, ge, hs⟩ := s_bind hs
    exact l_X7_undo_0 hs
  rcases s_ite hs with ⟨c, hs⟩ | ⟨-, hs⟩
  · subst c
    unfold U_X7_undo_42 at hs
    obtain ⟨a0, g0, hs⟩ := s_bind hs
    obtain ⟨a1, g1, hs⟩ := s_bind hs
    obtain ⟨a2, g2, hs⟩ := s_bind hs
    obtain ⟨u9, ge, hs⟩ := s_bind hs
    exact l_X7_undo_42 hs
  cases hs
theorem l_X7_undo {v0 : Nat} {v1 : Int32} {σ : sS} {q : (Int32 ⊕ String) × sS} (h : F_X7_undo v0 v1 σ = some q) : s_le σ q.2 := by
  unfold F_X7_undo at h
  obtain ⟨-, -, h⟩ := s_bind h
  exact s_run_ind (V := fun x r => s_le x.2.2 r.2) (fun x z r hs hk => by
    have h9 := l_X7_undo_s hs
    cases z with
    | inl y => exact s_le.tr h9 hk
    | inr q => cases hk; exact h9) h
theorem b_X7_undo {v0 : Nat} {v1 : Int32} {σ : sS} {q : (Int32 ⊕ String) × sS} (h : F_X7_undo v0 v1 σ = some q) : ∃ fs, σ.1 v0 = some (.inr (7, fs)) := by
  unfold F_X7_undo at h
  obtain ⟨u, hu, -⟩ := s_bind h
  exact s_is_to hu
set_option maxRecDepth 100000 in
set_option maxHeartbeats 4000000 in
theorem v_X7_undo_0 {G : sG} {d : Nat} {vs0 : List Value} {σ0 : sS} {v0 : Nat} {v1 : Int32} {σ : sS} {z : sZ (Int32 ⊕ String)} {r : (Int32 ⊕ String) × sS} (hf : T_X7_undo_0 v0 v1 σ = some z) (k : s_K G (d + 2) M_X7_undo vs0 σ0 Y_X7_undo e_IX z r) : s_V G (d + 2) M_X7_undo vs0 σ0 Y_X7_undo (0, [.ref v0, .int v1], σ) (e_IX r) := by
  have le0 : s_le σ (e_IX r).2 := s_lek hem_IX (l_X7_undo_0 hf) k
  refine ⟨le0, ?_⟩
  intro p e s m below meth c H locs cells slots ls X I hn1 hn2 hl
  have hn : cells + σ0.2.1 ≤ σ.2.1 ∧ slots + σ0.2.2.1 ≤ σ.2.2.1 := ⟨hn1, hn2⟩
  have hl : lv_has ls 3 [(0, .ref v0), (1, .int v1)] := hl
  have hx := X.1
  have hb : c.code = cX7_undo := X.2.1
  have hown : s.vm.findClass RX7 = some m.cls := X.2.2.2.2.2.1
  have hts := X.2.2.2.2.2.2.1
  refine W.eq (g2 := F0 m 0 ls []) rfl ?_
  unfold T_X7_undo_0 at hf
  refine lv_iload_n hx hb dX7_undo_0 rfl (lv_at hl 1 rfl) ?_
  rcases s_ite hf with ⟨c1, hf⟩ | ⟨c1, hf⟩
  · refine lv_if_lt (tgt := 15) hx hb dX7_undo_1 (by decide) (fun _ => ?_) (fun n => absurd c1 n)
    cases hf
    have k : _ = r := k
    subst k
    exact r_throwW X I rfl th_X7_156_301 hl.1 (Nat.le_of_ble_eq_true rfl) hn rfl dX7_undo_15 dX7_undo_18 dX7_undo_19 dX7_undo_22 dX7_undo_25
  · refine lv_if_lt (tgt := 15) hx hb dX7_undo_1 (by decide) (fun n => absurd n c1) (fun _ => ?_)
    obtain ⟨x1, h2, hf⟩ := s_bind hf
    obtain ⟨x2, h3, hf⟩ := s_bind hf
    refine lv_iload_n hx hb dX7_undo_4 rfl (lv_at hl 1 rfl) ?_
    refine lv_aload_n hx hb dX7_undo_5 rfl (lv_at hl 0 rfl) ?_
    refine r_gr X I fl_X7_19 h2 dX7_undo_6 ?_
    refine r_gi X I fl_X7_292 h3 dX7_undo_9 ?_
    rcases s_ite hf with ⟨c4, hf⟩ | ⟨c4, hf⟩
    · refine lv_icmp_lt (tgt := 26) hx hb dX7_undo_12 (by decide) (fun _ => ?_) (fun n => absurd c4 n)
      obtain ⟨x3, h5, hf⟩ := s_bind hf
      obtain ⟨q4, h6, hf⟩ := s_bind hf
      have le7 : s_le q4.2 (e_IX r).2 := by
        refine s_lek hem_IX ?_ k
        rcases s_ite hf with ⟨-, hf⟩ | ⟨-, hf⟩
        · cases hf
          exact s_le.rf
        · cases hf
          exact s_le.rf
      refine lv_aload_n hx hb dX7_undo_26 rfl (lv_at hl 0 rfl) ?_
      refine r_gr X I fl_X7_19 h5 dX7_undo_27 ?_
      refine lv_iload_n hx hb dX7_undo_30 rfl (lv_at hl 1 rfl) ?_
      refine r_callV (Y := M_X1_isVoid) (v := some (.int q4.1)) X I w_1640 my_X1_isVoid (by omega) (t_X1_isVoid (G := G) (d := d + 0) h6) (b_X1_isVoid h6) rfl rfl hl.1 rfl (Nat.le_of_ble_eq_true rfl) hn le7 dX7_undo_31 (fun H locs cells slots I hn1 hn2 => ?_)
      have I : s_I G q4.2 s H locs := I
      have hn : cells + σ0.2.1 ≤ q4.2.2.1 ∧ slots + σ0.2.2.1 ≤ q4.2.2.2.1 := ⟨hn1, hn2⟩
      rcases s_ite hf with ⟨c8, hf⟩ | ⟨c8, hf⟩
      · refine lv_if_ne (tgt := 41) hx hb dX7_undo_34 (by decide) (fun n => absurd c8 n) (fun _ => ?_)
        cases hf
        have k : s_V G (d + 2) M_X7_undo vs0 σ0 Y_X7_undo (42, [.ref v0, .int v1, .int 1], q4.2) (e_IX r) := k
        refine lv_iconst (v := 1) hx hb dX7_undo_37 (by decide) ?_
        refine lv_goto (tgt := 42) hx hb dX7_undo_38 (by decide) ?_
        exact k.2 p e s m below meth c _ _ _ _ _ X I hn.1 hn.2 (lv_sub hl [0, 1] rfl)
      · refine lv_if_ne (tgt := 41) hx hb dX7_undo_34 (by decide) (fun _ => ?_) (fun n => absurd n c8)
        cases hf
        have k : s_V G (d + 2) M_X7_undo vs0 σ0 Y_X7_undo (42, [.ref v0, .int v1, .int 0], q4.2) (e_IX r) := k
        refine lv_iconst (v := 0) hx hb dX7_undo_41 (by decide) ?_
        exact k.2 p e s m below meth c _ _ _ _ _ X I hn.1 hn.2 (lv_sub hl [0, 1] rfl)
    · refine lv_icmp_lt (tgt := 26) hx hb dX7_undo_12 (by decide) (fun n => absurd n c4) (fun _ => ?_)
      cases hf
      have k : _ = r := k
      subst k
      exact r_throwW X I rfl th_X7_156_301 hl.1 (Nat.le_of_ble_eq_true rfl) hn rfl dX7_undo_15 dX7_undo_18 dX7_undo_19 dX7_undo_22 dX7_undo_25
set_option maxRecDepth 100000 in
set_option maxHeartbeats 4000000 in
theorem v_X7_undo_42 {G : sG} {d : Nat} {vs0 : List Value} {σ0 : sS} {v0 : Nat} {v1 : Int32} {w0 : Int32} {σ : sS} {z : sZ (Int32 ⊕ String)} {r : (Int32 ⊕ String) × sS} (hf : T_X7_undo_42 v0 v1 w0 σ = some z) (k : s_K G (d + 2) M_X7_undo vs0 σ0 Y_X7_undo e_IX z r) : s_V G (d + 2) M_X7_undo vs0 σ0 Y_X7_undo (42, [.ref v0, .int v1, .int w0], σ) (e_IX r) := by
  have le0 : s_le σ (e_IX r).2 := s_lek hem_IX (l_X7_undo_42 hf) k
  refine ⟨le0, ?_⟩
  intro p e s m below meth c H locs cells slots ls X I hn1 hn2 hl
  have hn : cells + σ0.2.1 ≤ σ.2.1 ∧ slots + σ0.2.2.1 ≤ σ.2.2.1 := ⟨hn1, hn2⟩
  have hl : lv_has ls 3 [(0, .ref v0), (1, .int v1)] := hl
  have hx := X.1
  have hb : c.code = cX7_undo := X.2.1
  have hown : s.vm.findClass RX7 = some m.cls := X.2.2.2.2.2.1
  have hts := X.2.2.2.2.2.2.1
  refine W.eq (g2 := F0 m 42 ls [.int w0]) rfl ?_
  unfold T_X7_undo_42 at hf
  obtain ⟨x1, h1, hf⟩ := s_bind hf
  obtain ⟨x2, h2, hf⟩ := s_bind hf
  obtain ⟨σ3, h3, hf⟩ := s_bind hf
  have le4 : s_le σ3 (e_IX r).2 := by
    refine s_lek hem_IX ?_ k
    rcases s_ite hf with ⟨-, hf⟩ | ⟨-, hf⟩
    · cases hf
      exact s_le.rf
    · cases hf
  refine lv_istore_n (lv' := [(2, .int w0), (0, .ref v0), (1, .int v1)]) hx hb dX7_undo_42 rfl hl (by decide) rfl (fun ls hl => ?_)
  refine lv_aload_n hx hb dX7_undo_43 rfl (lv_at hl 1 rfl) ?_
  refine r_gr X I fl_X7_19 h1 dX7_undo_44 ?_
  refine lv_dup hx hb dX7_undo_47 rfl ?_
  refine r_gi X I fl_X7_306 h2 dX7_undo_48 ?_
  refine lv_iconst (v := 1) hx hb dX7_undo_51 (by decide) ?_
  refine lv_iload_n hx hb dX7_undo_52 rfl (lv_at hl 2 rfl) ?_
  refine lv_ishl hx hb dX7_undo_53 ?_
  refine lv_ior hx hb dX7_undo_54 ?_
  refine r_put X I fp_X7_306 (fun h => by cases h) h3 rfl rfl dX7_undo_55 (fun H locs I => ?_)
  have hn := s_k2 (s_pf_2 h3) hn
  refine lv_iload_n hx hb dX7_undo_58 rfl (lv_at hl 0 rfl) ?_
  rcases s_ite hf with ⟨hchk, hf⟩ | ⟨-, hf⟩
  · cases hf
    have k : _ = r := k
    subst k
    exact r_iret X I rfl (s_nb hchk) rfl hn dX7_undo_59
  · cases hf
theorem v_X7_undo {G : sG} {d : Nat} {vs0 : List Value} {σ0 : sS} {x : sL} {z : sZ (Int32 ⊕ String)} {r : (Int32 ⊕ String) × sS} (hs : S_X7_undo x = some z) (k : s_K G (d + 2) M_X7_undo vs0 σ0 Y_X7_undo e_IX z r) : s_V G (d + 2) M_X7_undo vs0 σ0 Y_X7_undo x (e_IX r) := by
  obtain ⟨pc, vs, σ⟩ := x
  unfold S_X7_undo at hs
  dsimp only at hs
  rcases s_ite hs with ⟨c, hs⟩ | ⟨-, hs⟩
  · subst c
    unfold U_X7_undo_0 at hs
    obtain ⟨a0, g0, hs⟩ := s_bind hs
    obtain ⟨a1, g1, hs⟩ := s_bind hs
    obtain ⟨u9, ge, hs⟩ := s_bind hs
    rw [g_r_to g0, g_i_to g1, g_e_to ge]
    exact v_X7_undo_0 hs k
  rcases s_ite hs with ⟨c, hs⟩ | ⟨-, hs⟩
  · subst c
    unfold U_X7_undo_42 at hs
    obtain ⟨a0, g0, hs⟩ := s_bind hs
    obtain ⟨a1, g1, hs⟩ := s_bind hs
    obtain ⟨a2, g2, hs⟩ := s_bind hs
    obtain ⟨u9, ge, hs⟩ := s_bind hs
    rw [g_r_to g0, g_i_to g1, g_i_to g2, g_e_to ge]
    exact v_X7_undo_42 hs k
  cases hs
theorem t_X7_undo {G : sG} {d : Nat} {v0 : Nat} {v1 : Int32} {σ : sS} {q : (Int32 ⊕ String) × sS} (h : F_X7_undo v0 v1 σ = some q) : s_T G (d + 2) M_X7_undo [.ref v0, .int v1] σ (e_IX q) := by
  unfold F_X7_undo at h
  obtain ⟨-, -, h⟩ := s_bind h
  exact s_ofV rfl (by decide) (Nat.le_of_ble_eq_true rfl) rfl rfl (s_run_ind (V := fun x r => s_V G (d + 2) M_X7_undo [.ref v0, .int v1] σ Y_X7_undo x (e_IX r)) (fun x z r hs hk => v_X7_undo hs (by cases z <;> exact hk)) h)
