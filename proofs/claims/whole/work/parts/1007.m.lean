/-! X7_cheapest -/
noncomputable def T_X7_cheapest_0 (v0 : Nat) (v1 : Int32) (v2 : Int32) (v3 : Int32) (σ : sS) : Option (sZ (Int32 ⊕ String)) :=
  (F_X7_needProof v0 v1 v2 v3 σ).bind fun q1 => s_sum q1.1 (fun x2 => (s_fr q1.2 v0 7 6).bind fun x4 =>
  (F_X4_costIn x4 v1 q1.2).bind fun q5 =>
  some (.inr (.inl q5.1, q5.2))) (fun E3 => some (.inr (.inr E3, q1.2)))
noncomputable def U_X7_cheapest_0 (vs : List Value) (σ : sS) : Option (sZ (Int32 ⊕ String)) := (g_r vs).bind fun a0 => (g_i a0.2).bind fun a1 => (g_i a1.2).bind fun a2 => (g_i a2.2).bind fun a3 => (g_e a3.2).bind fun _ => T_X7_cheapest_0 a0.1 a1.1 a2.1 a3.1 σ
noncomputable def S_X7_cheapest (x : sL) : Option (sZ (Int32 ⊕ String)) := if x.1 = 0 then U_X7_cheapest_0 x.2.1 x.2.2 else none
def Y_X7_cheapest (pc : Nat) : List Nat := if pc = 0 then [0, 1, 2, 3] else []
noncomputable def F_X7_cheapest (v0 : Nat) (v1 : Int32) (v2 : Int32) (v3 : Int32) (σ : sS) : Option ((Int32 ⊕ String) × sS) := (s_is σ v0 7).bind fun _ => s_run S_X7_cheapest (0, [.ref v0, .int v1, .int v2, .int v3], σ)
theorem l_X7_cheapest_0 {v0 : Nat} {v1 : Int32} {v2 : Int32} {v3 : Int32} {σ : sS} {z : sZ (Int32 ⊕ String)} (hf : T_X7_cheapest_0 v0 v1 v2 v3 σ = some z) : s_lz σ z := by
  unfold T_X7_cheapest_0 at hf
  obtain ⟨q1, hh, hf⟩ := s_bind hf
  refine s_lz.tr (l_X7_needProof hh) ?_
  rcases s_sum_some hf with ⟨x2, -, hf⟩ | ⟨E3, -, hf⟩
  · obtain ⟨x4, -, hf⟩ := s_bind hf
    obtain ⟨q5, hh, hf⟩ := s_bind hf
    refine s_lz.tr (l_X4_costIn hh) ?_
    cases hf
    exact s_le.rf
  · cases hf
    exact s_le.rf
theorem l_X7_cheapest_s {x : sL} {z : sZ (Int32 ⊕ String)} (hs : S_X7_cheapest x = some z) : s_lz x.2.2 z := by
  obtain ⟨pc, vs, σ⟩ := x
  unfold S_X7_cheapest at hs
  dsimp only at hs ⊢
  rcases s_ite hs with ⟨c, hs⟩ | ⟨-, hs⟩
  · subst c
    unfold U_X7_cheapest_0 at hs
    obtain ⟨a0, g0, hs⟩ := s_bind hs
    obtain ⟨a1, g1, hs⟩ := s_bind hs
    obtain ⟨a2, g2, hs⟩ := s_bind hs
    obtain ⟨a3, g3, hs⟩ := s_bind hs
    obtain ⟨u9, ge, hs⟩ := s_bind hs
    exact l_X7_cheapest_0 hs
  cases hs
theorem l_X7_cheapest {v0 : Nat} {v1 : Int32} {v2 : Int32} {v3 : Int32} {σ : sS} {q : (Int32 ⊕ String) × sS} (h : F_X7_cheapest v0 v1 v2 v3 σ = some q) : s_le σ q.2 := by
  unfold F_X7_cheapest at h
  obtain ⟨-, -, h⟩ := s_bind h
  exact s_run_ind (V := fun x r => s_le x.2.2 r.2) (fun x z r hs hk => by
    have h9 := l_X7_cheapest_s hs
    cases z with
    | inl y => exact s_le.tr h9 hk
    | inr q => cases hk; exact h9) h
theorem b_X7_cheapest {v0 : Nat} {v1 : Int32} {v2 : Int32} {v3 : Int32} {σ : sS} {q : (Int32 ⊕ String) × sS} (h : F_X7_cheapest v0 v1 v2 v3 σ = some q) : ∃ fs, σ.1 v0 = some (.inr (7, fs)) := by
  unfold F_X7_cheapest at h
  obtain ⟨u, hu, -⟩ := s_bind h
  exact s_is_to hu
set_option maxRecDepth 100000 in
set_option maxHeartbeats 4000000 in
theorem v_X7_cheapest_0 {G : sG} {d : Nat} {vs0 : List Value} {σ0 : sS} {v0 : Nat} {v1 : Int32} {v2 : Int32} {v3 : Int32} {σ : sS} {z : sZ (Int32 ⊕ String)} {r : (Int32 ⊕ String) × sS} (hf : T_X7_cheapest_0 v0 v1 v2 v3 σ = some z) (k : s_K G (d + 69) M_X7_cheapest vs0 σ0 Y_X7_cheapest e_IX z r) : s_V G (d + 69) M_X7_cheapest vs0 σ0 Y_X7_cheapest (0, [.ref v0, .int v1, .int v2, .int v3], σ) (e_IX r) := by
  have le0 : s_le σ (e_IX r).2 := s_lek hem_IX (l_X7_cheapest_0 hf) k
  refine ⟨le0, ?_⟩
  intro p e s m below meth c H locs cells slots ls X I hn1 hn2 hl
  have hn : cells + σ0.2.1 ≤ σ.2.1 ∧ slots + σ0.2.2.1 ≤ σ.2.2.1 := ⟨hn1, hn2⟩
  have hl : lv_has ls 4 [(0, .ref v0), (1, .int v1), (2, .int v2), (3, .int v3)] := hl
  have hx := X.1
  have hb : c.code = cX7_cheapest := X.2.1
  have hown : s.vm.findClass RX7 = some m.cls := X.2.2.2.2.2.1
  have hts := X.2.2.2.2.2.2.1
  refine W.eq (g2 := F0 m 0 ls []) rfl ?_
  unfold T_X7_cheapest_0 at hf
  obtain ⟨q1, h1, hf⟩ := s_bind hf
  refine lv_aload_n hx hb dX7_cheapest_0 rfl (lv_at hl 0 rfl) ?_
  refine lv_iload_n hx hb dX7_cheapest_1 rfl (lv_at hl 1 rfl) ?_
  refine lv_iload_n hx hb dX7_cheapest_2 rfl (lv_at hl 2 rfl) ?_
  refine lv_iload_n hx hb dX7_cheapest_3 rfl (lv_at hl 3 rfl) ?_
  rcases s_sum_some hf with ⟨x2, hq2, hf⟩ | ⟨E3, hq2, hf⟩
  · have le3 : s_le q1.2 (e_IX r).2 := by
      refine s_lek hem_IX ?_ k
      obtain ⟨x4, -, hf⟩ := s_bind hf
      obtain ⟨q5, hh, hf⟩ := s_bind hf
      refine s_lz.tr (l_X4_costIn hh) ?_
      cases hf
      exact s_le.rf
    refine r_callV (Y := M_X7_needProof) (v := none) X I w_1279 my_X7_needProof (by omega) (t_X7_needProof (G := G) (d := d + 0) h1) (b_X7_needProof h1) (e_VX_l hq2) rfl hl.1 rfl (Nat.le_of_ble_eq_true rfl) hn le3 dX7_cheapest_4 (fun H locs cells slots I hn1 hn2 => ?_)
    have I : s_I G q1.2 s H locs := I
    have hn : cells + σ0.2.1 ≤ q1.2.2.1 ∧ slots + σ0.2.2.1 ≤ q1.2.2.2.1 := ⟨hn1, hn2⟩
    obtain ⟨x4, h4, hf⟩ := s_bind hf
    obtain ⟨q5, h5, hf⟩ := s_bind hf
    cases hf
    have k : _ = r := k
    subst k
    have le6 : s_le q5.2 q5.2 := s_le.rf
    refine lv_aload_n hx hb dX7_cheapest_7 rfl (lv_at hl 0 rfl) ?_
    refine r_gr X I fl_X7_56 h4 dX7_cheapest_8 ?_
    refine lv_iload_n hx hb dX7_cheapest_11 rfl (lv_at hl 1 rfl) ?_
    refine r_callV (Y := M_X4_costIn) (v := some (.int q5.1)) X I w_1343 my_X4_costIn (by omega) (t_X4_costIn (G := G) (d := d + 63) h5) (b_X4_costIn h5) rfl rfl hl.1 rfl (Nat.le_of_ble_eq_true rfl) hn le6 dX7_cheapest_12 (fun H locs cells slots I hn1 hn2 => ?_)
    have I : s_I G q5.2 s H locs := I
    have hn : cells + σ0.2.1 ≤ q5.2.2.1 ∧ slots + σ0.2.2.1 ≤ q5.2.2.2.1 := ⟨hn1, hn2⟩
    exact r_iret X I rfl rfl rfl hn dX7_cheapest_15
  · cases hf
    have k : _ = r := k
    subst k
    exact r_callVx (Y := M_X7_needProof) X I rfl w_1279 my_X7_needProof (by omega) (t_X7_needProof (G := G) (d := d + 0) h1) (b_X7_needProof h1) (e_VX_r hq2) rfl hl.1 rfl (Nat.le_of_ble_eq_true rfl) hn rfl dX7_cheapest_4
theorem v_X7_cheapest {G : sG} {d : Nat} {vs0 : List Value} {σ0 : sS} {x : sL} {z : sZ (Int32 ⊕ String)} {r : (Int32 ⊕ String) × sS} (hs : S_X7_cheapest x = some z) (k : s_K G (d + 69) M_X7_cheapest vs0 σ0 Y_X7_cheapest e_IX z r) : s_V G (d + 69) M_X7_cheapest vs0 σ0 Y_X7_cheapest x (e_IX r) := by
  obtain ⟨pc, vs, σ⟩ := x
  unfold S_X7_cheapest at hs
  dsimp only at hs
  rcases s_ite hs with ⟨c, hs⟩ | ⟨-, hs⟩
  · subst c
    unfold U_X7_cheapest_0 at hs
    obtain ⟨a0, g0, hs⟩ := s_bind hs
    obtain ⟨a1, g1, hs⟩ := s_bind hs
    obtain ⟨a2, g2, hs⟩ := s_bind hs
    obtain ⟨a3, g3, hs⟩ := s_bind hs
    obtain ⟨u9, ge, hs⟩ := s_bind hs
    rw [g_r_to g0, g_i_to g1, g_i_to g2, g_i_to g3, g_e_to ge]
    exact v_X7_cheapest_0 hs k
  cases hs
theorem t_X7_cheapest {G : sG} {d : Nat} {v0 : Nat} {v1 : Int32} {v2 : Int32} {v3 : Int32} {σ : sS} {q : (Int32 ⊕ String) × sS} (h : F_X7_cheapest v0 v1 v2 v3 σ = some q) : s_T G (d + 69) M_X7_cheapest [.ref v0, .int v1, .int v2, .int v3] σ (e_IX q) := by
  unfold F_X7_cheapest at h
  obtain ⟨-, -, h⟩ := s_bind h
  exact s_ofV rfl (by decide) (Nat.le_of_ble_eq_true rfl) rfl rfl (s_run_ind (V := fun x r => s_V G (d + 69) M_X7_cheapest [.ref v0, .int v1, .int v2, .int v3] σ Y_X7_cheapest x (e_IX r)) (fun x z r hs hk => v_X7_cheapest hs (by cases z <;> exact hk)) h)
/-! L_cheapest -/
noncomputable def T_L_cheapest_0 (v0 : Nat) (v1 : Int32) (v2 : Int32) (v3 : Int32) (v4 : Nat) (σ : sS) : Option (sZ Int32) :=
  (F_X7_cheapest v0 v1 v2 v3 σ).bind fun q1 => s_sum q1.1 (fun x2 => (s_sl q1.2 v4 0 ((x2 : Int32).toInt64)).bind fun σ4 =>
  some (.inr (0, σ4))) (fun E3 => if E3 = "java/lang/IndexOutOfBoundsException" then (some (.inr (1, q1.2))) else none)
noncomputable def U_L_cheapest_0 (vs : List Value) (σ : sS) : Option (sZ Int32) := (g_r vs).bind fun a0 => (g_i a0.2).bind fun a1 => (g_i a1.2).bind fun a2 => (g_i a2.2).bind fun a3 => (g_r a3.2).bind fun a4 => (g_e a4.2).bind fun _ => T_L_cheapest_0 a0.1 a1.1 a2.1 a3.1 a4.1 σ
noncomputable def S_L_cheapest (x : sL) : Option (sZ Int32) := if x.1 = 0 then U_L_cheapest_0 x.2.1 x.2.2 else none
def Y_L_cheapest (pc : Nat) : List Nat := if pc = 0 then [0, 1, 2, 3, 4] else []
noncomputable def F_L_cheapest (v0 : Nat) (v1 : Int32) (v2 : Int32) (v3 : Int32) (v4 : Nat) (σ : sS) : Option (Int32 × sS) := s_run S_L_cheapest (0, [.ref v0, .int v1, .int v2, .int v3, .ref v4], σ)
theorem l_L_cheapest_0 {v0 : Nat} {v1 : Int32} {v2 : Int32} {v3 : Int32} {v4 : Nat} {σ : sS} {z : sZ Int32} (hf : T_L_cheapest_0 v0 v1 v2 v3 v4 σ = some z) : s_lz σ z := by
  unfold T_L_cheapest_0 at hf
  obtain ⟨q1, hh, hf⟩ := s_bind hf
  refine s_lz.tr (l_X7_cheapest hh) ?_
  rcases s_sum_some hf with ⟨x2, -, hf⟩ | ⟨E3, -, hf⟩
  · obtain ⟨σ4, hh, hf⟩ := s_bind hf
    refine s_lz.tr (s_le2 (s_sl_2 hh)) ?_
    cases hf
    exact s_le.rf
  · rcases s_ite hf with ⟨-, hf⟩ | ⟨-, hf⟩
    · cases hf
      exact s_le.rf
    cases hf
theorem l_L_cheapest_s {x : sL} {z : sZ Int32} (hs : S_L_cheapest x = some z) : s_lz x.2.2 z := by
  obtain ⟨pc, vs, σ⟩ := x
  unfold S_L_cheapest at hs
  dsimp only at hs ⊢
  rcases s_ite hs with ⟨c, hs⟩ | ⟨-, hs⟩
  · subst c
    unfold U_L_cheapest_0 at hs
    obtain ⟨a0, g0, hs⟩ := s_bind hs
    obtain ⟨a1, g1, hs⟩ := s_bind hs
    obtain ⟨a2, g2, hs⟩ := s_bind hs
    obtain ⟨a3, g3, hs⟩ := s_bind hs
    obtain ⟨a4, g4, hs⟩ := s_bind hs
    obtain ⟨u9, ge, hs⟩ := s_bind hs
    exact l_L_cheapest_0 hs
  cases hs
theorem l_L_cheapest {v0 : Nat} {v1 : Int32} {v2 : Int32} {v3 : Int32} {v4 : Nat} {σ : sS} {q : Int32 × sS} (h : F_L_cheapest v0 v1 v2 v3 v4 σ = some q) : s_le σ q.2 := by
  unfold F_L_cheapest at h
  exact s_run_ind (V := fun x r => s_le x.2.2 r.2) (fun x z r hs hk => by
    have h9 := l_L_cheapest_s hs
    cases z with
    | inl y => exact s_le.tr h9 hk
    | inr q => cases hk; exact h9) h
set_option maxRecDepth 100000 in
set_option maxHeartbeats 4000000 in
theorem v_L_cheapest_0 {G : sG} {d : Nat} {vs0 : List Value} {σ0 : sS} {v0 : Nat} {v1 : Int32} {v2 : Int32} {v3 : Int32} {v4 : Nat} {σ : sS} {z : sZ Int32} {r : Int32 × sS} (hf : T_L_cheapest_0 v0 v1 v2 v3 v4 σ = some z) (k : s_K G (d + 70) M_L_cheapest vs0 σ0 Y_L_cheapest e_I z r) : s_V G (d + 70) M_L_cheapest vs0 σ0 Y_L_cheapest (0, [.ref v0, .int v1, .int v2, .int v3, .ref v4], σ) (e_I r) := by
  have le0 : s_le σ (e_I r).2 := s_lek hem_I (l_L_cheapest_0 hf) k
  refine ⟨le0, ?_⟩
  intro p e s m below meth c H locs cells slots ls X I hn1 hn2 hl
  have hn : cells + σ0.2.1 ≤ σ.2.1 ∧ slots + σ0.2.2.1 ≤ σ.2.2.1 := ⟨hn1, hn2⟩
  have hl : lv_has ls 6 [(0, .ref v0), (1, .int v1), (2, .int v2), (3, .int v3), (4, .ref v4)] := hl
  have hx := X.1
  have hb : c.code = cL_cheapest := X.2.1
  have hown : s.vm.findClass RL = some m.cls := X.2.2.2.2.2.1
  have hts := X.2.2.2.2.2.2.1
  refine W.eq (g2 := F0 m 0 ls []) rfl ?_
  unfold T_L_cheapest_0 at hf
  obtain ⟨q1, h1, hf⟩ := s_bind hf
  refine lv_aload hx hb dL_cheapest_0 (lv_at hl 4 rfl) ?_
  refine lv_iconst (v := 0) hx hb dL_cheapest_2 (by decide) ?_
  refine lv_aload_n hx hb dL_cheapest_3 rfl (lv_at hl 0 rfl) ?_
  refine lv_iload_n hx hb dL_cheapest_4 rfl (lv_at hl 1 rfl) ?_
  refine lv_iload_n hx hb dL_cheapest_5 rfl (lv_at hl 2 rfl) ?_
  refine lv_iload_n hx hb dL_cheapest_6 rfl (lv_at hl 3 rfl) ?_
  rcases s_sum_some hf with ⟨x2, hq2, hf⟩ | ⟨E3, hq2, hf⟩
  · have le3 : s_le q1.2 (e_I r).2 := by
      refine s_lek hem_I ?_ k
      obtain ⟨σ4, hh, hf⟩ := s_bind hf
      refine s_lz.tr (s_le2 (s_sl_2 hh)) ?_
      cases hf
      exact s_le.rf
    refine r_callV (Y := M_X7_cheapest) (v := some (.int x2)) X I w_1275 my_X7_cheapest (by omega) (t_X7_cheapest (G := G) (d := d + 0) h1) (b_X7_cheapest h1) (e_IX_l hq2) rfl hl.1 rfl (Nat.le_of_ble_eq_true rfl) hn le3 dL_cheapest_7 (fun H locs cells slots I hn1 hn2 => ?_)
    have I : s_I G q1.2 s H locs := I
    have hn : cells + σ0.2.1 ≤ q1.2.2.1 ∧ slots + σ0.2.2.1 ≤ q1.2.2.2.1 := ⟨hn1, hn2⟩
    obtain ⟨σ4, h4, hf⟩ := s_bind hf
    cases hf
    have k : _ = r := k
    subst k
    have le5 : s_le σ4 σ4 := s_le.rf
    refine lv_i2l hx hb dL_cheapest_10 rfl ?_
    refine r_last X I h4 dL_cheapest_11 (fun H locs I => ?_)
    have hn := s_k2 (s_sl_2 h4) hn
    refine lv_goto (tgt := 19) hx hb dL_cheapest_12 (by decide) ?_
    refine lv_iconst (v := 0) hx hb dL_cheapest_19 (by decide) ?_
    exact r_iret X I rfl rfl rfl hn dL_cheapest_20
  · rcases s_ite hf with ⟨c6, hf⟩ | ⟨c6, hf⟩
    · subst c6
      have le7 : s_le q1.2 (e_I r).2 := by
        refine s_lek hem_I ?_ k
        cases hf
        exact s_le.rf
      refine r_callVh (x := (0, 12, 15, 27)) (Y := M_X7_cheapest) (E := "java/lang/IndexOutOfBoundsException") (name := "java/lang/IndexOutOfBoundsException") X I [] [] rfl (fun z hz => by cases hz) rfl (by decide) w_1011 (by decide +kernel) w_1275 my_X7_cheapest (by omega) (t_X7_cheapest (G := G) (d := d + 0) h1) (b_X7_cheapest h1) (e_IX_r hq2) rfl hl.1 rfl (Nat.le_of_ble_eq_true rfl) hn le7 dL_cheapest_7 (fun a5 H locs cells slots I hn1 hn2 => ?_)
      have I : s_I G q1.2 s H locs := I
      have hn : cells + σ0.2.1 ≤ q1.2.2.1 ∧ slots + σ0.2.2.1 ≤ q1.2.2.2.1 := ⟨hn1, hn2⟩
      cases hf
      have k : _ = r := k
      subst k
      refine lv_astore (lv' := [(5, .ref a5), (0, .ref v0), (1, .int v1), (2, .int v2), (3, .int v3), (4, .ref v4)]) hx hb dL_cheapest_15 hl (by decide) rfl (fun ls hl => ?_)
      refine lv_iconst (v := 1) hx hb dL_cheapest_17 (by decide) ?_
      exact r_iret X I rfl rfl rfl hn dL_cheapest_18
    cases hf
theorem v_L_cheapest {G : sG} {d : Nat} {vs0 : List Value} {σ0 : sS} {x : sL} {z : sZ Int32} {r : Int32 × sS} (hs : S_L_cheapest x = some z) (k : s_K G (d + 70) M_L_cheapest vs0 σ0 Y_L_cheapest e_I z r) : s_V G (d + 70) M_L_cheapest vs0 σ0 Y_L_cheapest x (e_I r) := by
  obtain ⟨pc, vs, σ⟩ := x
  unfold S_L_cheapest at hs
  dsimp only at hs
  rcases s_ite hs with ⟨c, hs⟩ | ⟨-, hs⟩
  · subst c
    unfold U_L_cheapest_0 at hs
    obtain ⟨a0, g0, hs⟩ := s_bind hs
    obtain ⟨a1, g1, hs⟩ := s_bind hs
    obtain ⟨a2, g2, hs⟩ := s_bind hs
    obtain ⟨a3, g3, hs⟩ := s_bind hs
    obtain ⟨a4, g4, hs⟩ := s_bind hs
    obtain ⟨u9, ge, hs⟩ := s_bind hs
    rw [g_r_to g0, g_i_to g1, g_i_to g2, g_i_to g3, g_r_to g4, g_e_to ge]
    exact v_L_cheapest_0 hs k
  cases hs
theorem t_L_cheapest {G : sG} {d : Nat} {v0 : Nat} {v1 : Int32} {v2 : Int32} {v3 : Int32} {v4 : Nat} {σ : sS} {q : Int32 × sS} (h : F_L_cheapest v0 v1 v2 v3 v4 σ = some q) : s_T G (d + 70) M_L_cheapest [.ref v0, .int v1, .int v2, .int v3, .ref v4] σ (e_I q) := by
  unfold F_L_cheapest at h
  exact s_ofVH rfl (by decide) (Nat.le_of_ble_eq_true rfl) rfl rfl (s_run_ind (V := fun x r => s_V G (d + 70) M_L_cheapest [.ref v0, .int v1, .int v2, .int v3, .ref v4] σ Y_L_cheapest x (e_I r)) (fun x z r hs hk => v_L_cheapest hs (by cases z <;> exact hk)) h)
/-! X7_needSet -/
noncomputable def T_X7_needSet_0 (v0 : Nat) (v1 : Int32) (σ : sS) : Option (sZ (Int32 ⊕ String)) :=
  (s_fr σ v0 7 1).bind fun x1 =>
  (s_fi σ x1 1 2).bind fun x2 =>
  (F_J6_bitCount_0f7a4 (v1 &&& ((1 <<< (x2 &&& 31)) - 1)) σ).bind fun q3 =>
  if q3.1 ≤ 14 then (some (.inr (.inl (v1 &&& ((1 <<< (x2 &&& 31)) - 1)), q3.2)))
  else (some (.inr (.inr "java/lang/IllegalArgumentException", s_ex q3.2)))
noncomputable def U_X7_needSet_0 (vs : List Value) (σ : sS) : Option (sZ (Int32 ⊕ String)) := (g_r vs).bind fun a0 => (g_i a0.2).bind fun a1 => (g_e a1.2).bind fun _ => T_X7_needSet_0 a0.1 a1.1 σ
noncomputable def S_X7_needSet (x : sL) : Option (sZ (Int32 ⊕ String)) := if x.1 = 0 then U_X7_needSet_0 x.2.1 x.2.2 else none
def Y_X7_needSet (pc : Nat) : List Nat := if pc = 0 then [0, 1] else []
noncomputable def F_X7_needSet (v0 : Nat) (v1 : Int32) (σ : sS) : Option ((Int32 ⊕ String) × sS) := (s_is σ v0 7).bind fun _ => s_run S_X7_needSet (0, [.ref v0, .int v1], σ)
theorem l_X7_needSet_0 {v0 : Nat} {v1 : Int32} {σ : sS} {z : sZ (Int32 ⊕ String)} (hf : T_X7_needSet_0 v0 v1 σ = some z) : s_lz σ z := by
  unfold T_X7_needSet_0 at hf
  obtain ⟨x1, -, hf⟩ := s_bind hf
  obtain ⟨x2, -, hf⟩ := s_bind hf
  obtain ⟨q3, hh, hf⟩ := s_bind hf
  refine s_lz.tr (l_J6_bitCount_0f7a4 hh) ?_
  rcases s_ite hf with ⟨-, hf⟩ | ⟨-, hf⟩
  · cases hf
    exact s_le.rf
  · cases hf
    exact s_ex_le
theorem l_X7_needSet_s {x : sL} {z : sZ (Int32 ⊕ String)} (hs : S_X7_needSet x = some z) : s_lz x.2.2 z := by
  obtain ⟨pc, vs, σ⟩ := x
  unfold S_X7_needSet at hs
  dsimp only at hs ⊢
  rcases s_ite hs with ⟨c, hs⟩ | ⟨-, hs⟩
  · subst c
    unfold U_X7_needSet_0 at hs
    obtain ⟨a0, g0, hs⟩ := s_bind hs
    obtain ⟨a1, g1, hs⟩ := s_bind hs
    obtain ⟨u9, ge, hs⟩ := s_bind hs
    exact l_X7_needSet_0 hs
  cases hs
theorem l_X7_needSet {v0 : Nat} {v1 : Int32} {σ : sS} {q : (Int32 ⊕ String) × sS} (h : F_X7_needSet v0 v1 σ = some q) : s_le σ q.2 := by
  unfold F_X7_needSet at h
  obtain ⟨-, -, h⟩ := s_bind h
  exact s_run_ind (V := fun x r => s_le x.2.2 r.2) (fun x z r hs hk => by
    have h9 := l_X7_needSet_s hs
    cases z with
    | inl y => exact s_le.tr h9 hk
    | inr q => cases hk; exact h9) h
theorem b_X7_needSet {v0 : Nat} {v1 : Int32} {σ : sS} {q : (Int32 ⊕ String) × sS} (h : F_X7_needSet v0 v1 σ = some q) : ∃ fs, σ.1 v0 = some (.inr (7, fs)) := by
  unfold F_X7_needSet at h
  obtain ⟨u, hu, -⟩ := s_bind h
  exact s_is_to hu
set_option maxRecDepth 100000 in
set_option maxHeartbeats 4000000 in
theorem v_X7_needSet_0 {G : sG} {d : Nat} {vs0 : List Value} {σ0 : sS} {v0 : Nat} {v1 : Int32} {σ : sS} {z : sZ (Int32 ⊕ String)} {r : (Int32 ⊕ String) × sS} (hf : T_X7_needSet_0 v0 v1 σ = some z) (k : s_K G (d + 2) M_X7_needSet vs0 σ0 Y_X7_needSet e_IX z r) : s_V G (d + 2) M_X7_needSet vs0 σ0 Y_X7_needSet (0, [.ref v0, .int v1], σ) (e_IX r) := by
  have le0 : s_le σ (e_IX r).2 := s_lek hem_IX (l_X7_needSet_0 hf) k
  refine ⟨le0, ?_⟩
  intro p e s m below meth c H locs cells slots ls X I hn1 hn2 hl
  have hn : cells + σ0.2.1 ≤ σ.2.1 ∧ slots + σ0.2.2.1 ≤ σ.2.2.1 := ⟨hn1, hn2⟩
  have hl : lv_has ls 3 [(0, .ref v0), (1, .int v1)] := hl
  have hx := X.1
  have hb : c.code = cX7_needSet := X.2.1
  have hown : s.vm.findClass RX7 = some m.cls := X.2.2.2.2.2.1
  have hts := X.2.2.2.2.2.2.1
  refine W.eq (g2 := F0 m 0 ls []) rfl ?_
  unfold T_X7_needSet_0 at hf
  obtain ⟨x1, h1, hf⟩ := s_bind hf
  obtain ⟨x2, h2, hf⟩ := s_bind hf
  obtain ⟨q3, h3, hf⟩ := s_bind hf
  have le4 : s_le q3.2 (e_IX r).2 := by
    refine s_lek hem_IX ?_ k
    rcases s_ite hf with ⟨-, hf⟩ | ⟨-, hf⟩
    · cases hf
      exact s_le.rf
    · cases hf
      exact s_ex_le
  refine lv_iload_n hx hb dX7_needSet_0 rfl (lv_at hl 1 rfl) ?_
  refine lv_iconst (v := 1) hx hb dX7_needSet_1 (by decide) ?_
  refine lv_aload_n hx hb dX7_needSet_2 rfl (lv_at hl 0 rfl) ?_
  refine r_gr X I fl_X7_19 h1 dX7_needSet_3 ?_
  refine r_gi X I fl_X7_103 h2 dX7_needSet_6 ?_
  refine lv_ishl hx hb dX7_needSet_9 ?_
  refine lv_iconst (v := 1) hx hb dX7_needSet_10 (by decide) ?_
  refine lv_isub hx hb dX7_needSet_11 ?_
  refine lv_iand hx hb dX7_needSet_12 ?_
  refine lv_istore_n (lv' := [(2, .int (v1 &&& ((1 <<< (x2 &&& 31)) - 1))), (0, .ref v0), (1, .int v1)]) hx hb dX7_needSet_13 rfl hl (by decide) rfl (fun ls hl => ?_)
  refine lv_iload_n hx hb dX7_needSet_14 rfl (lv_at hl 0 rfl) ?_
  refine r_callS (Y := M_J6_bitCount_0f7a4) (v := some (.int q3.1)) X I w_668 my_J6_bitCount_0f7a4 (by omega) (t_J6_bitCount_0f7a4 (G := G) (d := d + 0) h3) rfl rfl hl.1 rfl (Nat.le_of_ble_eq_true rfl) hn le4 dX7_needSet_15 (fun H locs cells slots I hn1 hn2 => ?_)
  have I : s_I G q3.2 s H locs := I
  have hn : cells + σ0.2.1 ≤ q3.2.2.1 ∧ slots + σ0.2.2.1 ≤ q3.2.2.2.1 := ⟨hn1, hn2⟩
  refine lv_bipush (v := 14) hx hb dX7_needSet_18 (by decide) ?_
  rcases s_ite hf with ⟨c5, hf⟩ | ⟨c5, hf⟩
  · refine lv_icmp_le (tgt := 34) hx hb dX7_needSet_20 (by decide) (fun _ => ?_) (fun n => absurd c5 n)
    cases hf
    have k : _ = r := k
    subst k
    refine lv_iload_n hx hb dX7_needSet_34 rfl (lv_at hl 0 rfl) ?_
    exact r_iret X I rfl rfl rfl hn dX7_needSet_35
  · refine lv_icmp_le (tgt := 34) hx hb dX7_needSet_20 (by decide) (fun n => absurd n c5) (fun _ => ?_)
    cases hf
    have k : _ = r := k
    subst k
    exact r_throwW X I rfl th_X7_96_361 hl.1 (Nat.le_of_ble_eq_true rfl) hn rfl dX7_needSet_23 dX7_needSet_26 dX7_needSet_27 dX7_needSet_30 dX7_needSet_33
theorem v_X7_needSet {G : sG} {d : Nat} {vs0 : List Value} {σ0 : sS} {x : sL} {z : sZ (Int32 ⊕ String)} {r : (Int32 ⊕ String) × sS} (hs : S_X7_needSet x = some z) (k : s_K G (d + 2) M_X7_needSet vs0 σ0 Y_X7_needSet e_IX z r) : s_V G (d + 2) M_X7_needSet vs0 σ0 Y_X7_needSet x (e_IX r) := by
  obtain ⟨pc, vs, σ⟩ := x
  unfold S_X7_needSet at hs
  dsimp only at hs
  rcases s_ite hs with ⟨c, hs⟩ | ⟨-, hs⟩
  · subst c
    unfold U_X7_needSet_0 at hs
    obtain ⟨a0, g0, hs⟩ := s_bind hs
    obtain ⟨a1, g1, hs⟩ := s_bind hs
    obtain ⟨u9, ge, hs⟩ := s_bind hs
    rw [g_r_to g0, g_i_to g1, g_e_to ge]
    exact v_X7_needSet_0 hs k
  cases hs
theorem t_X7_needSet {G : sG} {d : Nat} {v0 : Nat} {v1 : Int32} {σ : sS} {q : (Int32 ⊕ String) × sS} (h : F_X7_needSet v0 v1 σ = some q) : s_T G (d + 2) M_X7_needSet [.ref v0, .int v1] σ (e_IX q) := by
  unfold F_X7_needSet at h
  obtain ⟨-, -, h⟩ := s_bind h
  exact s_ofV rfl (by decide) (Nat.le_of_ble_eq_true rfl) rfl rfl (s_run_ind (V := fun x r => s_V G (d + 2) M_X7_needSet [.ref v0, .int v1] σ Y_X7_needSet x (e_IX r)) (fun x z r hs hk => v_X7_needSet hs (by cases z <;> exact hk)) h)
/-! X3_listMembers -/
noncomputable def T_X3_listMembers_0 (v0 : Nat) (v1 : Int32) (σ : sS) : Option (sZ Int32) :=
  some (.inl (4, [.ref v0, .int v1, .int 0, .int 0], σ))
noncomputable def U_X3_listMembers_0 (vs : List Value) (σ : sS) : Option (sZ Int32) := (g_r vs).bind fun a0 => (g_i a0.2).bind fun a1 => (g_e a1.2).bind fun _ => T_X3_listMembers_0 a0.1 a1.1 σ
noncomputable def T_X3_listMembers_4 (v0 : Nat) (v1 : Int32) (v2 : Int32) (v3 : Int32) (σ : sS) : Option (sZ Int32) :=
  (s_fr σ v0 3 0).bind fun x1 =>
  (s_fi σ x1 1 2).bind fun x2 =>
  if x2 ≤ v3 then (some (.inr (v2, σ)))
  else (if (14 : Int32) ≤ v2 then (some (.inr (v2, σ)))
  else (if ((v1 >>> (v3 &&& 31)) &&& 1) = 0 then (some (.inl (39, [.ref v0, .int v1, .int v2, .int v3], σ)))
  else ((s_fr σ v0 3 4).bind fun x3 =>
  (s_si σ x3 v2 v3).bind fun σ4 =>
  some (.inl (39, [.ref v0, .int v1, .int (v2 + 1), .int v3], σ4)))))
noncomputable def U_X3_listMembers_4 (vs : List Value) (σ : sS) : Option (sZ Int32) := (g_r vs).bind fun a0 => (g_i a0.2).bind fun a1 => (g_i a1.2).bind fun a2 => (g_i a2.2).bind fun a3 => (g_e a3.2).bind fun _ => T_X3_listMembers_4 a0.1 a1.1 a2.1 a3.1 σ
noncomputable def T_X3_listMembers_39 (v0 : Nat) (v1 : Int32) (v2 : Int32) (v3 : Int32) (σ : sS) : Option (sZ Int32) :=
  some (.inl (4, [.ref v0, .int v1, .int v2, .int (v3 + 1)], σ))
noncomputable def U_X3_listMembers_39 (vs : List Value) (σ : sS) : Option (sZ Int32) := (g_r vs).bind fun a0 => (g_i a0.2).bind fun a1 => (g_i a1.2).bind fun a2 => (g_i a2.2).bind fun a3 => (g_e a3.2).bind fun _ => T_X3_listMembers_39 a0.1 a1.1 a2.1 a3.1 σ
noncomputable def S_X3_listMembers (x : sL) : Option (sZ Int32) := if x.1 = 0 then U_X3_listMembers_0 x.2.1 x.2.2 else if x.1 = 4 then U_X3_listMembers_4 x.2.1 x.2.2 else if x.1 = 39 then U_X3_listMembers_39 x.2.1 x.2.2 else none
def Y_X3_listMembers (pc : Nat) : List Nat := if pc = 0 then [0, 1] else if pc = 4 then [0, 1, 2, 3] else if pc = 39 then [0, 1, 2, 3] else []
noncomputable def F_X3_listMembers (v0 : Nat) (v1 : Int32) (σ : sS) : Option (Int32 × sS) := (s_is σ v0 3).bind fun _ => s_run S_X3_listMembers (0, [.ref v0, .int v1], σ)
theorem l_X3_listMembers_0 {v0 : Nat} {v1 : Int32} {σ : sS} {z : sZ Int32} (hf : T_X3_listMembers_0 v0 v1 σ = some z) : s_lz σ z := by
  unfold T_X3_listMembers_0 at hf
  cases hf
  exact s_le.rf
theorem l_X3_listMembers_4 {v0 : Nat} {v1 : Int32} {v2 : Int32} {v3 : Int32} {σ : sS} {z : sZ Int32} (hf : T_X3_listMembers_4 v0 v1 v2 v3 σ = some z) : s_lz σ z := by
  unfold T_X3_listMembers_4 at hf
  obtain ⟨x1, -, hf⟩ := s_bind hf
  obtain ⟨x2, -, hf⟩ := s_bind hf
  rcases s_ite hf with ⟨-, hf⟩ | ⟨-, hf⟩
  · cases hf
    exact s_le.rf
  · rcases s_ite hf with ⟨-, hf⟩ | ⟨-, hf⟩
    · cases hf
      exact s_le.rf
    · rcases s_ite hf with ⟨-, hf⟩ | ⟨-, hf⟩
      · cases hf
        exact s_le.rf
      · obtain ⟨x3, -, hf⟩ := s_bind hf
        obtain ⟨σ4, hh, hf⟩ := s_bind hf
        refine s_lz.tr (s_le2 (s_si_2 hh)) ?_
        cases hf
        exact s_le.rf
theorem l_X3_listMembers_39 {v0 : Nat} {v1 : Int32} {v2 : Int32} {v3 : Int32} {σ : sS} {z : sZ Int32} (hf : T_X3_listMembers_39 v0 v1 v2 v3 σ = some z) : s_lz σ z := by
  unfold T_X3_listMembers_39 at hf
  cases hf
  exact s_le.rf
theorem l_X3_listMembers_s {x : sL} {z : sZ Int32} (hs : S_X3_listMembers x = some z) : s_lz x.2.2 z := by
  obtain ⟨pc, vs, σ⟩ := x
  unfold S_X3_listMembers at hs
  dsimp only at hs ⊢
  rcases s_ite hs with ⟨c, hs⟩ | ⟨-, hs⟩
  · subst c
    unfold U_X3_listMembers_0 at hs
    obtain ⟨a0, g0, hs⟩ := s_bind hs
    obtain ⟨a1, g1, hs⟩ := s_bind hs
    obtain ⟨u9, ge, hs⟩ := s_bind hs
    exact l_X3_listMembers_0 hs
  rcases s_ite hs with ⟨c, hs⟩ | ⟨-, hs⟩
  · subst c
    unfold U_X3_listMembers_4 at hs
    obtain ⟨a0, g0, hs⟩ := s_bind hs
    obtain ⟨a1, g1, hs⟩ := s_bind hs
    obtain ⟨a2, g2, hs⟩ := s_bind hs
    obtain ⟨a3, g3, hs⟩ := s_bind hs
    obtain ⟨u9, ge, hs⟩ := s_bind hs
    exact l_X3_listMembers_4 hs
  rcases s_ite hs with ⟨c, hs⟩ | ⟨-, hs⟩
  · subst c
    unfold U_X3_listMembers_39 at hs
    obtain ⟨a0, g0, hs⟩ := s_bind hs
    obtain ⟨a1, g1, hs⟩ := s_bind hs
    obtain ⟨a2, g2, hs⟩ := s_bind hs
    obtain ⟨a3, g3, hs⟩ := s_bind hs
    obtain ⟨u9, ge, hs⟩ := s_bind hs
    exact l_X3_listMembers_39 hs
  cases hs
theorem l_X3_listMembers {v0 : Nat} {v1 : Int32} {σ : sS} {q : Int32 × sS} (h : F_X3_listMembers v0 v1 σ = some q) : s_le σ q.2 := by
  unfold F_X3_listMembers at h
  obtain ⟨-, -, h⟩ := s_bind h
  exact s_run_ind (V := fun x r => s_le x.2.2 r.2) (fun x z r hs hk => by
    have h9 := l_X3_listMembers_s hs
    cases z with
    | inl y => exact s_le.tr h9 hk
    | inr q => cases hk; exact h9) h
theorem b_X3_listMembers {v0 : Nat} {v1 : Int32} {σ : sS} {q : Int32 × sS} (h : F_X3_listMembers v0 v1 σ = some q) : ∃ fs, σ.1 v0 = some (.inr (3, fs)) := by
  unfold F_X3_listMembers at h
  obtain ⟨u, hu, -⟩ := s_bind h
  exact s_is_to hu
set_option maxRecDepth 100000 in
set_option maxHeartbeats 4000000 in
theorem v_X3_listMembers_0 {G : sG} {d : Nat} {vs0 : List Value} {σ0 : sS} {v0 : Nat} {v1 : Int32} {σ : sS} {z : sZ Int32} {r : Int32 × sS} (hf : T_X3_listMembers_0 v0 v1 σ = some z) (k : s_K G (d + 1) M_X3_listMembers vs0 σ0 Y_X3_listMembers e_I z r) : s_V G (d + 1) M_X3_listMembers vs0 σ0 Y_X3_listMembers (0, [.ref v0, .int v1], σ) (e_I r) := by
  have le0 : s_le σ (e_I r).2 := s_lek hem_I (l_X3_listMembers_0 hf) k
  refine ⟨le0, ?_⟩
  intro p e s m below meth c H locs cells slots ls X I hn1 hn2 hl
  have hn : cells + σ0.2.1 ≤ σ.2.1 ∧ slots + σ0.2.2.1 ≤ σ.2.2.1 := ⟨hn1, hn2⟩
  have hl : lv_has ls 4 [(0, .ref v0), (1, .int v1)] := hl
  have hx := X.1
  have hb : c.code = cX3_listMembers := X.2.1
  have hown : s.vm.findClass RX3 = some m.cls := X.2.2.2.2.2.1
  have hts := X.2.2.2.2.2.2.1
  refine W.eq (g2 := F0 m 0 ls []) rfl ?_
  unfold T_X3_listMembers_0 at hf
  cases hf
  have k : s_V G (d + 1) M_X3_listMembers vs0 σ0 Y_X3_listMembers (4, [.ref v0, .int v1, .int 0, .int 0], σ) (e_I r) := k
  refine lv_iconst (v := 0) hx hb dX3_listMembers_0 (by decide) ?_
  refine lv_istore_n (lv' := [(2, .int 0), (0, .ref v0), (1, .int v1)]) hx hb dX3_listMembers_1 rfl hl (by decide) rfl (fun ls hl => ?_)
  refine lv_iconst (v := 0) hx hb dX3_listMembers_2 (by decide) ?_
  refine lv_istore_n (lv' := [(3, .int 0), (2, .int 0), (0, .ref v0), (1, .int v1)]) hx hb dX3_listMembers_3 rfl hl (by decide) rfl (fun ls hl => ?_)
  exact k.2 p e s m below meth c _ _ _ _ _ X I hn.1 hn.2 (lv_sub hl [2, 3, 1, 0] rfl)
set_option maxRecDepth 100000 in
set_option maxHeartbeats 4000000 in
theorem v_X3_listMembers_4 {G : sG} {d : Nat} {vs0 : List Value} {σ0 : sS} {v0 : Nat} {v1 : Int32} {v2 : Int32} {v3 : Int32} {σ : sS} {z : sZ Int32} {r : Int32 × sS} (hf : T_X3_listMembers_4 v0 v1 v2 v3 σ = some z) (k : s_K G (d + 1) M_X3_listMembers vs0 σ0 Y_X3_listMembers e_I z r) : s_V G (d + 1) M_X3_listMembers vs0 σ0 Y_X3_listMembers (4, [.ref v0, .int v1, .int v2, .int v3], σ) (e_I r) := by
  have le0 : s_le σ (e_I r).2 := s_lek hem_I (l_X3_listMembers_4 hf) k
  refine ⟨le0, ?_⟩
  intro p e s m below meth c H locs cells slots ls X I hn1 hn2 hl
  have hn : cells + σ0.2.1 ≤ σ.2.1 ∧ slots + σ0.2.2.1 ≤ σ.2.2.1 := ⟨hn1, hn2⟩
  have hl : lv_has ls 4 [(0, .ref v0), (1, .int v1), (2, .int v2), (3, .int v3)] := hl
  have hx := X.1
  have hb : c.code = cX3_listMembers := X.2.1
  have hown : s.vm.findClass RX3 = some m.cls := X.2.2.2.2.2.1
  have hts := X.2.2.2.2.2.2.1
  refine W.eq (g2 := F0 m 4 ls []) rfl ?_
  unfold T_X3_listMembers_4 at hf
  obtain ⟨x1, h1, hf⟩ := s_bind hf
  obtain ⟨x2, h2, hf⟩ := s_bind hf
  refine lv_iload_n hx hb dX3_listMembers_4 rfl (lv_at hl 3 rfl) ?_
  refine lv_aload_n hx hb dX3_listMembers_5 rfl (lv_at hl 0 rfl) ?_
  refine r_gr X I fl_X3_30 h1 dX3_listMembers_6 ?_
  refine r_gi X I fl_X3_48 h2 dX3_listMembers_9 ?_
  rcases s_ite hf with ⟨c3, hf⟩ | ⟨c3, hf⟩
  · refine lv_icmp_ge (tgt := 45) hx hb dX3_listMembers_12 (by decide) (fun _ => ?_) (fun n => absurd c3 n)
    cases hf
    have k : _ = r := k
    subst k
    refine lv_iload_n hx hb dX3_listMembers_45 rfl (lv_at hl 2 rfl) ?_
    exact r_iret X I rfl rfl rfl hn dX3_listMembers_46
  · refine lv_icmp_ge (tgt := 45) hx hb dX3_listMembers_12 (by decide) (fun n => absurd n c3) (fun _ => ?_)
    refine lv_iload_n hx hb dX3_listMembers_15 rfl (lv_at hl 2 rfl) ?_
    refine lv_bipush (v := 14) hx hb dX3_listMembers_16 (by decide) ?_
    rcases s_ite hf with ⟨c4, hf⟩ | ⟨c4, hf⟩
    · refine lv_icmp_ge (tgt := 45) hx hb dX3_listMembers_18 (by decide) (fun _ => ?_) (fun n => absurd c4 n)
      cases hf
      have k : _ = r := k
      subst k
      refine lv_iload_n hx hb dX3_listMembers_45 rfl (lv_at hl 2 rfl) ?_
      exact r_iret X I rfl rfl rfl hn dX3_listMembers_46
    · refine lv_icmp_ge (tgt := 45) hx hb dX3_listMembers_18 (by decide) (fun n => absurd n c4) (fun _ => ?_)
      refine lv_iload_n hx hb dX3_listMembers_21 rfl (lv_at hl 1 rfl) ?_
      refine lv_iload_n hx hb dX3_listMembers_22 rfl (lv_at hl 3 rfl) ?_
      refine lv_ishr hx hb dX3_listMembers_23 ?_
      refine lv_iconst (v := 1) hx hb dX3_listMembers_24 (by decide) ?_
      refine lv_iand hx hb dX3_listMembers_25 ?_
      rcases s_ite hf with ⟨c5, hf⟩ | ⟨c5, hf⟩
      · refine lv_if_eq (tgt := 39) hx hb dX3_listMembers_26 (by decide) (fun _ => ?_) (fun n => absurd c5 n)
        cases hf
        have k : s_V G (d + 1) M_X3_listMembers vs0 σ0 Y_X3_listMembers (39, [.ref v0, .int v1, .int v2, .int v3], σ) (e_I r) := k
        exact k.2 p e s m below meth c _ _ _ _ _ X I hn.1 hn.2 (lv_sub hl [0, 1, 2, 3] rfl)
      · refine lv_if_eq (tgt := 39) hx hb dX3_listMembers_26 (by decide) (fun n => absurd n c5) (fun _ => ?_)
        obtain ⟨x3, h6, hf⟩ := s_bind hf
        obtain ⟨σ4, h7, hf⟩ := s_bind hf
        cases hf
        have k : s_V G (d + 1) M_X3_listMembers vs0 σ0 Y_X3_listMembers (39, [.ref v0, .int v1, .int (v2 + 1), .int v3], σ4) (e_I r) := k
        have le8 : s_le σ4 (e_I r).2 := k.1
        refine lv_aload_n hx hb dX3_listMembers_29 rfl (lv_at hl 0 rfl) ?_
        refine r_gr X I fl_X3_23 h6 dX3_listMembers_30 ?_
        refine lv_iload_n hx hb dX3_listMembers_33 rfl (lv_at hl 2 rfl) ?_
        refine lv_iload_n hx hb dX3_listMembers_34 rfl (lv_at hl 3 rfl) ?_
        refine r_iast X I h7 dX3_listMembers_35 (fun H locs I => ?_)
        have hn := s_k2 (s_si_2 h7) hn
        refine lv_iinc (v := (v2 + 1)) (lv' := [(2, .int (v2 + 1)), (0, .ref v0), (1, .int v1), (3, .int v3)]) hx hb dX3_listMembers_36 hl (k := 2) rfl rfl (by decide) rfl (fun ls hl => ?_)
        exact k.2 p e s m below meth c _ _ _ _ _ X I hn.1 hn.2 (lv_sub hl [1, 2, 0, 3] rfl)
set_option maxRecDepth 100000 in
set_option maxHeartbeats 4000000 in
theorem v_X3_listMembers_39 {G : sG} {d : Nat} {vs0 : List Value} {σ0 : sS} {v0 : Nat} {v1 : Int32} {v2 : Int32} {v3 : Int32} {σ : sS} {z : sZ Int32} {r : Int32 × sS} (hf : T_X3_listMembers_39 v0 v1 v2 v3 σ = some z) (k : s_K G (d + 1) M_X3_listMembers vs0 σ0 Y_X3_listMembers e_I z r) : s_V G (d + 1) M_X3_listMembers vs0 σ0 Y_X3_listMembers (39, [.ref v0, .int v1, .int v2, .int v3], σ) (e_I r) := by
  have le0 : s_le σ (e_I r).2 := s_lek hem_I (l_X3_listMembers_39 hf) k
  refine ⟨le0, ?_⟩
  intro p e s m below meth c H locs cells slots ls X I hn1 hn2 hl
  have hn : cells + σ0.2.1 ≤ σ.2.1 ∧ slots + σ0.2.2.1 ≤ σ.2.2.1 := ⟨hn1, hn2⟩
  have hl : lv_has ls 4 [(0, .ref v0), (1, .int v1), (2, .int v2), (3, .int v3)] := hl
  have hx := X.1
  have hb : c.code = cX3_listMembers := X.2.1
  have hown : s.vm.findClass RX3 = some m.cls := X.2.2.2.2.2.1
  have hts := X.2.2.2.2.2.2.1
  refine W.eq (g2 := F0 m 39 ls []) rfl ?_
  unfold T_X3_listMembers_39 at hf
  cases hf
  have k : s_V G (d + 1) M_X3_listMembers vs0 σ0 Y_X3_listMembers (4, [.ref v0, .int v1, .int v2, .int (v3 + 1)], σ) (e_I r) := k
  refine lv_iinc (v := (v3 + 1)) (lv' := [(3, .int (v3 + 1)), (0, .ref v0), (1, .int v1), (2, .int v2)]) hx hb dX3_listMembers_39 hl (k := 3) rfl rfl (by decide) rfl (fun ls hl => ?_)
  refine lv_goto (tgt := 4) hx hb dX3_listMembers_42 (by decide) ?_
  exact k.2 p e s m below meth c _ _ _ _ _ X I hn.1 hn.2 (lv_sub hl [1, 2, 3, 0] rfl)
theorem v_X3_listMembers {G : sG} {d : Nat} {vs0 : List Value} {σ0 : sS} {x : sL} {z : sZ Int32} {r : Int32 × sS} (hs : S_X3_listMembers x = some z) (k : s_K G (d + 1) M_X3_listMembers vs0 σ0 Y_X3_listMembers e_I z r) : s_V G (d + 1) M_X3_listMembers vs0 σ0 Y_X3_listMembers x (e_I r) := by
  obtain ⟨pc, vs, σ⟩ := x
  unfold S_X3_listMembers at hs
  dsimp only at hs
  rcases s_ite hs with ⟨c, hs⟩ | ⟨-, hs⟩
  · subst c
    unfold U_X3_listMembers_0 at hs
    obtain ⟨a0, g0, hs⟩ := s_bind hs
    obtain ⟨a1, g1, hs⟩ := s_bind hs
    obtain ⟨u9, ge, hs⟩ := s_bind hs
    rw [g_r_to g0, g_i_to g1, g_e_to ge]
    exact v_X3_listMembers_0 hs k
  rcases s_ite hs with ⟨c, hs⟩ | ⟨-, hs⟩
  · subst c
    unfold U_X3_listMembers_4 at hs
    obtain ⟨a0, g0, hs⟩ := s_bind hs
    obtain ⟨a1, g1, hs⟩ := s_bind hs
    obtain ⟨a2, g2, hs⟩ := s_bind hs
    obtain ⟨a3, g3, hs⟩ := s_bind hs
    obtain ⟨u9, ge, hs⟩ := s_bind hs
    rw [g_r_to g0, g_i_to g1, g_i_to g2, g_i_to g3, g_e_to ge]
    exact v_X3_listMembers_4 hs k
  rcases s_ite hs with ⟨c, hs⟩ | ⟨-, hs⟩
  · subst c
    unfold U_X3_listMembers_39 at hs
    obtain ⟨a0, g0, hs⟩ := s_bind hs
    obtain ⟨a1, g1, hs⟩ := s_bind hs
    obtain ⟨a2, g2, hs⟩ := s_bind hs
    obtain ⟨a3, g3, hs⟩ := s_bind hs
    obtain ⟨u9, ge, hs⟩ := s_bind hs
    rw [g_r_to g0, g_i_to g1, g_i_to g2, g_i_to g3, g_e_to ge]
    exact v_X3_listMembers_39 hs k
  cases hs
theorem t_X3_listMembers {G : sG} {d : Nat} {v0 : Nat} {v1 : Int32} {σ : sS} {q : Int32 × sS} (h : F_X3_listMembers v0 v1 σ = some q) : s_T G (d + 1) M_X3_listMembers [.ref v0, .int v1] σ (e_I q) := by
  unfold F_X3_listMembers at h
  obtain ⟨-, -, h⟩ := s_bind h
  exact s_ofV rfl (by decide) (Nat.le_of_ble_eq_true rfl) rfl rfl (s_run_ind (V := fun x r => s_V G (d + 1) M_X3_listMembers [.ref v0, .int v1] σ Y_X3_listMembers x (e_I r)) (fun x z r hs hk => v_X3_listMembers hs (by cases z <;> exact hk)) h)
/-! X1_isTrue -/
noncomputable def T_X1_isTrue_0 (v0 : Nat) (v1 : Int32) (v2 : Int32) (σ : sS) : Option (sZ Int32) :=
  (F_X1_truthOf v0 v1 (v2 >>> (6 &&& 31)) σ).bind fun q1 =>
  if (lg_cmp (((q1.1 : Int64).toUInt64 >>> (((v2 &&& 63) : Int32).toInt64.toUInt64 &&& Int64.toUInt64 63)).toInt64 &&& 1) 0) = 0 then (some (.inr (0, q1.2)))
  else (some (.inr (1, q1.2)))
noncomputable def U_X1_isTrue_0 (vs : List Value) (σ : sS) : Option (sZ Int32) := (g_r vs).bind fun a0 => (g_i a0.2).bind fun a1 => (g_i a1.2).bind fun a2 => (g_e a2.2).bind fun _ => T_X1_isTrue_0 a0.1 a1.1 a2.1 σ
noncomputable def S_X1_isTrue (x : sL) : Option (sZ Int32) := if x.1 = 0 then U_X1_isTrue_0 x.2.1 x.2.2 else none
def Y_X1_isTrue (pc : Nat) : List Nat := if pc = 0 then [0, 1, 2] else []
noncomputable def F_X1_isTrue (v0 : Nat) (v1 : Int32) (v2 : Int32) (σ : sS) : Option (Int32 × sS) := (s_is σ v0 1).bind fun _ => s_run S_X1_isTrue (0, [.ref v0, .int v1, .int v2], σ)
theorem l_X1_isTrue_0 {v0 : Nat} {v1 : Int32} {v2 : Int32} {σ : sS} {z : sZ Int32} (hf : T_X1_isTrue_0 v0 v1 v2 σ = some z) : s_lz σ z := by
  unfold T_X1_isTrue_0 at hf
  obtain ⟨q1, hh, hf⟩ := s_bind hf
  refine s_lz.tr (l_X1_truthOf hh) ?_
  rcases s_ite hf with ⟨-, hf⟩ | ⟨-, hf⟩
  · cases hf
    exact s_le.rf
  · cases hf
    exact s_le.rf
theorem l_X1_isTrue_s {x : sL} {z : sZ Int32} (hs : S_X1_isTrue x = some z) : s_lz x.2.2 z := by
  obtain ⟨pc, vs, σ⟩ := x
  unfold S_X1_isTrue at hs
  dsimp only at hs ⊢
  rcases s_ite hs with ⟨c, hs⟩ | ⟨-, hs⟩
  · subst c
    unfold U_X1_isTrue_0 at hs
    obtain ⟨a0, g0, hs⟩ := s_bind hs
    obtain ⟨a1, g1, hs⟩ := s_bind hs
    obtain ⟨a2, g2, hs⟩ := s_bind hs
    obtain ⟨u9, ge, hs⟩ := s_bind hs
    exact l_X1_isTrue_0 hs
  cases hs
theorem l_X1_isTrue {v0 : Nat} {v1 : Int32} {v2 : Int32} {σ : sS} {q : Int32 × sS} (h : F_X1_isTrue v0 v1 v2 σ = some q) : s_le σ q.2 := by
  unfold F_X1_isTrue at h
  obtain ⟨-, -, h⟩ := s_bind h
  exact s_run_ind (V := fun x r => s_le x.2.2 r.2) (fun x z r hs hk => by
    have h9 := l_X1_isTrue_s hs
    cases z with
    | inl y => exact s_le.tr h9 hk
    | inr q => cases hk; exact h9) h
theorem b_X1_isTrue {v0 : Nat} {v1 : Int32} {v2 : Int32} {σ : sS} {q : Int32 × sS} (h : F_X1_isTrue v0 v1 v2 σ = some q) : ∃ fs, σ.1 v0 = some (.inr (1, fs)) := by
  unfold F_X1_isTrue at h
  obtain ⟨u, hu, -⟩ := s_bind h
  exact s_is_to hu
set_option maxRecDepth 100000 in
set_option maxHeartbeats 4000000 in
theorem v_X1_isTrue_0 {G : sG} {d : Nat} {vs0 : List Value} {σ0 : sS} {v0 : Nat} {v1 : Int32} {v2 : Int32} {σ : sS} {z : sZ Int32} {r : Int32 × sS} (hf : T_X1_isTrue_0 v0 v1 v2 σ = some z) (k : s_K G (d + 2) M_X1_isTrue vs0 σ0 Y_X1_isTrue e_I z r) : s_V G (d + 2) M_X1_isTrue vs0 σ0 Y_X1_isTrue (0, [.ref v0, .int v1, .int v2], σ) (e_I r) := by
  have le0 : s_le σ (e_I r).2 := s_lek hem_I (l_X1_isTrue_0 hf) k
  refine ⟨le0, ?_⟩
  intro p e s m below meth c H locs cells slots ls X I hn1 hn2 hl
  have hn : cells + σ0.2.1 ≤ σ.2.1 ∧ slots + σ0.2.2.1 ≤ σ.2.2.1 := ⟨hn1, hn2⟩
  have hl : lv_has ls 3 [(0, .ref v0), (1, .int v1), (2, .int v2)] := hl
  have hx := X.1
  have hb : c.code = cX1_isTrue := X.2.1
  have hown : s.vm.findClass RX1 = some m.cls := X.2.2.2.2.2.1
  have hts := X.2.2.2.2.2.2.1
  refine W.eq (g2 := F0 m 0 ls []) rfl ?_
  unfold T_X1_isTrue_0 at hf
  obtain ⟨q1, h1, hf⟩ := s_bind hf
  have le2 : s_le q1.2 (e_I r).2 := by
    refine s_lek hem_I ?_ k
    rcases s_ite hf with ⟨-, hf⟩ | ⟨-, hf⟩
    · cases hf
      exact s_le.rf
    · cases hf
      exact s_le.rf
  refine lv_aload_n hx hb dX1_isTrue_0 rfl (lv_at hl 0 rfl) ?_
  refine lv_iload_n hx hb dX1_isTrue_1 rfl (lv_at hl 1 rfl) ?_
  refine lv_iload_n hx hb dX1_isTrue_2 rfl (lv_at hl 2 rfl) ?_
  refine lv_bipush (v := 6) hx hb dX1_isTrue_3 (by decide) ?_
  refine lv_ishr hx hb dX1_isTrue_5 ?_
  refine r_callV (Y := M_X1_truthOf) (v := some (.long q1.1)) X I w_1062 my_X1_truthOf (by omega) (t_X1_truthOf (G := G) (d := d + 0) h1) (b_X1_truthOf h1) rfl rfl hl.1 rfl (Nat.le_of_ble_eq_true rfl) hn le2 dX1_isTrue_6 (fun H locs cells slots I hn1 hn2 => ?_)
  have I : s_I G q1.2 s H locs := I
  have hn : cells + σ0.2.1 ≤ q1.2.2.1 ∧ slots + σ0.2.2.1 ≤ q1.2.2.2.1 := ⟨hn1, hn2⟩
  refine lv_iload_n hx hb dX1_isTrue_9 rfl (lv_at hl 2 rfl) ?_
  refine lv_bipush (v := 63) hx hb dX1_isTrue_10 (by decide) ?_
  refine lv_iand hx hb dX1_isTrue_12 ?_
  refine lv_lushr hx hb dX1_isTrue_13 rfl ?_
  refine lv_lconst (v := 1) hx hb dX1_isTrue_14 (by decide) ?_
  refine lv_land hx hb dX1_isTrue_15 ?_
  refine lv_lconst (v := 0) hx hb dX1_isTrue_16 (by decide) ?_
  refine W.lcmp hx hb dX1_isTrue_17 ?_
  rcases s_ite hf with ⟨c3, hf⟩ | ⟨c3, hf⟩
  · refine lv_if_eq (tgt := 25) hx hb dX1_isTrue_18 (by decide) (fun _ => ?_) (fun n => absurd c3 n)
    cases hf
    have k : _ = r := k
    subst k
    refine lv_iconst (v := 0) hx hb dX1_isTrue_25 (by decide) ?_
    exact r_iret X I rfl rfl rfl hn dX1_isTrue_26
  · refine lv_if_eq (tgt := 25) hx hb dX1_isTrue_18 (by decide) (fun n => absurd n c3) (fun _ => ?_)
    cases hf
    have k : _ = r := k
    subst k
    refine lv_iconst (v := 1) hx hb dX1_isTrue_21 (by decide) ?_
    refine lv_goto (tgt := 26) hx hb dX1_isTrue_22 (by decide) ?_
    exact r_iret X I rfl rfl rfl hn dX1_isTrue_26
theorem v_X1_isTrue {G : sG} {d : Nat} {vs0 : List Value} {σ0 : sS} {x : sL} {z : sZ Int32} {r : Int32 × sS} (hs : S_X1_isTrue x = some z) (k : s_K G (d + 2) M_X1_isTrue vs0 σ0 Y_X1_isTrue e_I z r) : s_V G (d + 2) M_X1_isTrue vs0 σ0 Y_X1_isTrue x (e_I r) := by
  obtain ⟨pc, vs, σ⟩ := x
  unfold S_X1_isTrue at hs
  dsimp only at hs
  rcases s_ite hs with ⟨c, hs⟩ | ⟨-, hs⟩
  · subst c
    unfold U_X1_isTrue_0 at hs
    obtain ⟨a0, g0, hs⟩ := s_bind hs
    obtain ⟨a1, g1, hs⟩ := s_bind hs
    obtain ⟨a2, g2, hs⟩ := s_bind hs
    obtain ⟨u9, ge, hs⟩ := s_bind hs
    rw [g_r_to g0, g_i_to g1, g_i_to g2, g_e_to ge]
    exact v_X1_isTrue_0 hs k
  cases hs
theorem t_X1_isTrue {G : sG} {d : Nat} {v0 : Nat} {v1 : Int32} {v2 : Int32} {σ : sS} {q : Int32 × sS} (h : F_X1_isTrue v0 v1 v2 σ = some q) : s_T G (d + 2) M_X1_isTrue [.ref v0, .int v1, .int v2] σ (e_I q) := by
  unfold F_X1_isTrue at h
  obtain ⟨-, -, h⟩ := s_bind h
  exact s_ofV rfl (by decide) (Nat.le_of_ble_eq_true rfl) rfl rfl (s_run_ind (V := fun x r => s_V G (d + 2) M_X1_isTrue [.ref v0, .int v1, .int v2] σ Y_X1_isTrue x (e_I r)) (fun x z r hs hk => v_X1_isTrue hs (by cases z <;> exact hk)) h)
/-! X3_membersIn -/
noncomputable def T_X3_membersIn_0 (v0 : Nat) (v1 : Int32) (v2 : Int32) (σ : sS) : Option (sZ Int32) :=
  some (.inl (5, [.ref v0, .int v1, .int v2, .int 0, .int 0], σ))
noncomputable def U_X3_membersIn_0 (vs : List Value) (σ : sS) : Option (sZ Int32) := (g_r vs).bind fun a0 => (g_i a0.2).bind fun a1 => (g_i a1.2).bind fun a2 => (g_e a2.2).bind fun _ => T_X3_membersIn_0 a0.1 a1.1 a2.1 σ
noncomputable def T_X3_membersIn_5 (v0 : Nat) (v1 : Int32) (v2 : Int32) (v3 : Int32) (v4 : Int32) (σ : sS) : Option (sZ Int32) :=
  if v2 ≤ v4 then (some (.inr (v3, σ)))
  else (if (14 : Int32) ≤ v4 then (some (.inr (v3, σ)))
  else ((s_fr σ v0 3 0).bind fun x1 =>
  (s_fr σ v0 3 4).bind fun x2 =>
  (s_ai σ x2 v4).bind fun x3 =>
  (F_X1_isTrue x1 x3 v1 σ).bind fun q4 =>
  if q4.1 = 0 then (some (.inl (43, [.ref v0, .int v1, .int v2, .int v3, .int v4], q4.2)))
  else (some (.inl (43, [.ref v0, .int v1, .int v2, .int (v3 ||| (1 <<< (v4 &&& 31))), .int v4], q4.2)))))
noncomputable def U_X3_membersIn_5 (vs : List Value) (σ : sS) : Option (sZ Int32) := (g_r vs).bind fun a0 => (g_i a0.2).bind fun a1 => (g_i a1.2).bind fun a2 => (g_i a2.2).bind fun a3 => (g_i a3.2).bind fun a4 => (g_e a4.2).bind fun _ => T_X3_membersIn_5 a0.1 a1.1 a2.1 a3.1 a4.1 σ
noncomputable def T_X3_membersIn_43 (v0 : Nat) (v1 : Int32) (v2 : Int32) (v3 : Int32) (v4 : Int32) (σ : sS) : Option (sZ Int32) :=
  some (.inl (5, [.ref v0, .int v1, .int v2, .int v3, .int (v4 + 1)], σ))
noncomputable def U_X3_membersIn_43 (vs : List Value) (σ : sS) : Option (sZ Int32) := (g_r vs).bind fun a0 => (g_i a0.2).bind fun a1 => (g_i a1.2).bind fun a2 => (g_i a2.2).bind fun a3 => (g_i a3.2).bind fun a4 => (g_e a4.2).bind fun _ => T_X3_membersIn_43 a0.1 a1.1 a2.1 a3.1 a4.1 σ
noncomputable def S_X3_membersIn (x : sL) : Option (sZ Int32) := if x.1 = 0 then U_X3_membersIn_0 x.2.1 x.2.2 else if x.1 = 5 then U_X3_membersIn_5 x.2.1 x.2.2 else if x.1 = 43 then U_X3_membersIn_43 x.2.1 x.2.2 else none
def Y_X3_membersIn (pc : Nat) : List Nat := if pc = 0 then [0, 1, 2] else if pc = 5 then [0, 1, 2, 3, 4] else if pc = 43 then [0, 1, 2, 3, 4] else []
noncomputable def F_X3_membersIn (v0 : Nat) (v1 : Int32) (v2 : Int32) (σ : sS) : Option (Int32 × sS) := (s_is σ v0 3).bind fun _ => s_run S_X3_membersIn (0, [.ref v0, .int v1, .int v2], σ)
theorem l_X3_membersIn_0 {v0 : Nat} {v1 : Int32} {v2 : Int32} {σ : sS} {z : sZ Int32} (hf : T_X3_membersIn_0 v0 v1 v2 σ = some z) : s_lz σ z := by
  unfold T_X3_membersIn_0 at hf
  cases hf
  exact s_le.rf
theorem l_X3_membersIn_5 {v0 : Nat} {v1 : Int32} {v2 : Int32} {v3 : Int32} {v4 : Int32} {σ : sS} {z : sZ Int32} (hf : T_X3_membersIn_5 v0 v1 v2 v3 v4 σ = some z) : s_lz σ z := by
  unfold T_X3_membersIn_5 at hf
  rcases s_ite hf with ⟨-, hf⟩ | ⟨-, hf⟩
  · cases hf
    exact s_le.rf
  · rcases s_ite hf with ⟨-, hf⟩ | ⟨-, hf⟩
    · cases hf
      exact s_le.rf
    · obtain ⟨x1, -, hf⟩ := s_bind hf
      obtain ⟨x2, -, hf⟩ := s_bind hf
      obtain ⟨x3, -, hf⟩ := s_bind hf
      obtain ⟨q4, hh, hf⟩ := s_bind hf
      refine s_lz.tr (l_X1_isTrue hh) ?_
      rcases s_ite hf with ⟨-, hf⟩ | ⟨-, hf⟩
      · cases hf
        exact s_le.rf
      · cases hf
        exact s_le.rf
theorem l_X3_membersIn_43 {v0 : Nat} {v1 : Int32} {v2 : Int32} {v3 : Int32} {v4 : Int32} {σ : sS} {z : sZ Int32} (hf : T_X3_membersIn_43 v0 v1 v2 v3 v4 σ = some z) : s_lz σ z := by
  unfold T_X3_membersIn_43 at hf
  cases hf
  exact s_le.rf
theorem l_X3_membersIn_s {x : sL} {z : sZ Int32} (hs : S_X3_membersIn x = some z) : s_lz x.2.2 z := by
  obtain ⟨pc, vs, σ⟩ := x
  unfold S_X3_membersIn at hs
  dsimp only at hs ⊢
  rcases s_ite hs with ⟨c, hs⟩ | ⟨-, hs⟩
  · subst c
    unfold U_X3_membersIn_0 at hs
    obtain ⟨a0, g0, hs⟩ := s_bind hs
    obtain ⟨a1, g1, hs⟩ := s_bind hs
    obtain ⟨a2, g2, hs⟩ := s_bind hs
    obtain ⟨u9, ge, hs⟩ := s_bind hs
    exact l_X3_membersIn_0 hs
  rcases s_ite hs with ⟨c, hs⟩ | ⟨-, hs⟩
  · subst c
    unfold U_X3_membersIn_5 at hs
    obtain ⟨a0, g0, hs⟩ := s_bind hs
    obtain ⟨a1, g1, hs⟩ := s_bind hs
    obtain ⟨a2, g2, hs⟩ := s_bind hs
    obtain ⟨a3, g3, hs⟩ := s_bind hs
    obtain ⟨a4, g4, hs⟩ := s_bind hs
    obtain ⟨u9, ge, hs⟩ := s_bind hs
    exact l_X3_membersIn_5 hs
  rcases s_ite hs with ⟨c, hs⟩ | ⟨-, hs⟩
  · subst c
    unfold U_X3_membersIn_43 at hs
    obtain ⟨a0, g0, hs⟩ := s_bind hs
    obtain ⟨a1, g1, hs⟩ := s_bind hs
    obtain ⟨a2, g2, hs⟩ := s_bind hs
    obtain ⟨a3, g3, hs⟩ := s_bind hs
    obtain ⟨a4, g4, hs⟩ := s_bind hs
    obtain ⟨u9, ge, hs⟩ := s_bind hs
    exact l_X3_membersIn_43 hs
  cases hs
theorem l_X3_membersIn {v0 : Nat} {v1 : Int32} {v2 : Int32} {σ : sS} {q : Int32 × sS} (h : F_X3_membersIn v0 v1 v2 σ = some q) : s_le σ q.2 := by
  unfold F_X3_membersIn at h
  obtain ⟨-, -, h⟩ := s_bind h
  exact s_run_ind (V := fun x r => s_le x.2.2 r.2) (fun x z r hs hk => by
    have h9 := l_X3_membersIn_s hs
    cases z with
    | inl y => exact s_le.tr h9 hk
    | inr q => cases hk; exact h9) h
theorem b_X3_membersIn {v0 : Nat} {v1 : Int32} {v2 : Int32} {σ : sS} {q : Int32 × sS} (h : F_X3_membersIn v0 v1 v2 σ = some q) : ∃ fs, σ.1 v0 = some (.inr (3, fs)) := by
  unfold F_X3_membersIn at h
  obtain ⟨u, hu, -⟩ := s_bind h
  exact s_is_to hu
set_option maxRecDepth 100000 in
set_option maxHeartbeats 4000000 in
theorem v_X3_membersIn_0 {G : sG} {d : Nat} {vs0 : List Value} {σ0 : sS} {v0 : Nat} {v1 : Int32} {v2 : Int32} {σ : sS} {z : sZ Int32} {r : Int32 × sS} (hf : T_X3_membersIn_0 v0 v1 v2 σ = some z) (k : s_K G (d + 3) M_X3_membersIn vs0 σ0 Y_X3_membersIn e_I z r) : s_V G (d + 3) M_X3_membersIn vs0 σ0 Y_X3_membersIn (0, [.ref v0, .int v1, .int v2], σ) (e_I r) := by
  have le0 : s_le σ (e_I r).2 := s_lek hem_I (l_X3_membersIn_0 hf) k
  refine ⟨le0, ?_⟩
  intro p e s m below meth c H locs cells slots ls X I hn1 hn2 hl
  have hn : cells + σ0.2.1 ≤ σ.2.1 ∧ slots + σ0.2.2.1 ≤ σ.2.2.1 := ⟨hn1, hn2⟩
  have hl : lv_has ls 5 [(0, .ref v0), (1, .int v1), (2, .int v2)] := hl
  have hx := X.1
  have hb : c.code = cX3_membersIn := X.2.1
  have hown : s.vm.findClass RX3 = some m.cls := X.2.2.2.2.2.1
  have hts := X.2.2.2.2.2.2.1
  refine W.eq (g2 := F0 m 0 ls []) rfl ?_
  unfold T_X3_membersIn_0 at hf
  cases hf
  have k : s_V G (d + 3) M_X3_membersIn vs0 σ0 Y_X3_membersIn (5, [.ref v0, .int v1, .int v2, .int 0, .int 0], σ) (e_I r) := k
  refine lv_iconst (v := 0) hx hb dX3_membersIn_0 (by decide) ?_
  refine lv_istore_n (lv' := [(3, .int 0), (0, .ref v0), (1, .int v1), (2, .int v2)]) hx hb dX3_membersIn_1 rfl hl (by decide) rfl (fun ls hl => ?_)
  refine lv_iconst (v := 0) hx hb dX3_membersIn_2 (by decide) ?_
  refine lv_istore (lv' := [(4, .int 0), (3, .int 0), (0, .ref v0), (1, .int v1), (2, .int v2)]) hx hb dX3_membersIn_3 hl (by decide) rfl (fun ls hl => ?_)
  exact k.2 p e s m below meth c _ _ _ _ _ X I hn.1 hn.2 (lv_sub hl [2, 3, 4, 1, 0] rfl)
set_option maxRecDepth 100000 in
set_option maxHeartbeats 4000000 in
theorem v_X3_membersIn_5 {G : sG} {d : Nat} {vs0 : List Value} {σ0 : sS} {v0 : Nat} {v1 : Int32} {v2 : Int32} {v3 : Int32} {v4 : Int32} {σ : sS} {z : sZ Int32} {r : Int32 × sS} (hf : T_X3_membersIn_5 v0 v1 v2 v3 v4 σ = some z) (k : s_K G (d + 3) M_X3_membersIn vs0 σ0 Y_X3_membersIn e_I z r) : s_V G (d + 3) M_X3_membersIn vs0 σ0 Y_X3_membersIn (5, [.ref v0, .int v1, .int v2, .int v3, .int v4], σ) (e_I r) := by
  have le0 : s_le σ (e_I r).2 := s_lek hem_I (l_X3_membersIn_5 hf) k
  refine ⟨le0, ?_⟩
  intro p e s m below meth c H locs cells slots ls X I hn1 hn2 hl
  have hn : cells + σ0.2.1 ≤ σ.2.1 ∧ slots + σ0.2.2.1 ≤ σ.2.2.1 := ⟨hn1, hn2⟩
  have hl : lv_has ls 5 [(0, .ref v0), (1, .int v1), (2, .int v2), (3, .int v3), (4, .int v4)] := hl
  have hx := X.1
  have hb : c.code = cX3_membersIn := X.2.1
  have hown : s.vm.findClass RX3 = some m.cls := X.2.2.2.2.2.1
  have hts := X.2.2.2.2.2.2.1
  refine W.eq (g2 := F0 m 5 ls []) rfl ?_
  unfold T_X3_membersIn_5 at hf
  refine lv_iload hx hb dX3_membersIn_5 (lv_at hl 4 rfl) ?_
  refine lv_iload_n hx hb dX3_membersIn_7 rfl (lv_at hl 2 rfl) ?_
  rcases s_ite hf with ⟨c1, hf⟩ | ⟨c1, hf⟩
  · refine lv_icmp_ge (tgt := 49) hx hb dX3_membersIn_8 (by decide) (fun _ => ?_) (fun n => absurd c1 n)
    cases hf
    have k : _ = r := k
    subst k
    refine lv_iload_n hx hb dX3_membersIn_49 rfl (lv_at hl 3 rfl) ?_
    exact r_iret X I rfl rfl rfl hn dX3_membersIn_50
  · refine lv_icmp_ge (tgt := 49) hx hb dX3_membersIn_8 (by decide) (fun n => absurd n c1) (fun _ => ?_)
    refine lv_iload hx hb dX3_membersIn_11 (lv_at hl 4 rfl) ?_
    refine lv_bipush (v := 14) hx hb dX3_membersIn_13 (by decide) ?_
    rcases s_ite hf with ⟨c2, hf⟩ | ⟨c2, hf⟩
    · refine lv_icmp_ge (tgt := 49) hx hb dX3_membersIn_15 (by decide) (fun _ => ?_) (fun n => absurd c2 n)
      cases hf
      have k : _ = r := k
      subst k
      refine lv_iload_n hx hb dX3_membersIn_49 rfl (lv_at hl 3 rfl) ?_
      exact r_iret X I rfl rfl rfl hn dX3_membersIn_50
    · refine lv_icmp_ge (tgt := 49) hx hb dX3_membersIn_15 (by decide) (fun n => absurd n c2) (fun _ => ?_)
      obtain ⟨x1, h3, hf⟩ := s_bind hf
      obtain ⟨x2, h4, hf⟩ := s_bind hf
      obtain ⟨x3, h5, hf⟩ := s_bind hf
      obtain ⟨q4, h6, hf⟩ := s_bind hf
      have le7 : s_le q4.2 (e_I r).2 := by
        refine s_lek hem_I ?_ k
        rcases s_ite hf with ⟨-, hf⟩ | ⟨-, hf⟩
        · cases hf
          exact s_le.rf
        · cases hf
          exact s_le.rf
      refine lv_aload_n hx hb dX3_membersIn_18 rfl (lv_at hl 0 rfl) ?_
      refine r_gr X I fl_X3_30 h3 dX3_membersIn_19 ?_
      refine lv_aload_n hx hb dX3_membersIn_22 rfl (lv_at hl 0 rfl) ?_
      refine r_gr X I fl_X3_23 h4 dX3_membersIn_23 ?_
      refine lv_iload hx hb dX3_membersIn_26 (lv_at hl 4 rfl) ?_
      refine r_iald X I h5 dX3_membersIn_28 ?_
      refine lv_iload_n hx hb dX3_membersIn_29 rfl (lv_at hl 1 rfl) ?_
      refine r_callV (Y := M_X1_isTrue) (v := some (.int q4.1)) X I w_1444 my_X1_isTrue (by omega) (t_X1_isTrue (G := G) (d := d + 0) h6) (b_X1_isTrue h6) rfl rfl hl.1 rfl (Nat.le_of_ble_eq_true rfl) hn le7 dX3_membersIn_30 (fun H locs cells slots I hn1 hn2 => ?_)
      have I : s_I G q4.2 s H locs := I
      have hn : cells + σ0.2.1 ≤ q4.2.2.1 ∧ slots + σ0.2.2.1 ≤ q4.2.2.2.1 := ⟨hn1, hn2⟩
      rcases s_ite hf with ⟨c8, hf⟩ | ⟨c8, hf⟩
      · refine lv_if_eq (tgt := 43) hx hb dX3_membersIn_33 (by decide) (fun _ => ?_) (fun n => absurd c8 n)
        cases hf
        have k : s_V G (d + 3) M_X3_membersIn vs0 σ0 Y_X3_membersIn (43, [.ref v0, .int v1, .int v2, .int v3, .int v4], q4.2) (e_I r) := k
        exact k.2 p e s m below meth c _ _ _ _ _ X I hn.1 hn.2 (lv_sub hl [0, 1, 2, 3, 4] rfl)
      · refine lv_if_eq (tgt := 43) hx hb dX3_membersIn_33 (by decide) (fun n => absurd n c8) (fun _ => ?_)
        cases hf
        have k : s_V G (d + 3) M_X3_membersIn vs0 σ0 Y_X3_membersIn (43, [.ref v0, .int v1, .int v2, .int (v3 ||| (1 <<< (v4 &&& 31))), .int v4], q4.2) (e_I r) := k
        refine lv_iload_n hx hb dX3_membersIn_36 rfl (lv_at hl 3 rfl) ?_
        refine lv_iconst (v := 1) hx hb dX3_membersIn_37 (by decide) ?_
        refine lv_iload hx hb dX3_membersIn_38 (lv_at hl 4 rfl) ?_
        refine lv_ishl hx hb dX3_membersIn_40 ?_
        refine lv_ior hx hb dX3_membersIn_41 ?_
        refine lv_istore_n (lv' := [(3, .int (v3 ||| (1 <<< (v4 &&& 31)))), (0, .ref v0), (1, .int v1), (2, .int v2), (4, .int v4)]) hx hb dX3_membersIn_42 rfl hl (by decide) rfl (fun ls hl => ?_)
        exact k.2 p e s m below meth c _ _ _ _ _ X I hn.1 hn.2 (lv_sub hl [1, 2, 3, 0, 4] rfl)
set_option maxRecDepth 100000 in
set_option maxHeartbeats 4000000 in
theorem v_X3_membersIn_43 {G : sG} {d : Nat} {vs0 : List Value} {σ0 : sS} {v0 : Nat} {v1 : Int32} {v2 : Int32} {v3 : Int32} {v4 : Int32} {σ : sS} {z : sZ Int32} {r : Int32 × sS} (hf : T_X3_membersIn_43 v0 v1 v2 v3 v4 σ = some z) (k : s_K G (d + 3) M_X3_membersIn vs0 σ0 Y_X3_membersIn e_I z r) : s_V G (d + 3) M_X3_membersIn vs0 σ0 Y_X3_membersIn (43, [.ref v0, .int v1, .int v2, .int v3, .int v4], σ) (e_I r) := by
  have le0 : s_le σ (e_I r).2 := s_lek hem_I (l_X3_membersIn_43 hf) k
  refine ⟨le0, ?_⟩
  intro p e s m below meth c H locs cells slots ls X I hn1 hn2 hl
  have hn : cells + σ0.2.1 ≤ σ.2.1 ∧ slots + σ0.2.2.1 ≤ σ.2.2.1 := ⟨hn1, hn2⟩
  have hl : lv_has ls 5 [(0, .ref v0), (1, .int v1), (2, .int v2), (3, .int v3), (4, .int v4)] := hl
  have hx := X.1
  have hb : c.code = cX3_membersIn := X.2.1
  have hown : s.vm.findClass RX3 = some m.cls := X.2.2.2.2.2.1
  have hts := X.2.2.2.2.2.2.1
  refine W.eq (g2 := F0 m 43 ls []) rfl ?_
  unfold T_X3_membersIn_43 at hf
  cases hf
  have k : s_V G (d + 3) M_X3_membersIn vs0 σ0 Y_X3_membersIn (5, [.ref v0, .int v1, .int v2, .int v3, .int (v4 + 1)], σ) (e_I r) := k
  refine lv_iinc (v := (v4 + 1)) (lv' := [(4, .int (v4 + 1)), (0, .ref v0), (1, .int v1), (2, .int v2), (3, .int v3)]) hx hb dX3_membersIn_43 hl (k := 4) rfl rfl (by decide) rfl (fun ls hl => ?_)
  refine lv_goto (tgt := 5) hx hb dX3_membersIn_46 (by decide) ?_
  exact k.2 p e s m below meth c _ _ _ _ _ X I hn.1 hn.2 (lv_sub hl [1, 2, 3, 4, 0] rfl)
theorem v_X3_membersIn {G : sG} {d : Nat} {vs0 : List Value} {σ0 : sS} {x : sL} {z : sZ Int32} {r : Int32 × sS} (hs : S_X3_membersIn x = some z) (k : s_K G (d + 3) M_X3_membersIn vs0 σ0 Y_X3_membersIn e_I z r) : s_V G (d + 3) M_X3_membersIn vs0 σ0 Y_X3_membersIn x (e_I r) := by
  obtain ⟨pc, vs, σ⟩ := x
  unfold S_X3_membersIn at hs
  dsimp only at hs
  rcases s_ite hs with ⟨c, hs⟩ | ⟨-, hs⟩
  · subst c
    unfold U_X3_membersIn_0 at hs
    obtain ⟨a0, g0, hs⟩ := s_bind hs
    obtain ⟨a1, g1, hs⟩ := s_bind hs
    obtain ⟨a2, g2, hs⟩ := s_bind hs
    obtain ⟨u9, ge, hs⟩ := s_bind hs
    rw [g_r_to g0, g_i_to g1, g_i_to g2, g_e_to ge]
    exact v_X3_membersIn_0 hs k
  rcases s_ite hs with ⟨c, hs⟩ | ⟨-, hs⟩
  · subst c
    unfold U_X3_membersIn_5 at hs
    obtain ⟨a0, g0, hs⟩ := s_bind hs
    obtain ⟨a1, g1, hs⟩ := s_bind hs
    obtain ⟨a2, g2, hs⟩ := s_bind hs
    obtain ⟨a3, g3, hs⟩ := s_bind hs
    obtain ⟨a4, g4, hs⟩ := s_bind hs
    obtain ⟨u9, ge, hs⟩ := s_bind hs
    rw [g_r_to g0, g_i_to g1, g_i_to g2, g_i_to g3, g_i_to g4, g_e_to ge]
    exact v_X3_membersIn_5 hs k
  rcases s_ite hs with ⟨c, hs⟩ | ⟨-, hs⟩
  · subst c
    unfold U_X3_membersIn_43 at hs
    obtain ⟨a0, g0, hs⟩ := s_bind hs
    obtain ⟨a1, g1, hs⟩ := s_bind hs
    obtain ⟨a2, g2, hs⟩ := s_bind hs
    obtain ⟨a3, g3, hs⟩ := s_bind hs
    obtain ⟨a4, g4, hs⟩ := s_bind hs
    obtain ⟨u9, ge, hs⟩ := s_bind hs
    rw [g_r_to g0, g_i_to g1, g_i_to g2, g_i_to g3, g_i_to g4, g_e_to ge]
    exact v_X3_membersIn_43 hs k
  cases hs
theorem t_X3_membersIn {G : sG} {d : Nat} {v0 : Nat} {v1 : Int32} {v2 : Int32} {σ : sS} {q : Int32 × sS} (h : F_X3_membersIn v0 v1 v2 σ = some q) : s_T G (d + 3) M_X3_membersIn [.ref v0, .int v1, .int v2] σ (e_I q) := by
  unfold F_X3_membersIn at h
  obtain ⟨-, -, h⟩ := s_bind h
  exact s_ofV rfl (by decide) (Nat.le_of_ble_eq_true rfl) rfl rfl (s_run_ind (V := fun x r => s_V G (d + 3) M_X3_membersIn [.ref v0, .int v1, .int v2] σ Y_X3_membersIn x (e_I r)) (fun x z r hs hk => v_X3_membersIn hs (by cases z <;> exact hk)) h)
/-! X3_markWithin -/
noncomputable def T_X3_markWithin_0 (v0 : Nat) (v1 : Int32) (σ : sS) : Option (sZ Unit) :=
  (s_al σ (σ.2.2.2 1) v1).bind fun x1 =>
  some (.inl (13, [.ref v0, .int v1, .long (x1 ^^^ (-1)), .int 0], σ))
noncomputable def U_X3_markWithin_0 (vs : List Value) (σ : sS) : Option (sZ Unit) := (g_r vs).bind fun a0 => (g_i a0.2).bind fun a1 => (g_e a1.2).bind fun _ => T_X3_markWithin_0 a0.1 a1.1 σ
noncomputable def T_X3_markWithin_13 (v0 : Nat) (v1 : Int32) (v2 : Int64) (v4 : Int32) (σ : sS) : Option (sZ Unit) :=
  (s_fr σ v0 3 5).bind fun x1 =>
  (s_len σ x1).bind fun x2 =>
  if x2 ≤ v4 then (some (.inr ((), σ)))
  else ((s_fr σ v0 3 5).bind fun x3 =>
  (s_al σ x3 v4).bind fun x4 =>
  (s_fr σ v0 3 5).bind fun x5 =>
  (s_al σ x5 v4).bind fun x6 =>
  (s_sl σ x3 v4 (x4 ||| (((x6 : Int64).toUInt64 >>> (((1 <<< (v1 &&& 31)) : Int32).toInt64.toUInt64 &&& Int64.toUInt64 63)).toInt64 &&& v2))).bind fun σ7 =>
  some (.inl (13, [.ref v0, .int v1, .long v2, .int (v4 + 1)], σ7)))
noncomputable def U_X3_markWithin_13 (vs : List Value) (σ : sS) : Option (sZ Unit) := (g_r vs).bind fun a0 => (g_i a0.2).bind fun a1 => (g_l a1.2).bind fun a2 => (g_i a2.2).bind fun a3 => (g_e a3.2).bind fun _ => T_X3_markWithin_13 a0.1 a1.1 a2.1 a3.1 σ
noncomputable def S_X3_markWithin (x : sL) : Option (sZ Unit) := if x.1 = 0 then U_X3_markWithin_0 x.2.1 x.2.2 else if x.1 = 13 then U_X3_markWithin_13 x.2.1 x.2.2 else none
def Y_X3_markWithin (pc : Nat) : List Nat := if pc = 0 then [0, 1] else if pc = 13 then [0, 1, 2, 4] else []
noncomputable def F_X3_markWithin (v0 : Nat) (v1 : Int32) (σ : sS) : Option (Unit × sS) := (s_is σ v0 3).bind fun _ => s_run S_X3_markWithin (0, [.ref v0, .int v1], σ)
theorem l_X3_markWithin_0 {v0 : Nat} {v1 : Int32} {σ : sS} {z : sZ Unit} (hf : T_X3_markWithin_0 v0 v1 σ = some z) : s_lz σ z := by
  unfold T_X3_markWithin_0 at hf
  obtain ⟨x1, -, hf⟩ := s_bind hf
  cases hf
  exact s_le.rf
theorem l_X3_markWithin_13 {v0 : Nat} {v1 : Int32} {v2 : Int64} {v4 : Int32} {σ : sS} {z : sZ Unit} (hf : T_X3_markWithin_13 v0 v1 v2 v4 σ = some z) : s_lz σ z := by
  unfold T_X3_markWithin_13 at hf
  obtain ⟨x1, -, hf⟩ := s_bind hf
  obtain ⟨x2, -, hf⟩ := s_bind hf
  rcases s_ite hf with ⟨-, hf⟩ | ⟨-, hf⟩
  · cases hf
    exact s_le.rf
  · obtain ⟨x3, -, hf⟩ := s_bind hf
    obtain ⟨x4, -, hf⟩ := s_bind hf
    obtain ⟨x5, -, hf⟩ := s_bind hf
    obtain ⟨x6, -, hf⟩ := s_bind hf
    obtain ⟨σ7, hh, hf⟩ := s_bind hf
    refine s_lz.tr (s_le2 (s_sl_2 hh)) ?_
    cases hf
    exact s_le.rf
theorem l_X3_markWithin_s {x : sL} {z : sZ Unit} (hs : S_X3_markWithin x = some z) : s_lz x.2.2 z := by
  obtain ⟨pc, vs, σ⟩ := x
  unfold S_X3_markWithin at hs
  dsimp only at hs ⊢
  rcases s_ite hs with ⟨c, hs⟩ | ⟨-, hs⟩
  · subst c
    unfold U_X3_markWithin_0 at hs
    obtain ⟨a0, g0, hs⟩ := s_bind hs
    obtain ⟨a1, g1, hs⟩ := s_bind hs
    obtain ⟨u9, ge, hs⟩ := s_bind hs
    exact l_X3_markWithin_0 hs
  rcases s_ite hs with ⟨c, hs⟩ | ⟨-, hs⟩
  · subst c
    unfold U_X3_markWithin_13 at hs
    obtain ⟨a0, g0, hs⟩ := s_bind hs
    obtain ⟨a1, g1, hs⟩ := s_bind hs
    obtain ⟨a2, g2, hs⟩ := s_bind hs
    obtain ⟨a3, g3, hs⟩ := s_bind hs
    obtain ⟨u9, ge, hs⟩ := s_bind hs
    exact l_X3_markWithin_13 hs
  cases hs
theorem l_X3_markWithin {v0 : Nat} {v1 : Int32} {σ : sS} {q : Unit × sS} (h : F_X3_markWithin v0 v1 σ = some q) : s_le σ q.2 := by
  unfold F_X3_markWithin at h
  obtain ⟨-, -, h⟩ := s_bind h
  exact s_run_ind (V := fun x r => s_le x.2.2 r.2) (fun x z r hs hk => by
    have h9 := l_X3_markWithin_s hs
    cases z with
    | inl y => exact s_le.tr h9 hk
    | inr q => cases hk; exact h9) h
theorem b_X3_markWithin {v0 : Nat} {v1 : Int32} {σ : sS} {q : Unit × sS} (h : F_X3_markWithin v0 v1 σ = some q) : ∃ fs, σ.1 v0 = some (.inr (3, fs)) := by
  unfold F_X3_markWithin at h
  obtain ⟨u, hu, -⟩ := s_bind h
  exact s_is_to hu
set_option maxRecDepth 100000 in
set_option maxHeartbeats 4000000 in
theorem v_X3_markWithin_0 {G : sG} {d : Nat} {vs0 : List Value} {σ0 : sS} {v0 : Nat} {v1 : Int32} {σ : sS} {z : sZ Unit} {r : Unit × sS} (hf : T_X3_markWithin_0 v0 v1 σ = some z) (k : s_K G (d + 1) M_X3_markWithin vs0 σ0 Y_X3_markWithin e_V z r) : s_V G (d + 1) M_X3_markWithin vs0 σ0 Y_X3_markWithin (0, [.ref v0, .int v1], σ) (e_V r) := by
  have le0 : s_le σ (e_V r).2 := s_lek hem_V (l_X3_markWithin_0 hf) k
  refine ⟨le0, ?_⟩
  intro p e s m below meth c H locs cells slots ls X I hn1 hn2 hl
  have hn : cells + σ0.2.1 ≤ σ.2.1 ∧ slots + σ0.2.2.1 ≤ σ.2.2.1 := ⟨hn1, hn2⟩
  have hl : lv_has ls 5 [(0, .ref v0), (1, .int v1)] := hl
  have hx := X.1
  have hb : c.code = cX3_markWithin := X.2.1
  have hown : s.vm.findClass RX3 = some m.cls := X.2.2.2.2.2.1
  have hts := X.2.2.2.2.2.2.1
  refine W.eq (g2 := F0 m 0 ls []) rfl ?_
  unfold T_X3_markWithin_0 at hf
  obtain ⟨x1, h1, hf⟩ := s_bind hf
  cases hf
  have k : s_V G (d + 1) M_X3_markWithin vs0 σ0 Y_X3_markWithin (13, [.ref v0, .int v1, .long (x1 ^^^ (-1)), .int 0], σ) (e_V r) := k
  refine r_getsN (host := "ProofShop") X I.1.2.2.2.2.2.1.2.2.2.1 I.1.2.2.2.2.2.2.2.2.2.1 dX3_markWithin_0 ?_
  refine lv_iload_n hx hb dX3_markWithin_3 rfl (lv_at hl 1 rfl) ?_
  refine r_lald X I h1 dX3_markWithin_4 ?_
  refine lv_ldc2 (own := RX3) hx hb hown (hts _ w_1246) dX3_markWithin_5 ?_
  refine lv_lxor hx hb dX3_markWithin_8 ?_
  refine lv_lstore_n (lv' := [(2, .long (x1 ^^^ (-1))), (0, .ref v0), (1, .int v1)]) hx hb dX3_markWithin_9 rfl hl (by decide) rfl (fun ls hl => ?_)
  refine lv_iconst (v := 0) hx hb dX3_markWithin_10 (by decide) ?_
  refine lv_istore (lv' := [(4, .int 0), (2, .long (x1 ^^^ (-1))), (0, .ref v0), (1, .int v1)]) hx hb dX3_markWithin_11 hl (by decide) rfl (fun ls hl => ?_)
  exact k.2 p e s m below meth c _ _ _ _ _ X I hn.1 hn.2 (lv_sub hl [2, 3, 1, 0] rfl)
set_option maxRecDepth 100000 in
set_option maxHeartbeats 4000000 in
theorem v_X3_markWithin_13 {G : sG} {d : Nat} {vs0 : List Value} {σ0 : sS} {v0 : Nat} {v1 : Int32} {v2 : Int64} {v4 : Int32} {σ : sS} {z : sZ Unit} {r : Unit × sS} (hf : T_X3_markWithin_13 v0 v1 v2 v4 σ = some z) (k : s_K G (d + 1) M_X3_markWithin vs0 σ0 Y_X3_markWithin e_V z r) : s_V G (d + 1) M_X3_markWithin vs0 σ0 Y_X3_markWithin (13, [.ref v0, .int v1, .long v2, .int v4], σ) (e_V r) := by
  have le0 : s_le σ (e_V r).2 := s_lek hem_V (l_X3_markWithin_13 hf) k
  refine ⟨le0, ?_⟩
  intro p e s m below meth c H locs cells slots ls X I hn1 hn2 hl
  have hn : cells + σ0.2.1 ≤ σ.2.1 ∧ slots + σ0.2.2.1 ≤ σ.2.2.1 := ⟨hn1, hn2⟩
  have hl : lv_has ls 5 [(0, .ref v0), (1, .int v1), (2, .long v2), (4, .int v4)] := hl
  have hx := X.1
  have hb : c.code = cX3_markWithin := X.2.1
  have hown : s.vm.findClass RX3 = some m.cls := X.2.2.2.2.2.1
  have hts := X.2.2.2.2.2.2.1
  refine W.eq (g2 := F0 m 13 ls []) rfl ?_
  unfold T_X3_markWithin_13 at hf
  obtain ⟨x1, h1, hf⟩ := s_bind hf
  obtain ⟨x2, h2, hf⟩ := s_bind hf
  refine lv_iload hx hb dX3_markWithin_13 (lv_at hl 3 rfl) ?_
  refine lv_aload_n hx hb dX3_markWithin_15 rfl (lv_at hl 0 rfl) ?_
  refine r_gr X I fl_X3_27 h1 dX3_markWithin_16 ?_
  refine r_alen X I h2 dX3_markWithin_19 ?_
  rcases s_ite hf with ⟨c3, hf⟩ | ⟨c3, hf⟩
  · refine lv_icmp_ge (tgt := 52) hx hb dX3_markWithin_20 (by decide) (fun _ => ?_) (fun n => absurd c3 n)
    cases hf
    have k : _ = r := k
    subst k
    exact r_vret X I rfl rfl hn dX3_markWithin_52
  · refine lv_icmp_ge (tgt := 52) hx hb dX3_markWithin_20 (by decide) (fun n => absurd n c3) (fun _ => ?_)
    obtain ⟨x3, h4, hf⟩ := s_bind hf
    obtain ⟨x4, h5, hf⟩ := s_bind hf
    obtain ⟨x5, h6, hf⟩ := s_bind hf
    obtain ⟨x6, h7, hf⟩ := s_bind hf
    obtain ⟨σ7, h8, hf⟩ := s_bind hf
    cases hf
    have k : s_V G (d + 1) M_X3_markWithin vs0 σ0 Y_X3_markWithin (13, [.ref v0, .int v1, .long v2, .int (v4 + 1)], σ7) (e_V r) := k
    have le9 : s_le σ7 (e_V r).2 := k.1
    refine lv_aload_n hx hb dX3_markWithin_23 rfl (lv_at hl 0 rfl) ?_
    refine r_gr X I fl_X3_27 h4 dX3_markWithin_24 ?_
    refine lv_iload hx hb dX3_markWithin_27 (lv_at hl 3 rfl) ?_
    refine lv_dup2_11 hx hb dX3_markWithin_29 rfl rfl ?_
    refine r_lald X I h5 dX3_markWithin_30 ?_
    refine lv_aload_n hx hb dX3_markWithin_31 rfl (lv_at hl 0 rfl) ?_
    refine r_gr X I fl_X3_27 h6 dX3_markWithin_32 ?_
    refine lv_iload hx hb dX3_markWithin_35 (lv_at hl 3 rfl) ?_
    refine r_lald X I h7 dX3_markWithin_37 ?_
    refine lv_iconst (v := 1) hx hb dX3_markWithin_38 (by decide) ?_
    refine lv_iload_n hx hb dX3_markWithin_39 rfl (lv_at hl 1 rfl) ?_
    refine lv_ishl hx hb dX3_markWithin_40 ?_
    refine lv_lushr hx hb dX3_markWithin_41 rfl ?_
    refine lv_lload_n hx hb dX3_markWithin_42 rfl (lv_at hl 2 rfl) ?_
    refine lv_land hx hb dX3_markWithin_43 ?_
    refine lv_lor hx hb dX3_markWithin_44 ?_
    refine r_last X I h8 dX3_markWithin_45 (fun H locs I => ?_)
    have hn := s_k2 (s_sl_2 h8) hn
    refine lv_iinc (v := (v4 + 1)) (lv' := [(4, .int (v4 + 1)), (0, .ref v0), (1, .int v1), (2, .long v2)]) hx hb dX3_markWithin_46 hl (k := 3) rfl rfl (by decide) rfl (fun ls hl => ?_)
    refine lv_goto (tgt := 13) hx hb dX3_markWithin_49 (by decide) ?_
    exact k.2 p e s m below meth c _ _ _ _ _ X I hn.1 hn.2 (lv_sub hl [1, 2, 3, 0] rfl)
theorem v_X3_markWithin {G : sG} {d : Nat} {vs0 : List Value} {σ0 : sS} {x : sL} {z : sZ Unit} {r : Unit × sS} (hs : S_X3_markWithin x = some z) (k : s_K G (d + 1) M_X3_markWithin vs0 σ0 Y_X3_markWithin e_V z r) : s_V G (d + 1) M_X3_markWithin vs0 σ0 Y_X3_markWithin x (e_V r) := by
  obtain ⟨pc, vs, σ⟩ := x
  unfold S_X3_markWithin at hs
  dsimp only at hs
  rcases s_ite hs with ⟨c, hs⟩ | ⟨-, hs⟩
  · subst c
    unfold U_X3_markWithin_0 at hs
    obtain ⟨a0, g0, hs⟩ := s_bind hs
    obtain ⟨a1, g1, hs⟩ := s_bind hs
    obtain ⟨u9, ge, hs⟩ := s_bind hs
    rw [g_r_to g0, g_i_to g1, g_e_to ge]
    exact v_X3_markWithin_0 hs k
  rcases s_ite hs with ⟨c, hs⟩ | ⟨-, hs⟩
  · subst c
    unfold U_X3_markWithin_13 at hs
    obtain ⟨a0, g0, hs⟩ := s_bind hs
    obtain ⟨a1, g1, hs⟩ := s_bind hs
    obtain ⟨a2, g2, hs⟩ := s_bind hs
    obtain ⟨a3, g3, hs⟩ := s_bind hs
    obtain ⟨u9, ge, hs⟩ := s_bind hs
    rw [g_r_to g0, g_i_to g1, g_l_to g2, g_i_to g3, g_e_to ge]
    exact v_X3_markWithin_13 hs k
  cases hs
theorem t_X3_markWithin {G : sG} {d : Nat} {v0 : Nat} {v1 : Int32} {σ : sS} {q : Unit × sS} (h : F_X3_markWithin v0 v1 σ = some q) : s_T G (d + 1) M_X3_markWithin [.ref v0, .int v1] σ (e_V q) := by
  unfold F_X3_markWithin at h
  obtain ⟨-, -, h⟩ := s_bind h
  exact s_ofV rfl (by decide) (Nat.le_of_ble_eq_true rfl) rfl rfl (s_run_ind (V := fun x r => s_V G (d + 1) M_X3_markWithin [.ref v0, .int v1] σ Y_X3_markWithin x (e_V r)) (fun x z r hs hk => v_X3_markWithin hs (by cases z <;> exact hk)) h)
/-! X3_markAcross -/
noncomputable def T_X3_markAcross_0 (v0 : Nat) (v1 : Int32) (σ : sS) : Option (sZ Unit) :=
  some (.inl (2, [.ref v0, .int v1, .int 0], σ))
noncomputable def U_X3_markAcross_0 (vs : List Value) (σ : sS) : Option (sZ Unit) := (g_r vs).bind fun a0 => (g_i a0.2).bind fun a1 => (g_e a1.2).bind fun _ => T_X3_markAcross_0 a0.1 a1.1 σ
noncomputable def T_X3_markAcross_2 (v0 : Nat) (v1 : Int32) (v2 : Int32) (σ : sS) : Option (sZ Unit) :=
  (s_fr σ v0 3 5).bind fun x1 =>
  (s_len σ x1).bind fun x2 =>
  if x2 ≤ v2 then (some (.inr ((), σ)))
  else (if (v2 &&& v1) = 0 then (some (.inl (34, [.ref v0, .int v1, .int v2], σ)))
  else ((s_fr σ v0 3 5).bind fun x3 =>
  (s_al σ x3 (v2 ^^^ v1)).bind fun x4 =>
  (s_fr σ v0 3 5).bind fun x5 =>
  (s_al σ x5 v2).bind fun x6 =>
  (s_sl σ x3 (v2 ^^^ v1) (x4 ||| x6)).bind fun σ7 =>
  some (.inl (34, [.ref v0, .int v1, .int v2], σ7))))
noncomputable def U_X3_markAcross_2 (vs : List Value) (σ : sS) : Option (sZ Unit) := (g_r vs).bind fun a0 => (g_i a0.2).bind fun a1 => (g_i a1.2).bind fun a2 => (g_e a2.2).bind fun _ => T_X3_markAcross_2 a0.1 a1.1 a2.1 σ
noncomputable def T_X3_markAcross_34 (v0 : Nat) (v1 : Int32) (v2 : Int32) (σ : sS) : Option (sZ Unit) :=
  some (.inl (2, [.ref v0, .int v1, .int (v2 + 1)], σ))
noncomputable def U_X3_markAcross_34 (vs : List Value) (σ : sS) : Option (sZ Unit) := (g_r vs).bind fun a0 => (g_i a0.2).bind fun a1 => (g_i a1.2).bind fun a2 => (g_e a2.2).bind fun _ => T_X3_markAcross_34 a0.1 a1.1 a2.1 σ
noncomputable def S_X3_markAcross (x : sL) : Option (sZ Unit) := if x.1 = 0 then U_X3_markAcross_0 x.2.1 x.2.2 else if x.1 = 2 then U_X3_markAcross_2 x.2.1 x.2.2 else if x.1 = 34 then U_X3_markAcross_34 x.2.1 x.2.2 else none
def Y_X3_markAcross (pc : Nat) : List Nat := if pc = 0 then [0, 1] else if pc = 2 then [0, 1, 2] else if pc = 34 then [0, 1, 2] else []
noncomputable def F_X3_markAcross (v0 : Nat) (v1 : Int32) (σ : sS) : Option (Unit × sS) := (s_is σ v0 3).bind fun _ => s_run S_X3_markAcross (0, [.ref v0, .int v1], σ)
theorem l_X3_markAcross_0 {v0 : Nat} {v1 : Int32} {σ : sS} {z : sZ Unit} (hf : T_X3_markAcross_0 v0 v1 σ = some z) : s_lz σ z := by
  unfold T_X3_markAcross_0 at hf
  cases hf
  exact s_le.rf
theorem l_X3_markAcross_2 {v0 : Nat} {v1 : Int32} {v2 : Int32} {σ : sS} {z : sZ Unit} (hf : T_X3_markAcross_2 v0 v1 v2 σ = some z) : s_lz σ z := by
  unfold T_X3_markAcross_2 at hf
  obtain ⟨x1, -, hf⟩ := s_bind hf
  obtain ⟨x2, -, hf⟩ := s_bind hf
  rcases s_ite hf with ⟨-, hf⟩ | ⟨-, hf⟩
  · cases hf
    exact s_le.rf
  · rcases s_ite hf with ⟨-, hf⟩ | ⟨-, hf⟩
    · cases hf
      exact s_le.rf
    · obtain ⟨x3, -, hf⟩ := s_bind hf
      obtain ⟨x4, -, hf⟩ := s_bind hf
      obtain ⟨x5, -, hf⟩ := s_bind hf
      obtain ⟨x6, -, hf⟩ := s_bind hf
      obtain ⟨σ7, hh, hf⟩ := s_bind hf
      refine s_lz.tr (s_le2 (s_sl_2 hh)) ?_
      cases hf
      exact s_le.rf
theorem l_X3_markAcross_34 {v0 : Nat} {v1 : Int32} {v2 : Int32} {σ : sS} {z : sZ Unit} (hf : T_X3_markAcross_34 v0 v1 v2 σ = some z) : s_lz σ z := by
  unfold T_X3_markAcross_34 at hf
  cases hf
  exact s_le.rf
theorem l_X3_markAcross_s {x : sL} {z : sZ Unit} (hs : S_X3_markAcross x = some z) : s_lz x.2.2 z := by
  obtain ⟨pc, vs, σ⟩ := x
  unfold S_X3_markAcross at hs
  dsimp only at hs ⊢
  rcases s_ite hs with ⟨c, hs⟩ | ⟨-, hs⟩
  · subst c
    unfold U_X3_markAcross_0 at hs
    obtain ⟨a0, g0, hs⟩ := s_bind hs
    obtain ⟨a1, g1, hs⟩ := s_bind hs
    obtain ⟨u9, ge, hs⟩ := s_bind hs
    exact l_X3_markAcross_0 hs
  rcases s_ite hs with ⟨c, hs⟩ | ⟨-, hs⟩
  · subst c
    unfold U_X3_markAcross_2 at hs
    obtain ⟨a0, g0, hs⟩ := s_bind hs
    obtain ⟨a1, g1, hs⟩ := s_bind hs
    obtain ⟨a2, g2, hs⟩ := s_bind hs
    obtain ⟨u9, ge, hs⟩ := s_bind hs
    exact l_X3_markAcross_2 hs
  rcases s_ite hs with ⟨c, hs⟩ | ⟨-, hs⟩
  · subst c
    unfold U_X3_markAcross_34 at hs
    obtain ⟨a0, g0, hs⟩ := s_bind hs
    obtain ⟨a1, g1, hs⟩ := s_bind hs
    obtain ⟨a2, g2, hs⟩ := s_bind hs
    obtain ⟨u9, ge, hs⟩ := s_bind hs
    exact l_X3_markAcross_34 hs
  cases hs
theorem l_X3_markAcross {v0 : Nat} {v1 : Int32} {σ : sS} {q : Unit × sS} (h : F_X3_markAcross v0 v1 σ = some q) : s_le σ q.2 := by
  unfold F_X3_markAcross at h
  obtain ⟨-, -, h⟩ := s_bind h
  exact s_run_ind (V := fun x r => s_le x.2.2 r.2) (fun x z r hs hk => by
    have h9 := l_X3_markAcross_s hs
    cases z with
    | inl y => exact s_le.tr h9 hk
    | inr q => cases hk; exact h9) h
theorem b_X3_markAcross {v0 : Nat} {v1 : Int32} {σ : sS} {q : Unit × sS} (h : F_X3_markAcross v0 v1 σ = some q) : ∃ fs, σ.1 v0 = some (.inr (3, fs)) := by
  unfold F_X3_markAcross at h
  obtain ⟨u, hu, -⟩ := s_bind h
  exact s_is_to hu
set_option maxRecDepth 100000 in
set_option maxHeartbeats 4000000 in
theorem v_X3_markAcross_0 {G : sG} {d : Nat} {vs0 : List Value} {σ0 : sS} {v0 : Nat} {v1 : Int32} {σ : sS} {z : sZ Unit} {r : Unit × sS} (hf : T_X3_markAcross_0 v0 v1 σ = some z) (k : s_K G (d + 1) M_X3_markAcross vs0 σ0 Y_X3_markAcross e_V z r) : s_V G (d + 1) M_X3_markAcross vs0 σ0 Y_X3_markAcross (0, [.ref v0, .int v1], σ) (e_V r) := by
  have le0 : s_le σ (e_V r).2 := s_lek hem_V (l_X3_markAcross_0 hf) k
  refine ⟨le0, ?_⟩
  intro p e s m below meth c H locs cells slots ls X I hn1 hn2 hl
  have hn : cells + σ0.2.1 ≤ σ.2.1 ∧ slots + σ0.2.2.1 ≤ σ.2.2.1 := ⟨hn1, hn2⟩
  have hl : lv_has ls 3 [(0, .ref v0), (1, .int v1)] := hl
  have hx := X.1
  have hb : c.code = cX3_markAcross := X.2.1
  have hown : s.vm.findClass RX3 = some m.cls := X.2.2.2.2.2.1
  have hts := X.2.2.2.2.2.2.1
  refine W.eq (g2 := F0 m 0 ls []) rfl ?_
  unfold T_X3_markAcross_0 at hf
  cases hf
  have k : s_V G (d + 1) M_X3_markAcross vs0 σ0 Y_X3_markAcross (2, [.ref v0, .int v1, .int 0], σ) (e_V r) := k
  refine lv_iconst (v := 0) hx hb dX3_markAcross_0 (by decide) ?_
  refine lv_istore_n (lv' := [(2, .int 0), (0, .ref v0), (1, .int v1)]) hx hb dX3_markAcross_1 rfl hl (by decide) rfl (fun ls hl => ?_)
  exact k.2 p e s m below meth c _ _ _ _ _ X I hn.1 hn.2 (lv_sub hl [1, 2, 0] rfl)
set_option maxRecDepth 100000 in
set_option maxHeartbeats 4000000 in
theorem v_X3_markAcross_2 {G : sG} {d : Nat} {vs0 : List Value} {σ0 : sS} {v0 : Nat} {v1 : Int32} {v2 : Int32} {σ : sS} {z : sZ Unit} {r : Unit × sS} (hf : T_X3_markAcross_2 v0 v1 v2 σ = some z) (k : s_K G (d + 1) M_X3_markAcross vs0 σ0 Y_X3_markAcross e_V z r) : s_V G (d + 1) M_X3_markAcross vs0 σ0 Y_X3_markAcross (2, [.ref v0, .int v1, .int v2], σ) (e_V r) := by
  have le0 : s_le σ (e_V r).2 := s_lek hem_V (l_X3_markAcross_2 hf) k
  refine ⟨le0, ?_⟩
  intro p e s m below meth c H locs cells slots ls X I hn1 hn2 hl
  have hn : cells + σ0.2.1 ≤ σ.2.1 ∧ slots + σ0.2.2.1 ≤ σ.2.2.1 := ⟨hn1, hn2⟩
  have hl : lv_has ls 3 [(0, .ref v0), (1, .int v1), (2, .int v2)] := hl
  have hx := X.1
  have hb : c.code = cX3_markAcross := X.2.1
  have hown : s.vm.findClass RX3 = some m.cls := X.2.2.2.2.2.1
  have hts := X.2.2.2.2.2.2.1
  refine W.eq (g2 := F0 m 2 ls []) rfl ?_
  unfold T_X3_markAcross_2 at hf
  obtain ⟨x1, h1, hf⟩ := s_bind hf
  obtain ⟨x2, h2, hf⟩ := s_bind hf
  refine lv_iload_n hx hb dX3_markAcross_2 rfl (lv_at hl 2 rfl) ?_
  refine lv_aload_n hx hb dX3_markAcross_3 rfl (lv_at hl 0 rfl) ?_
  refine r_gr X I fl_X3_27 h1 dX3_markAcross_4 ?_
  refine r_alen X I h2 dX3_markAcross_7 ?_
  rcases s_ite hf with ⟨c3, hf⟩ | ⟨c3, hf⟩
  · refine lv_icmp_ge (tgt := 40) hx hb dX3_markAcross_8 (by decide) (fun _ => ?_) (fun n => absurd c3 n)
    cases hf
    have k : _ = r := k
    subst k
    exact r_vret X I rfl rfl hn dX3_markAcross_40
  · refine lv_icmp_ge (tgt := 40) hx hb dX3_markAcross_8 (by decide) (fun n => absurd n c3) (fun _ => ?_)
    refine lv_iload_n hx hb dX3_markAcross_11 rfl (lv_at hl 2 rfl) ?_
    refine lv_iload_n hx hb dX3_markAcross_12 rfl (lv_at hl 1 rfl) ?_
    refine lv_iand hx hb dX3_markAcross_13 ?_
    rcases s_ite hf with ⟨c4, hf⟩ | ⟨c4, hf⟩
    · refine lv_if_eq (tgt := 34) hx hb dX3_markAcross_14 (by decide) (fun _ => ?_) (fun n => absurd c4 n)
      cases hf
      have k : s_V G (d + 1) M_X3_markAcross vs0 σ0 Y_X3_markAcross (34, [.ref v0, .int v1, .int v2], σ) (e_V r) := k
      exact k.2 p e s m below meth c _ _ _ _ _ X I hn.1 hn.2 (lv_sub hl [0, 1, 2] rfl)
    · refine lv_if_eq (tgt := 34) hx hb dX3_markAcross_14 (by decide) (fun n => absurd n c4) (fun _ => ?_)
      obtain ⟨x3, h5, hf⟩ := s_bind hf
      obtain ⟨x4, h6, hf⟩ := s_bind hf
      obtain ⟨x5, h7, hf⟩ := s_bind hf
      obtain ⟨x6, h8, hf⟩ := s_bind hf
      obtain ⟨σ7, h9, hf⟩ := s_bind hf
      cases hf
      have k : s_V G (d + 1) M_X3_markAcross vs0 σ0 Y_X3_markAcross (34, [.ref v0, .int v1, .int v2], σ7) (e_V r) := k
      have le10 : s_le σ7 (e_V r).2 := k.1
      refine lv_aload_n hx hb dX3_markAcross_17 rfl (lv_at hl 0 rfl) ?_
      refine r_gr X I fl_X3_27 h5 dX3_markAcross_18 ?_
      refine lv_iload_n hx hb dX3_markAcross_21 rfl (lv_at hl 2 rfl) ?_
      refine lv_iload_n hx hb dX3_markAcross_22 rfl (lv_at hl 1 rfl) ?_
      refine lv_ixor hx hb dX3_markAcross_23 ?_
      refine lv_dup2_11 hx hb dX3_markAcross_24 rfl rfl ?_
      refine r_lald X I h6 dX3_markAcross_25 ?_
      refine lv_aload_n hx hb dX3_markAcross_26 rfl (lv_at hl 0 rfl) ?_
      refine r_gr X I fl_X3_27 h7 dX3_markAcross_27 ?_
      refine lv_iload_n hx hb dX3_markAcross_30 rfl (lv_at hl 2 rfl) ?_
      refine r_lald X I h8 dX3_markAcross_31 ?_
      refine lv_lor hx hb dX3_markAcross_32 ?_
      refine r_last X I h9 dX3_markAcross_33 (fun H locs I => ?_)
      have hn := s_k2 (s_sl_2 h9) hn
      exact k.2 p e s m below meth c _ _ _ _ _ X I hn.1 hn.2 (lv_sub hl [0, 1, 2] rfl)
set_option maxRecDepth 100000 in
set_option maxHeartbeats 4000000 in
theorem v_X3_markAcross_34 {G : sG} {d : Nat} {vs0 : List Value} {σ0 : sS} {v0 : Nat} {v1 : Int32} {v2 : Int32} {σ : sS} {z : sZ Unit} {r : Unit × sS} (hf : T_X3_markAcross_34 v0 v1 v2 σ = some z) (k : s_K G (d + 1) M_X3_markAcross vs0 σ0 Y_X3_markAcross e_V z r) : s_V G (d + 1) M_X3_markAcross vs0 σ0 Y_X3_markAcross (34, [.ref v0, .int v1, .int v2], σ) (e_V r) := by
  have le0 : s_le σ (e_V r).2 := s_lek hem_V (l_X3_markAcross_34 hf) k
  refine ⟨le0, ?_⟩
  intro p e s m below meth c H locs cells slots ls X I hn1 hn2 hl
  have hn : cells + σ0.2.1 ≤ σ.2.1 ∧ slots + σ0.2.2.1 ≤ σ.2.2.1 := ⟨hn1, hn2⟩
  have hl : lv_has ls 3 [(0, .ref v0), (1, .int v1), (2, .int v2)] := hl
  have hx := X.1
  have hb : c.code = cX3_markAcross := X.2.1
  have hown : s.vm.findClass RX3 = some m.cls := X.2.2.2.2.2.1
  have hts := X.2.2.2.2.2.2.1
  refine W.eq (g2 := F0 m 34 ls []) rfl ?_
  unfold T_X3_markAcross_34 at hf
  cases hf
  have k : s_V G (d + 1) M_X3_markAcross vs0 σ0 Y_X3_markAcross (2, [.ref v0, .int v1, .int (v2 + 1)], σ) (e_V r) := k
  refine lv_iinc (v := (v2 + 1)) (lv' := [(2, .int (v2 + 1)), (0, .ref v0), (1, .int v1)]) hx hb dX3_markAcross_34 hl (k := 2) rfl rfl (by decide) rfl (fun ls hl => ?_)
  refine lv_goto (tgt := 2) hx hb dX3_markAcross_37 (by decide) ?_
  exact k.2 p e s m below meth c _ _ _ _ _ X I hn.1 hn.2 (lv_sub hl [1, 2, 0] rfl)
theorem v_X3_markAcross {G : sG} {d : Nat} {vs0 : List Value} {σ0 : sS} {x : sL} {z : sZ Unit} {r : Unit × sS} (hs : S_X3_markAcross x = some z) (k : s_K G (d + 1) M_X3_markAcross vs0 σ0 Y_X3_markAcross e_V z r) : s_V G (d + 1) M_X3_markAcross vs0 σ0 Y_X3_markAcross x (e_V r) := by
  obtain ⟨pc, vs, σ⟩ := x
  unfold S_X3_markAcross at hs
  dsimp only at hs
  rcases s_ite hs with ⟨c, hs⟩ | ⟨-, hs⟩
  · subst c
    unfold U_X3_markAcross_0 at hs
    obtain ⟨a0, g0, hs⟩ := s_bind hs
    obtain ⟨a1, g1, hs⟩ := s_bind hs
    obtain ⟨u9, ge, hs⟩ := s_bind hs
    rw [g_r_to g0, g_i_to g1, g_e_to ge]
    exact v_X3_markAcross_0 hs k
  rcases s_ite hs with ⟨c, hs⟩ | ⟨-, hs⟩
  · subst c
    unfold U_X3_markAcross_2 at hs
    obtain ⟨a0, g0, hs⟩ := s_bind hs
    obtain ⟨a1, g1, hs⟩ := s_bind hs
    obtain ⟨a2, g2, hs⟩ := s_bind hs
    obtain ⟨u9, ge, hs⟩ := s_bind hs
    rw [g_r_to g0, g_i_to g1, g_i_to g2, g_e_to ge]
    exact v_X3_markAcross_2 hs k
  rcases s_ite hs with ⟨c, hs⟩ | ⟨-, hs⟩
  · subst c
    unfold U_X3_markAcross_34 at hs
    obtain ⟨a0, g0, hs⟩ := s_bind hs
    obtain ⟨a1, g1, hs⟩ := s_bind hs
    obtain ⟨a2, g2, hs⟩ := s_bind hs
    obtain ⟨u9, ge, hs⟩ := s_bind hs
    rw [g_r_to g0, g_i_to g1, g_i_to g2, g_e_to ge]
    exact v_X3_markAcross_34 hs k
  cases hs
theorem t_X3_markAcross {G : sG} {d : Nat} {v0 : Nat} {v1 : Int32} {σ : sS} {q : Unit × sS} (h : F_X3_markAcross v0 v1 σ = some q) : s_T G (d + 1) M_X3_markAcross [.ref v0, .int v1] σ (e_V q) := by
  unfold F_X3_markAcross at h
  obtain ⟨-, -, h⟩ := s_bind h
  exact s_ofV rfl (by decide) (Nat.le_of_ble_eq_true rfl) rfl rfl (s_run_ind (V := fun x r => s_V G (d + 1) M_X3_markAcross [.ref v0, .int v1] σ Y_X3_markAcross x (e_V r)) (fun x z r hs hk => v_X3_markAcross hs (by cases z <;> exact hk)) h)
/-! X3_markTogether -/
noncomputable def T_X3_markTogether_0 (v0 : Nat) (v1 : Int32) (σ : sS) : Option (sZ Unit) :=
  (s_fr σ v0 3 5).bind fun x1 =>
  (F_J7_fill_d0a16 x1 0 σ).bind fun q2 =>
  some (.inl (10, [.ref v0, .int v1, .int 0], q2.2))
noncomputable def U_X3_markTogether_0 (vs : List Value) (σ : sS) : Option (sZ Unit) := (g_r vs).bind fun a0 => (g_i a0.2).bind fun a1 => (g_e a1.2).bind fun _ => T_X3_markTogether_0 a0.1 a1.1 σ
noncomputable def T_X3_markTogether_10 (v0 : Nat) (v1 : Int32) (v2 : Int32) (σ : sS) : Option (sZ Unit) :=
  (s_fr σ v0 3 0).bind fun x1 =>
  (F_X1_worldCount x1 σ).bind fun q2 =>
  if q2.1 ≤ v2 then (some (.inl (54, [.ref v0, .int v1, .int 0], q2.2)))
  else ((F_X3_membersIn v0 v2 v1 q2.2).bind fun q3 =>
  (s_fr q3.2 v0 3 5).bind fun x4 =>
  (s_al q3.2 x4 (q3.1 >>> (6 &&& 31))).bind fun x5 =>
  (s_sl q3.2 x4 (q3.1 >>> (6 &&& 31)) (x5 ||| (1 <<< (((q3.1 &&& 63) : Int32).toInt64 &&& 63)))).bind fun σ6 =>
  some (.inl (10, [.ref v0, .int v1, .int (v2 + 1)], σ6)))
noncomputable def U_X3_markTogether_10 (vs : List Value) (σ : sS) : Option (sZ Unit) := (g_r vs).bind fun a0 => (g_i a0.2).bind fun a1 => (g_i a1.2).bind fun a2 => (g_e a2.2).bind fun _ => T_X3_markTogether_10 a0.1 a1.1 a2.1 σ
noncomputable def T_X3_markTogether_54 (v0 : Nat) (v1 : Int32) (v2 : Int32) (σ : sS) : Option (sZ Unit) :=
  if v1 ≤ v2 then (some (.inr ((), σ)))
  else (if (6 : Int32) ≤ v2 then ((F_X3_markAcross v0 (1 <<< ((v2 - 6) &&& 31)) σ).bind fun q1 =>
  some (.inl (83, [.ref v0, .int v1, .int v2], q1.2)))
  else ((F_X3_markWithin v0 v2 σ).bind fun q2 =>
  some (.inl (83, [.ref v0, .int v1, .int v2], q2.2))))
noncomputable def U_X3_markTogether_54 (vs : List Value) (σ : sS) : Option (sZ Unit) := (g_r vs).bind fun a0 => (g_i a0.2).bind fun a1 => (g_i a1.2).bind fun a2 => (g_e a2.2).bind fun _ => T_X3_markTogether_54 a0.1 a1.1 a2.1 σ
noncomputable def T_X3_markTogether_83 (v0 : Nat) (v1 : Int32) (v2 : Int32) (σ : sS) : Option (sZ Unit) :=
  some (.inl (54, [.ref v0, .int v1, .int (v2 + 1)], σ))
noncomputable def U_X3_markTogether_83 (vs : List Value) (σ : sS) : Option (sZ Unit) := (g_r vs).bind fun a0 => (g_i a0.2).bind fun a1 => (g_i a1.2).bind fun a2 => (g_e a2.2).bind fun _ => T_X3_markTogether_83 a0.1 a1.1 a2.1 σ
noncomputable def S_X3_markTogether (x : sL) : Option (sZ Unit) := if x.1 = 0 then U_X3_markTogether_0 x.2.1 x.2.2 else if x.1 = 10 then U_X3_markTogether_10 x.2.1 x.2.2 else if x.1 = 54 then U_X3_markTogether_54 x.2.1 x.2.2 else if x.1 = 83 then U_X3_markTogether_83 x.2.1 x.2.2 else none
def Y_X3_markTogether (pc : Nat) : List Nat := if pc = 0 then [0, 1] else if pc = 10 then [0, 1, 2] else if pc = 54 then [0, 1, 2] else if pc = 83 then [0, 1, 2] else []
noncomputable def F_X3_markTogether (v0 : Nat) (v1 : Int32) (σ : sS) : Option (Unit × sS) := (s_is σ v0 3).bind fun _ => s_run S_X3_markTogether (0, [.ref v0, .int v1], σ)
theorem l_X3_markTogether_0 {v0 : Nat} {v1 : Int32} {σ : sS} {z : sZ Unit} (hf : T_X3_markTogether_0 v0 v1 σ = some z) : s_lz σ z := by
  unfold T_X3_markTogether_0 at hf
  obtain ⟨x1, -, hf⟩ := s_bind hf
  obtain ⟨q2, hh, hf⟩ := s_bind hf
  refine s_lz.tr (l_J7_fill_d0a16 hh) ?_
  cases hf
  exact s_le.rf
theorem l_X3_markTogether_10 {v0 : Nat} {v1 : Int32} {v2 : Int32} {σ : sS} {z : sZ Unit} (hf : T_X3_markTogether_10 v0 v1 v2 σ = some z) : s_lz σ z := by
  unfold T_X3_markTogether_10 at hf
  obtain ⟨x1, -, hf⟩ := s_bind hf
  obtain ⟨q2, hh, hf⟩ := s_bind hf
  refine s_lz.tr (l_X1_worldCount hh) ?_
  rcases s_ite hf with ⟨-, hf⟩ | ⟨-, hf⟩
  · cases hf
    exact s_le.rf
  · obtain ⟨q3, hh, hf⟩ := s_bind hf
    refine s_lz.tr (l_X3_membersIn hh) ?_
    obtain ⟨x4, -, hf⟩ := s_bind hf
    obtain ⟨x5, -, hf⟩ := s_bind hf
    obtain ⟨σ6, hh, hf⟩ := s_bind hf
    refine s_lz.tr (s_le2 (s_sl_2 hh)) ?_
    cases hf
    exact s_le.rf
theorem l_X3_markTogether_54 {v0 : Nat} {v1 : Int32} {v2 : Int32} {σ : sS} {z : sZ Unit} (hf : T_X3_markTogether_54 v0 v1 v2 σ = some z) : s_lz σ z := by
  unfold T_X3_markTogether_54 at hf
  rcases s_ite hf with ⟨-, hf⟩ | ⟨-, hf⟩
  · cases hf
    exact s_le.rf
  · rcases s_ite hf with ⟨-, hf⟩ | ⟨-, hf⟩
    · obtain ⟨q1, hh, hf⟩ := s_bind hf
      refine s_lz.tr (l_X3_markAcross hh) ?_
      cases hf
      exact s_le.rf
    · obtain ⟨q2, hh, hf⟩ := s_bind hf
      refine s_lz.tr (l_X3_markWithin hh) ?_
      cases hf
      exact s_le.rf
theorem l_X3_markTogether_83 {v0 : Nat} {v1 : Int32} {v2 : Int32} {σ : sS} {z : sZ Unit} (hf : T_X3_markTogether_83 v0 v1 v2 σ = some z) : s_lz σ z := by
  unfold T_X3_markTogether_83 at hf
  cases hf
  exact s_le.rf
theorem l_X3_markTogether_s {x : sL} {z : sZ Unit} (hs : S_X3_markTogether x = some z) : s_lz x.2.2 z := by
  obtain ⟨pc, vs, σ⟩ := x
  unfold S_X3_markTogether at hs
  dsimp only at hs ⊢
  rcases s_ite hs with ⟨c, hs⟩ | ⟨-, hs⟩
  · subst c
    unfold U_X3_markTogether_0 at hs
    obtain ⟨a0, g0, hs⟩ := s_bind hs
    obtain ⟨a1, g1, hs⟩ := s_bind hs
    obtain ⟨u9, ge, hs⟩ := s_bind hs
    exact l_X3_markTogether_0 hs
  rcases s_ite hs with ⟨c, hs⟩ | ⟨-, hs⟩
  · subst c
    unfold U_X3_markTogether_10 at hs
    obtain ⟨a0, g0, hs⟩ := s_bind hs
    obtain ⟨a1, g1, hs⟩ := s_bind hs
    obtain ⟨a2, g2, hs⟩ := s_bind hs
    obtain ⟨u9, ge, hs⟩ := s_bind hs
    exact l_X3_markTogether_10 hs
  rcases s_ite hs with ⟨c, hs⟩ | ⟨-, hs⟩
  · subst c
    unfold U_X3_markTogether_54 at hs
    obtain ⟨a0, g0, hs⟩ := s_bind hs
    obtain ⟨a1, g1, hs⟩ := s_bind hs
    obtain ⟨a2, g2, hs⟩ := s_bind hs
    obtain ⟨u9, ge, hs⟩ := s_bind hs
    exact l_X3_markTogether_54 hs
  rcases s_ite hs with ⟨c, hs⟩ | ⟨-, hs⟩
  · subst c
    unfold U_X3_markTogether_83 at hs
    obtain ⟨a0, g0, hs⟩ := s_bind hs
    obtain ⟨a1, g1, hs⟩ := s_bind hs
    obtain ⟨a2, g2, hs⟩ := s_bind hs
    obtain ⟨u9, ge, hs⟩ := s_bind hs
    exact l_X3_markTogether_83 hs
  cases hs
theorem l_X3_markTogether {v0 : Nat} {v1 : Int32} {σ : sS} {q : Unit × sS} (h : F_X3_markTogether v0 v1 σ = some q) : s_le σ q.2 := by
  unfold F_X3_markTogether at h
  obtain ⟨-, -, h⟩ := s_bind h
  exact s_run_ind (V := fun x r => s_le x.2.2 r.2) (fun x z r hs hk => by
    have h9 := l_X3_markTogether_s hs
    cases z with
    | inl y => exact s_le.tr h9 hk
    | inr q => cases hk; exact h9) h
theorem b_X3_markTogether {v0 : Nat} {v1 : Int32} {σ : sS} {q : Unit × sS} (h : F_X3_markTogether v0 v1 σ = some q) : ∃ fs, σ.1 v0 = some (.inr (3, fs)) := by
  unfold F_X3_markTogether at h
  obtain ⟨u, hu, -⟩ := s_bind h
  exact s_is_to hu
set_option maxRecDepth 100000 in
set_option maxHeartbeats 4000000 in
theorem v_X3_markTogether_0 {G : sG} {d : Nat} {vs0 : List Value} {σ0 : sS} {v0 : Nat} {v1 : Int32} {σ : sS} {z : sZ Unit} {r : Unit × sS} (hf : T_X3_markTogether_0 v0 v1 σ = some z) (k : s_K G (d + 4) M_X3_markTogether vs0 σ0 Y_X3_markTogether e_V z r) : s_V G (d + 4) M_X3_markTogether vs0 σ0 Y_X3_markTogether (0, [.ref v0, .int v1], σ) (e_V r) := by
  have le0 : s_le σ (e_V r).2 := s_lek hem_V (l_X3_markTogether_0 hf) k
  refine ⟨le0, ?_⟩
  intro p e s m below meth c H locs cells slots ls X I hn1 hn2 hl
  have hn : cells + σ0.2.1 ≤ σ.2.1 ∧ slots + σ0.2.2.1 ≤ σ.2.2.1 := ⟨hn1, hn2⟩
  have hl : lv_has ls 4 [(0, .ref v0), (1, .int v1)] := hl
  have hx := X.1
  have hb : c.code = cX3_markTogether := X.2.1
  have hown : s.vm.findClass RX3 = some m.cls := X.2.2.2.2.2.1
  have hts := X.2.2.2.2.2.2.1
  refine W.eq (g2 := F0 m 0 ls []) rfl ?_
  unfold T_X3_markTogether_0 at hf
  obtain ⟨x1, h1, hf⟩ := s_bind hf
  obtain ⟨q2, h2, hf⟩ := s_bind hf
  cases hf
  have k : s_V G (d + 4) M_X3_markTogether vs0 σ0 Y_X3_markTogether (10, [.ref v0, .int v1, .int 0], q2.2) (e_V r) := k
  have le3 : s_le q2.2 (e_V r).2 := k.1
  refine lv_aload_n hx hb dX3_markTogether_0 rfl (lv_at hl 0 rfl) ?_
  refine r_gr X I fl_X3_27 h1 dX3_markTogether_1 ?_
  refine lv_lconst (v := 0) hx hb dX3_markTogether_4 (by decide) ?_
  refine r_callS (Y := M_J7_fill_d0a16) (v := none) X I w_1247 my_J7_fill_d0a16 (by omega) (t_J7_fill_d0a16 (G := G) (d := d + 2) h2) rfl rfl hl.1 rfl (Nat.le_of_ble_eq_true rfl) hn le3 dX3_markTogether_5 (fun H locs cells slots I hn1 hn2 => ?_)
  have I : s_I G q2.2 s H locs := I
  have hn : cells + σ0.2.1 ≤ q2.2.2.1 ∧ slots + σ0.2.2.1 ≤ q2.2.2.2.1 := ⟨hn1, hn2⟩
  refine lv_iconst (v := 0) hx hb dX3_markTogether_8 (by decide) ?_
  refine lv_istore_n (lv' := [(2, .int 0), (0, .ref v0), (1, .int v1)]) hx hb dX3_markTogether_9 rfl hl (by decide) rfl (fun ls hl => ?_)
  exact k.2 p e s m below meth c _ _ _ _ _ X I hn.1 hn.2 (lv_sub hl [1, 2, 0] rfl)
set_option maxRecDepth 100000 in
set_option maxHeartbeats 4000000 in
theorem v_X3_markTogether_10 {G : sG} {d : Nat} {vs0 : List Value} {σ0 : sS} {v0 : Nat} {v1 : Int32} {v2 : Int32} {σ : sS} {z : sZ Unit} {r : Unit × sS} (hf : T_X3_markTogether_10 v0 v1 v2 σ = some z) (k : s_K G (d + 4) M_X3_markTogether vs0 σ0 Y_X3_markTogether e_V z r) : s_V G (d + 4) M_X3_markTogether vs0 σ0 Y_X3_markTogether (10, [.ref v0, .int v1, .int v2], σ) (e_V r) := by
  have le0 : s_le σ (e_V r).2 := s_lek hem_V (l_X3_markTogether_10 hf) k
  refine ⟨le0, ?_⟩
  intro p e s m below meth c H locs cells slots ls X I hn1 hn2 hl
  have hn : cells + σ0.2.1 ≤ σ.2.1 ∧ slots + σ0.2.2.1 ≤ σ.2.2.1 := ⟨hn1, hn2⟩
  have hl : lv_has ls 4 [(0, .ref v0), (1, .int v1), (2, .int v2)] := hl
  have hx := X.1
  have hb : c.code = cX3_markTogether := X.2.1
  have hown : s.vm.findClass RX3 = some m.cls := X.2.2.2.2.2.1
  have hts := X.2.2.2.2.2.2.1
  refine W.eq (g2 := F0 m 10 ls []) rfl ?_
  unfold T_X3_markTogether_10 at hf
  obtain ⟨x1, h1, hf⟩ := s_bind hf
  obtain ⟨q2, h2, hf⟩ := s_bind hf
  have le3 : s_le q2.2 (e_V r).2 := by
    refine s_lek hem_V ?_ k
    rcases s_ite hf with ⟨-, hf⟩ | ⟨-, hf⟩
    · cases hf
      exact s_le.rf
    · obtain ⟨q3, hh, hf⟩ := s_bind hf
      refine s_lz.tr (l_X3_membersIn hh) ?_
      obtain ⟨x4, -, hf⟩ := s_bind hf
      obtain ⟨x5, -, hf⟩ := s_bind hf
      obtain ⟨σ6, hh, hf⟩ := s_bind hf
      refine s_lz.tr (s_le2 (s_sl_2 hh)) ?_
      cases hf
      exact s_le.rf
  refine lv_iload_n hx hb dX3_markTogether_10 rfl (lv_at hl 2 rfl) ?_
  refine lv_aload_n hx hb dX3_markTogether_11 rfl (lv_at hl 0 rfl) ?_
  refine r_gr X I fl_X3_30 h1 dX3_markTogether_12 ?_
  refine r_callV (Y := M_X1_worldCount) (v := some (.int q2.1)) X I w_1480 my_X1_worldCount (by omega) (t_X1_worldCount (G := G) (d := d + 2) h2) (b_X1_worldCount h2) rfl rfl hl.1 rfl (Nat.le_of_ble_eq_true rfl) hn le3 dX3_markTogether_15 (fun H locs cells slots I hn1 hn2 => ?_)
  have I : s_I G q2.2 s H locs := I
  have hn : cells + σ0.2.1 ≤ q2.2.2.1 ∧ slots + σ0.2.2.1 ≤ q2.2.2.2.1 := ⟨hn1, hn2⟩
  rcases s_ite hf with ⟨c4, hf⟩ | ⟨c4, hf⟩
  · refine lv_icmp_ge (tgt := 52) hx hb dX3_markTogether_18 (by decide) (fun _ => ?_) (fun n => absurd c4 n)
    cases hf
    have k : s_V G (d + 4) M_X3_markTogether vs0 σ0 Y_X3_markTogether (54, [.ref v0, .int v1, .int 0], q2.2) (e_V r) := k
    refine lv_iconst (v := 0) hx hb dX3_markTogether_52 (by decide) ?_
    refine lv_istore_n (lv' := [(2, .int 0), (0, .ref v0), (1, .int v1)]) hx hb dX3_markTogether_53 rfl hl (by decide) rfl (fun ls hl => ?_)
    exact k.2 p e s m below meth c _ _ _ _ _ X I hn.1 hn.2 (lv_sub hl [1, 2, 0] rfl)
  · refine lv_icmp_ge (tgt := 52) hx hb dX3_markTogether_18 (by decide) (fun n => absurd n c4) (fun _ => ?_)
    obtain ⟨q3, h5, hf⟩ := s_bind hf
    obtain ⟨x4, h6, hf⟩ := s_bind hf
    obtain ⟨x5, h7, hf⟩ := s_bind hf
    obtain ⟨σ6, h8, hf⟩ := s_bind hf
    cases hf
    have k : s_V G (d + 4) M_X3_markTogether vs0 σ0 Y_X3_markTogether (10, [.ref v0, .int v1, .int (v2 + 1)], σ6) (e_V r) := k
    have le9 : s_le σ6 (e_V r).2 := k.1
    have le10 := s_le.tr (s_le2 (s_sl_2 h8)) le9
    refine lv_aload_n hx hb dX3_markTogether_21 rfl (lv_at hl 0 rfl) ?_
    refine lv_iload_n hx hb dX3_markTogether_22 rfl (lv_at hl 2 rfl) ?_
    refine lv_iload_n hx hb dX3_markTogether_23 rfl (lv_at hl 1 rfl) ?_
    refine r_callV (Y := M_X3_membersIn) (v := some (.int q3.1)) X I w_1481 my_X3_membersIn (by omega) (t_X3_membersIn (G := G) (d := d + 0) h5) (b_X3_membersIn h5) rfl rfl hl.1 rfl (Nat.le_of_ble_eq_true rfl) hn le10 dX3_markTogether_24 (fun H locs cells slots I hn1 hn2 => ?_)
    have I : s_I G q3.2 s H locs := I
    have hn : cells + σ0.2.1 ≤ q3.2.2.1 ∧ slots + σ0.2.2.1 ≤ q3.2.2.2.1 := ⟨hn1, hn2⟩
    refine lv_istore_n (lv' := [(3, .int q3.1), (0, .ref v0), (1, .int v1), (2, .int v2)]) hx hb dX3_markTogether_27 rfl hl (by decide) rfl (fun ls hl => ?_)
    refine lv_aload_n hx hb dX3_markTogether_28 rfl (lv_at hl 1 rfl) ?_
    refine r_gr X I fl_X3_27 h6 dX3_markTogether_29 ?_
    refine lv_iload_n hx hb dX3_markTogether_32 rfl (lv_at hl 0 rfl) ?_
    refine lv_bipush (v := 6) hx hb dX3_markTogether_33 (by decide) ?_
    refine lv_ishr hx hb dX3_markTogether_35 ?_
    refine lv_dup2_11 hx hb dX3_markTogether_36 rfl rfl ?_
    refine r_lald X I h7 dX3_markTogether_37 ?_
    refine lv_lconst (v := 1) hx hb dX3_markTogether_38 (by decide) ?_
    refine lv_iload_n hx hb dX3_markTogether_39 rfl (lv_at hl 0 rfl) ?_
    refine lv_bipush (v := 63) hx hb dX3_markTogether_40 (by decide) ?_
    refine lv_iand hx hb dX3_markTogether_42 ?_
    refine lv_lshl hx hb dX3_markTogether_43 rfl ?_
    refine lv_lor hx hb dX3_markTogether_44 ?_
    refine r_last X I h8 dX3_markTogether_45 (fun H locs I => ?_)
    have hn := s_k2 (s_sl_2 h8) hn
    refine lv_iinc (v := (v2 + 1)) (lv' := [(2, .int (v2 + 1)), (3, .int q3.1), (0, .ref v0), (1, .int v1)]) hx hb dX3_markTogether_46 hl (k := 3) rfl rfl (by decide) rfl (fun ls hl => ?_)
    refine lv_goto (tgt := 10) hx hb dX3_markTogether_49 (by decide) ?_
    exact k.2 p e s m below meth c _ _ _ _ _ X I hn.1 hn.2 (lv_sub hl [2, 3, 0] rfl)
set_option maxRecDepth 100000 in
set_option maxHeartbeats 4000000 in
theorem v_X3_markTogether_54 {G : sG} {d : Nat} {vs0 : List Value} {σ0 : sS} {v0 : Nat} {v1 : Int32} {v2 : Int32} {σ : sS} {z : sZ Unit} {r : Unit × sS} (hf : T_X3_markTogether_54 v0 v1 v2 σ = some z) (k : s_K G (d + 4) M_X3_markTogether vs0 σ0 Y_X3_markTogether e_V z r) : s_V G (d + 4) M_X3_markTogether vs0 σ0 Y_X3_markTogether (54, [.ref v0, .int v1, .int v2], σ) (e_V r) := by
  have le0 : s_le σ (e_V r).2 := s_lek hem_V (l_X3_markTogether_54 hf) k
  refine ⟨le0, ?_⟩
  intro p e s m below meth c H locs cells slots ls X I hn1 hn2 hl
  have hn : cells + σ0.2.1 ≤ σ.2.1 ∧ slots + σ0.2.2.1 ≤ σ.2.2.1 := ⟨hn1, hn2⟩
  have hl : lv_has ls 4 [(0, .ref v0), (1, .int v1), (2, .int v2)] := hl
  have hx := X.1
  have hb : c.code = cX3_markTogether := X.2.1
  have hown : s.vm.findClass RX3 = some m.cls := X.2.2.2.2.2.1
  have hts := X.2.2.2.2.2.2.1
  refine W.eq (g2 := F0 m 54 ls []) rfl ?_
  unfold T_X3_markTogether_54 at hf
  refine lv_iload_n hx hb dX3_markTogether_54 rfl (lv_at hl 2 rfl) ?_
  refine lv_iload_n hx hb dX3_markTogether_55 rfl (lv_at hl 1 rfl) ?_
  rcases s_ite hf with ⟨c1, hf⟩ | ⟨c1, hf⟩
  · refine lv_icmp_ge (tgt := 89) hx hb dX3_markTogether_56 (by decide) (fun _ => ?_) (fun n => absurd c1 n)
    cases hf
    have k : _ = r := k
    subst k
    exact r_vret X I rfl rfl hn dX3_markTogether_89
  · refine lv_icmp_ge (tgt := 89) hx hb dX3_markTogether_56 (by decide) (fun n => absurd n c1) (fun _ => ?_)
    refine lv_iload_n hx hb dX3_markTogether_59 rfl (lv_at hl 2 rfl) ?_
    refine lv_bipush (v := 6) hx hb dX3_markTogether_60 (by decide) ?_
    rcases s_ite hf with ⟨c2, hf⟩ | ⟨c2, hf⟩
    · refine lv_icmp_ge (tgt := 73) hx hb dX3_markTogether_62 (by decide) (fun _ => ?_) (fun n => absurd c2 n)
      obtain ⟨q1, h3, hf⟩ := s_bind hf
      cases hf
      have k : s_V G (d + 4) M_X3_markTogether vs0 σ0 Y_X3_markTogether (83, [.ref v0, .int v1, .int v2], q1.2) (e_V r) := k
      have le4 : s_le q1.2 (e_V r).2 := k.1
      refine lv_aload_n hx hb dX3_markTogether_73 rfl (lv_at hl 0 rfl) ?_
      refine lv_iconst (v := 1) hx hb dX3_markTogether_74 (by decide) ?_
      refine lv_iload_n hx hb dX3_markTogether_75 rfl (lv_at hl 2 rfl) ?_
      refine lv_bipush (v := 6) hx hb dX3_markTogether_76 (by decide) ?_
      refine lv_isub hx hb dX3_markTogether_78 ?_
      refine lv_ishl hx hb dX3_markTogether_79 ?_
      refine r_callV (Y := M_X3_markAcross) (v := none) X I w_1540 my_X3_markAcross (by omega) (t_X3_markAcross (G := G) (d := d + 2) h3) (b_X3_markAcross h3) rfl rfl hl.1 rfl (Nat.le_of_ble_eq_true rfl) hn le4 dX3_markTogether_80 (fun H locs cells slots I hn1 hn2 => ?_)
      have I : s_I G q1.2 s H locs := I
      have hn : cells + σ0.2.1 ≤ q1.2.2.1 ∧ slots + σ0.2.2.1 ≤ q1.2.2.2.1 := ⟨hn1, hn2⟩
      exact k.2 p e s m below meth c _ _ _ _ _ X I hn.1 hn.2 (lv_sub hl [0, 1, 2] rfl)
    · refine lv_icmp_ge (tgt := 73) hx hb dX3_markTogether_62 (by decide) (fun n => absurd n c2) (fun _ => ?_)
      obtain ⟨q2, h5, hf⟩ := s_bind hf
      cases hf
      have k : s_V G (d + 4) M_X3_markTogether vs0 σ0 Y_X3_markTogether (83, [.ref v0, .int v1, .int v2], q2.2) (e_V r) := k
      have le6 : s_le q2.2 (e_V r).2 := k.1
      refine lv_aload_n hx hb dX3_markTogether_65 rfl (lv_at hl 0 rfl) ?_
      refine lv_iload_n hx hb dX3_markTogether_66 rfl (lv_at hl 2 rfl) ?_
      refine r_callV (Y := M_X3_markWithin) (v := none) X I w_1535 my_X3_markWithin (by omega) (t_X3_markWithin (G := G) (d := d + 2) h5) (b_X3_markWithin h5) rfl rfl hl.1 rfl (Nat.le_of_ble_eq_true rfl) hn le6 dX3_markTogether_67 (fun H locs cells slots I hn1 hn2 => ?_)
      have I : s_I G q2.2 s H locs := I
      have hn : cells + σ0.2.1 ≤ q2.2.2.1 ∧ slots + σ0.2.2.1 ≤ q2.2.2.2.1 := ⟨hn1, hn2⟩
      refine lv_goto (tgt := 83) hx hb dX3_markTogether_70 (by decide) ?_
      exact k.2 p e s m below meth c _ _ _ _ _ X I hn.1 hn.2 (lv_sub hl [0, 1, 2] rfl)
set_option maxRecDepth 100000 in
set_option maxHeartbeats 4000000 in
theorem v_X3_markTogether_83 {G : sG} {d : Nat} {vs0 : List Value} {σ0 : sS} {v0 : Nat} {v1 : Int32} {v2 : Int32} {σ : sS} {z : sZ Unit} {r : Unit × sS} (hf : T_X3_markTogether_83 v0 v1 v2 σ = some z) (k : s_K G (d + 4) M_X3_markTogether vs0 σ0 Y_X3_markTogether e_V z r) : s_V G (d + 4) M_X3_markTogether vs0 σ0 Y_X3_markTogether (83, [.ref v0, .int v1, .int v2], σ) (e_V r) := by
  have le0 : s_le σ (e_V r).2 := s_lek hem_V (l_X3_markTogether_83 hf) k
  refine ⟨le0, ?_⟩
  intro p e s m below meth c H locs cells slots ls X I hn1 hn2 hl
  have hn : cells + σ0.2.1 ≤ σ.2.1 ∧ slots + σ0.2.2.1 ≤ σ.2.2.1 := ⟨hn1, hn2⟩
  have hl : lv_has ls 4 [(0, .ref v0), (1, .int v1), (2, .int v2)] := hl
  have hx := X.1
  have hb : c.code = cX3_markTogether := X.2.1
  have hown : s.vm.findClass RX3 = some m.cls := X.2.2.2.2.2.1
  have hts := X.2.2.2.2.2.2.1
  refine W.eq (g2 := F0 m 83 ls []) rfl ?_
  unfold T_X3_markTogether_83 at hf
  cases hf
  have k : s_V G (d + 4) M_X3_markTogether vs0 σ0 Y_X3_markTogether (54, [.ref v0, .int v1, .int (v2 + 1)], σ) (e_V r) := k
  refine lv_iinc (v := (v2 + 1)) (lv' := [(2, .int (v2 + 1)), (0, .ref v0), (1, .int v1)]) hx hb dX3_markTogether_83 hl (k := 2) rfl rfl (by decide) rfl (fun ls hl => ?_)
  refine lv_goto (tgt := 54) hx hb dX3_markTogether_86 (by decide) ?_
  exact k.2 p e s m below meth c _ _ _ _ _ X I hn.1 hn.2 (lv_sub hl [1, 2, 0] rfl)
theorem v_X3_markTogether {G : sG} {d : Nat} {vs0 : List Value} {σ0 : sS} {x : sL} {z : sZ Unit} {r : Unit × sS} (hs : S_X3_markTogether x = some z) (k : s_K G (d + 4) M_X3_markTogether vs0 σ0 Y_X3_markTogether e_V z r) : s_V G (d + 4) M_X3_markTogether vs0 σ0 Y_X3_markTogether x (e_V r) := by
  obtain ⟨pc, vs, σ⟩ := x
  unfold S_X3_markTogether at hs
  dsimp only at hs
  rcases s_ite hs with ⟨c, hs⟩ | ⟨-, hs⟩
  · subst c
    unfold U_X3_markTogether_0 at hs
    obtain ⟨a0, g0, hs⟩ := s_bind hs
    obtain ⟨a1, g1, hs⟩ := s_bind hs
    obtain ⟨u9, ge, hs⟩ := s_bind hs
    rw [g_r_to g0, g_i_to g1, g_e_to ge]
    exact v_X3_markTogether_0 hs k
  rcases s_ite hs with ⟨c, hs⟩ | ⟨-, hs⟩
  · subst c
    unfold U_X3_markTogether_10 at hs
    obtain ⟨a0, g0, hs⟩ := s_bind hs
    obtain ⟨a1, g1, hs⟩ := s_bind hs
    obtain ⟨a2, g2, hs⟩ := s_bind hs
    obtain ⟨u9, ge, hs⟩ := s_bind hs
    rw [g_r_to g0, g_i_to g1, g_i_to g2, g_e_to ge]
    exact v_X3_markTogether_10 hs k
  rcases s_ite hs with ⟨c, hs⟩ | ⟨-, hs⟩
  · subst c
    unfold U_X3_markTogether_54 at hs
    obtain ⟨a0, g0, hs⟩ := s_bind hs
    obtain ⟨a1, g1, hs⟩ := s_bind hs
    obtain ⟨a2, g2, hs⟩ := s_bind hs
    obtain ⟨u9, ge, hs⟩ := s_bind hs
    rw [g_r_to g0, g_i_to g1, g_i_to g2, g_e_to ge]
    exact v_X3_markTogether_54 hs k
  rcases s_ite hs with ⟨c, hs⟩ | ⟨-, hs⟩
  · subst c
    unfold U_X3_markTogether_83 at hs
    obtain ⟨a0, g0, hs⟩ := s_bind hs
    obtain ⟨a1, g1, hs⟩ := s_bind hs
    obtain ⟨a2, g2, hs⟩ := s_bind hs
    obtain ⟨u9, ge, hs⟩ := s_bind hs
    rw [g_r_to g0, g_i_to g1, g_i_to g2, g_e_to ge]
    exact v_X3_markTogether_83 hs k
  cases hs
theorem t_X3_markTogether {G : sG} {d : Nat} {v0 : Nat} {v1 : Int32} {σ : sS} {q : Unit × sS} (h : F_X3_markTogether v0 v1 σ = some q) : s_T G (d + 4) M_X3_markTogether [.ref v0, .int v1] σ (e_V q) := by
  unfold F_X3_markTogether at h
  obtain ⟨-, -, h⟩ := s_bind h
  exact s_ofV rfl (by decide) (Nat.le_of_ble_eq_true rfl) rfl rfl (s_run_ind (V := fun x r => s_V G (d + 4) M_X3_markTogether [.ref v0, .int v1] σ Y_X3_markTogether x (e_V r)) (fun x z r hs hk => v_X3_markTogether hs (by cases z <;> exact hk)) h)
/-! X3_isBetter -/
noncomputable def T_X3_isBetter_0 (v0 : Int32) (v1 : Int32) (σ : sS) : Option (sZ Int32) :=
  (F_J6_bitCount_0f7a4 v0 σ).bind fun q1 =>
  (F_J6_bitCount_0f7a4 v1 q1.2).bind fun q2 =>
  if (q1.1 - q2.1) < 0 then (some (.inr (1, q2.2)))
  else (if (q1.1 - q2.1) = 0 then (if v1 ≤ v0 then (some (.inr (0, q2.2)))
  else (some (.inr (1, q2.2))))
  else (some (.inr (0, q2.2))))
noncomputable def U_X3_isBetter_0 (vs : List Value) (σ : sS) : Option (sZ Int32) := (g_i vs).bind fun a0 => (g_i a0.2).bind fun a1 => (g_e a1.2).bind fun _ => T_X3_isBetter_0 a0.1 a1.1 σ
noncomputable def S_X3_isBetter (x : sL) : Option (sZ Int32) := if x.1 = 0 then U_X3_isBetter_0 x.2.1 x.2.2 else none
def Y_X3_isBetter (pc : Nat) : List Nat := if pc = 0 then [0, 1] else []
noncomputable def F_X3_isBetter (v0 : Int32) (v1 : Int32) (σ : sS) : Option (Int32 × sS) := s_run S_X3_isBetter (0, [.int v0, .int v1], σ)
theorem l_X3_isBetter_0 {v0 : Int32} {v1 : Int32} {σ : sS} {z : sZ Int32} (hf : T_X3_isBetter_0 v0 v1 σ = some z) : s_lz σ z := by
  unfold T_X3_isBetter_0 at hf
  obtain ⟨q1, hh, hf⟩ := s_bind hf
  refine s_lz.tr (l_J6_bitCount_0f7a4 hh) ?_
  obtain ⟨q2, hh, hf⟩ := s_bind hf
  refine s_lz.tr (l_J6_bitCount_0f7a4 hh) ?_
  rcases s_ite hf with ⟨-, hf⟩ | ⟨-, hf⟩
  · cases hf
    exact s_le.rf
  · rcases s_ite hf with ⟨-, hf⟩ | ⟨-, hf⟩
    · rcases s_ite hf with ⟨-, hf⟩ | ⟨-, hf⟩
      · cases hf
        exact s_le.rf
      · cases hf
        exact s_le.rf
    · cases hf
      exact s_le.rf
theorem l_X3_isBetter_s {x : sL} {z : sZ Int32} (hs : S_X3_isBetter x = some z) : s_lz x.2.2 z := by
  obtain ⟨pc, vs, σ⟩ := x
  unfold S_X3_isBetter at hs
  dsimp only at hs ⊢
  rcases s_ite hs with ⟨c, hs⟩ | ⟨-, hs⟩
  · subst c
    unfold U_X3_isBetter_0 at hs
    obtain ⟨a0, g0, hs⟩ := s_bind hs
    obtain ⟨a1, g1, hs⟩ := s_bind hs
    obtain ⟨u9, ge, hs⟩ := s_bind hs
    exact l_X3_isBetter_0 hs
  cases hs
theorem l_X3_isBetter {v0 : Int32} {v1 : Int32} {σ : sS} {q : Int32 × sS} (h : F_X3_isBetter v0 v1 σ = some q) : s_le σ q.2 := by
  unfold F_X3_isBetter at h
  exact s_run_ind (V := fun x r => s_le x.2.2 r.2) (fun x z r hs hk => by
    have h9 := l_X3_isBetter_s hs
    cases z with
    | inl y => exact s_le.tr h9 hk
    | inr q => cases hk; exact h9) h
set_option maxRecDepth 100000 in
set_option maxHeartbeats 4000000 in
theorem v_X3_isBetter_0 {G : sG} {d : Nat} {vs0 : List Value} {σ0 : sS} {v0 : Int32} {v1 : Int32} {σ : sS} {z : sZ Int32} {r : Int32 × sS} (hf : T_X3_isBetter_0 v0 v1 σ = some z) (k : s_K G (d + 2) M_X3_isBetter vs0 σ0 Y_X3_isBetter e_I z r) : s_V G (d + 2) M_X3_isBetter vs0 σ0 Y_X3_isBetter (0, [.int v0, .int v1], σ) (e_I r) := by
  have le0 : s_le σ (e_I r).2 := s_lek hem_I (l_X3_isBetter_0 hf) k
  refine ⟨le0, ?_⟩
  intro p e s m below meth c H locs cells slots ls X I hn1 hn2 hl
  have hn : cells + σ0.2.1 ≤ σ.2.1 ∧ slots + σ0.2.2.1 ≤ σ.2.2.1 := ⟨hn1, hn2⟩
  have hl : lv_has ls 3 [(0, .int v0), (1, .int v1)] := hl
  have hx := X.1
  have hb : c.code = cX3_isBetter := X.2.1
  have hown : s.vm.findClass RX3 = some m.cls := X.2.2.2.2.2.1
  have hts := X.2.2.2.2.2.2.1
  refine W.eq (g2 := F0 m 0 ls []) rfl ?_
  unfold T_X3_isBetter_0 at hf
  obtain ⟨q1, h1, hf⟩ := s_bind hf
  obtain ⟨q2, h2, hf⟩ := s_bind hf
  have le3 : s_le q2.2 (e_I r).2 := by
    refine s_lek hem_I ?_ k
    rcases s_ite hf with ⟨-, hf⟩ | ⟨-, hf⟩
    · cases hf
      exact s_le.rf
    · rcases s_ite hf with ⟨-, hf⟩ | ⟨-, hf⟩
      · rcases s_ite hf with ⟨-, hf⟩ | ⟨-, hf⟩
        · cases hf
          exact s_le.rf
        · cases hf
          exact s_le.rf
      · cases hf
        exact s_le.rf
  have le4 := s_le.tr (l_J6_bitCount_0f7a4 h2) le3
  refine lv_iload_n hx hb dX3_isBetter_0 rfl (lv_at hl 0 rfl) ?_
  refine r_callS (Y := M_J6_bitCount_0f7a4) (v := some (.int q1.1)) X I w_1488 my_J6_bitCount_0f7a4 (by omega) (t_J6_bitCount_0f7a4 (G := G) (d := d + 0) h1) rfl rfl hl.1 rfl (Nat.le_of_ble_eq_true rfl) hn le4 dX3_isBetter_1 (fun H locs cells slots I hn1 hn2 => ?_)
  have I : s_I G q1.2 s H locs := I
  have hn : cells + σ0.2.1 ≤ q1.2.2.1 ∧ slots + σ0.2.2.1 ≤ q1.2.2.2.1 := ⟨hn1, hn2⟩
  refine lv_iload_n hx hb dX3_isBetter_4 rfl (lv_at hl 1 rfl) ?_
  refine r_callS (Y := M_J6_bitCount_0f7a4) (v := some (.int q2.1)) X I w_1488 my_J6_bitCount_0f7a4 (by omega) (t_J6_bitCount_0f7a4 (G := G) (d := d + 0) h2) rfl rfl hl.1 rfl (Nat.le_of_ble_eq_true rfl) hn le3 dX3_isBetter_5 (fun H locs cells slots I hn1 hn2 => ?_)
  have I : s_I G q2.2 s H locs := I
  have hn : cells + σ0.2.1 ≤ q2.2.2.1 ∧ slots + σ0.2.2.1 ≤ q2.2.2.2.1 := ⟨hn1, hn2⟩
  refine lv_isub hx hb dX3_isBetter_8 ?_
  refine lv_istore_n (lv' := [(2, .int (q1.1 - q2.1)), (0, .int v0), (1, .int v1)]) hx hb dX3_isBetter_9 rfl hl (by decide) rfl (fun ls hl => ?_)
  refine lv_iload_n hx hb dX3_isBetter_10 rfl (lv_at hl 0 rfl) ?_
  rcases s_ite hf with ⟨c5, hf⟩ | ⟨c5, hf⟩
  · refine lv_if_lt (tgt := 23) hx hb dX3_isBetter_11 (by decide) (fun _ => ?_) (fun n => absurd c5 n)
    cases hf
    have k : _ = r := k
    subst k
    refine lv_iconst (v := 1) hx hb dX3_isBetter_23 (by decide) ?_
    refine lv_goto (tgt := 28) hx hb dX3_isBetter_24 (by decide) ?_
    exact r_iret X I rfl rfl rfl hn dX3_isBetter_28
  · refine lv_if_lt (tgt := 23) hx hb dX3_isBetter_11 (by decide) (fun n => absurd n c5) (fun _ => ?_)
    refine lv_iload_n hx hb dX3_isBetter_14 rfl (lv_at hl 0 rfl) ?_
    rcases s_ite hf with ⟨c6, hf⟩ | ⟨c6, hf⟩
    · refine lv_if_ne (tgt := 27) hx hb dX3_isBetter_15 (by decide) (fun n => absurd c6 n) (fun _ => ?_)
      refine lv_iload_n hx hb dX3_isBetter_18 rfl (lv_at hl 1 rfl) ?_
      refine lv_iload_n hx hb dX3_isBetter_19 rfl (lv_at hl 2 rfl) ?_
      rcases s_ite hf with ⟨c7, hf⟩ | ⟨c7, hf⟩
      · refine lv_icmp_ge (tgt := 27) hx hb dX3_isBetter_20 (by decide) (fun _ => ?_) (fun n => absurd c7 n)
        cases hf
        have k : _ = r := k
        subst k
        refine lv_iconst (v := 0) hx hb dX3_isBetter_27 (by decide) ?_
        exact r_iret X I rfl rfl rfl hn dX3_isBetter_28
      · refine lv_icmp_ge (tgt := 27) hx hb dX3_isBetter_20 (by decide) (fun n => absurd n c7) (fun _ => ?_)
        cases hf
        have k : _ = r := k
        subst k
        refine lv_iconst (v := 1) hx hb dX3_isBetter_23 (by decide) ?_
        refine lv_goto (tgt := 28) hx hb dX3_isBetter_24 (by decide) ?_
        exact r_iret X I rfl rfl rfl hn dX3_isBetter_28
    · refine lv_if_ne (tgt := 27) hx hb dX3_isBetter_15 (by decide) (fun _ => ?_) (fun n => absurd n c6)
      cases hf
      have k : _ = r := k
      subst k
      refine lv_iconst (v := 0) hx hb dX3_isBetter_27 (by decide) ?_
      exact r_iret X I rfl rfl rfl hn dX3_isBetter_28
theorem v_X3_isBetter {G : sG} {d : Nat} {vs0 : List Value} {σ0 : sS} {x : sL} {z : sZ Int32} {r : Int32 × sS} (hs : S_X3_isBetter x = some z) (k : s_K G (d + 2) M_X3_isBetter vs0 σ0 Y_X3_isBetter e_I z r) : s_V G (d + 2) M_X3_isBetter vs0 σ0 Y_X3_isBetter x (e_I r) := by
  obtain ⟨pc, vs, σ⟩ := x
  unfold S_X3_isBetter at hs
  dsimp only at hs
  rcases s_ite hs with ⟨c, hs⟩ | ⟨-, hs⟩
  · subst c
    unfold U_X3_isBetter_0 at hs
    obtain ⟨a0, g0, hs⟩ := s_bind hs
    obtain ⟨a1, g1, hs⟩ := s_bind hs
    obtain ⟨u9, ge, hs⟩ := s_bind hs
    rw [g_i_to g0, g_i_to g1, g_e_to ge]
    exact v_X3_isBetter_0 hs k
  cases hs
theorem t_X3_isBetter {G : sG} {d : Nat} {v0 : Int32} {v1 : Int32} {σ : sS} {q : Int32 × sS} (h : F_X3_isBetter v0 v1 σ = some q) : s_T G (d + 2) M_X3_isBetter [.int v0, .int v1] σ (e_I q) := by
  unfold F_X3_isBetter at h
  exact s_ofV rfl (by decide) (Nat.le_of_ble_eq_true rfl) rfl rfl (s_run_ind (V := fun x r => s_V G (d + 2) M_X3_isBetter [.int v0, .int v1] σ Y_X3_isBetter x (e_I r)) (fun x z r hs hk => v_X3_isBetter hs (by cases z <;> exact hk)) h)
/-! X3_formulasOf -/
noncomputable def T_X3_formulasOf_0 (v0 : Nat) (v1 : Int32) (σ : sS) : Option (sZ Int32) :=
  some (.inl (4, [.ref v0, .int v1, .int 0, .int 0], σ))
noncomputable def U_X3_formulasOf_0 (vs : List Value) (σ : sS) : Option (sZ Int32) := (g_r vs).bind fun a0 => (g_i a0.2).bind fun a1 => (g_e a1.2).bind fun _ => T_X3_formulasOf_0 a0.1 a1.1 σ
noncomputable def T_X3_formulasOf_4 (v0 : Nat) (v1 : Int32) (v2 : Int32) (v3 : Int32) (σ : sS) : Option (sZ Int32) :=
  if (14 : Int32) ≤ v3 then (some (.inr (v2, σ)))
  else (if ((v1 >>> (v3 &&& 31)) &&& 1) = 0 then (some (.inl (29, [.ref v0, .int v1, .int v2, .int v3], σ)))
  else ((s_fr σ v0 3 4).bind fun x1 =>
  (s_ai σ x1 v3).bind fun x2 =>
  some (.inl (29, [.ref v0, .int v1, .int (v2 ||| (1 <<< (x2 &&& 31))), .int v3], σ))))
noncomputable def U_X3_formulasOf_4 (vs : List Value) (σ : sS) : Option (sZ Int32) := (g_r vs).bind fun a0 => (g_i a0.2).bind fun a1 => (g_i a1.2).bind fun a2 => (g_i a2.2).bind fun a3 => (g_e a3.2).bind fun _ => T_X3_formulasOf_4 a0.1 a1.1 a2.1 a3.1 σ
noncomputable def T_X3_formulasOf_29 (v0 : Nat) (v1 : Int32) (v2 : Int32) (v3 : Int32) (σ : sS) : Option (sZ Int32) :=
  some (.inl (4, [.ref v0, .int v1, .int v2, .int (v3 + 1)], σ))
noncomputable def U_X3_formulasOf_29 (vs : List Value) (σ : sS) : Option (sZ Int32) := (g_r vs).bind fun a0 => (g_i a0.2).bind fun a1 => (g_i a1.2).bind fun a2 => (g_i a2.2).bind fun a3 => (g_e a3.2).bind fun _ => T_X3_formulasOf_29 a0.1 a1.1 a2.1 a3.1 σ
noncomputable def S_X3_formulasOf (x : sL) : Option (sZ Int32) := if x.1 = 0 then U_X3_formulasOf_0 x.2.1 x.2.2 else if x.1 = 4 then U_X3_formulasOf_4 x.2.1 x.2.2 else if x.1 = 29 then U_X3_formulasOf_29 x.2.1 x.2.2 else none
def Y_X3_formulasOf (pc : Nat) : List Nat := if pc = 0 then [0, 1] else if pc = 4 then [0, 1, 2, 3] else if pc = 29 then [0, 1, 2, 3] else []
noncomputable def F_X3_formulasOf (v0 : Nat) (v1 : Int32) (σ : sS) : Option (Int32 × sS) := (s_is σ v0 3).bind fun _ => s_run S_X3_formulasOf (0, [.ref v0, .int v1], σ)
theorem l_X3_formulasOf_0 {v0 : Nat} {v1 : Int32} {σ : sS} {z : sZ Int32} (hf : T_X3_formulasOf_0 v0 v1 σ = some z) : s_lz σ z := by
  unfold T_X3_formulasOf_0 at hf
  cases hf
  exact s_le.rf
theorem l_X3_formulasOf_4 {v0 : Nat} {v1 : Int32} {v2 : Int32} {v3 : Int32} {σ : sS} {z : sZ Int32} (hf : T_X3_formulasOf_4 v0 v1 v2 v3 σ = some z) : s_lz σ z := by
  unfold T_X3_formulasOf_4 at hf
  rcases s_ite hf with ⟨-, hf⟩ | ⟨-, hf⟩
  · cases hf
    exact s_le.rf
  · rcases s_ite hf with ⟨-, hf⟩ | ⟨-, hf⟩
    · cases hf
      exact s_le.rf
    · obtain ⟨x1, -, hf⟩ := s_bind hf
      obtain ⟨x2, -, hf⟩ := s_bind hf
      cases hf
      exact s_le.rf
theorem l_X3_formulasOf_29 {v0 : Nat} {v1 : Int32} {v2 : Int32} {v3 : Int32} {σ : sS} {z : sZ Int32} (hf : T_X3_formulasOf_29 v0 v1 v2 v3 σ = some z) : s_lz σ z := by
  unfold T_X3_formulasOf_29 at hf
  cases hf
  exact s_le.rf
theorem l_X3_formulasOf_s {x : sL} {z : sZ Int32} (hs : S_X3_formulasOf x = some z) : s_lz x.2.2 z := by
  obtain ⟨pc, vs, σ⟩ := x
  unfold S_X3_formulasOf at hs
  dsimp only at hs ⊢
  rcases s_ite hs with ⟨c, hs⟩ | ⟨-, hs⟩
  · subst c
    unfold U_X3_formulasOf_0 at hs
    obtain ⟨a0, g0, hs⟩ := s_bind hs
    obtain ⟨a1, g1, hs⟩ := s_bind hs
    obtain ⟨u9, ge, hs⟩ := s_bind hs
    exact l_X3_formulasOf_0 hs
  rcases s_ite hs with ⟨c, hs⟩ | ⟨-, hs⟩
  · subst c
    unfold U_X3_formulasOf_4 at hs
    obtain ⟨a0, g0, hs⟩ := s_bind hs
    obtain ⟨a1, g1, hs⟩ := s_bind hs
    obtain ⟨a2, g2, hs⟩ := s_bind hs
    obtain ⟨a3, g3, hs⟩ := s_bind hs
    obtain ⟨u9, ge, hs⟩ := s_bind hs
    exact l_X3_formulasOf_4 hs
  rcases s_ite hs with ⟨c, hs⟩ | ⟨-, hs⟩
  · subst c
    unfold U_X3_formulasOf_29 at hs
    obtain ⟨a0, g0, hs⟩ := s_bind hs
    obtain ⟨a1, g1, hs⟩ := s_bind hs
    obtain ⟨a2, g2, hs⟩ := s_bind hs
    obtain ⟨a3, g3, hs⟩ := s_bind hs
    obtain ⟨u9, ge, hs⟩ := s_bind hs
    exact l_X3_formulasOf_29 hs
  cases hs
theorem l_X3_formulasOf {v0 : Nat} {v1 : Int32} {σ : sS} {q : Int32 × sS} (h : F_X3_formulasOf v0 v1 σ = some q) : s_le σ q.2 := by
  unfold F_X3_formulasOf at h
  obtain ⟨-, -, h⟩ := s_bind h
  exact s_run_ind (V := fun x r => s_le x.2.2 r.2) (fun x z r hs hk => by
    have h9 := l_X3_formulasOf_s hs
    cases z with
    | inl y => exact s_le.tr h9 hk
    | inr q => cases hk; exact h9) h
theorem b_X3_formulasOf {v0 : Nat} {v1 : Int32} {σ : sS} {q : Int32 × sS} (h : F_X3_formulasOf v0 v1 σ = some q) : ∃ fs, σ.1 v0 = some (.inr (3, fs)) := by
  unfold F_X3_formulasOf at h
  obtain ⟨u, hu, -⟩ := s_bind h
  exact s_is_to hu
set_option maxRecDepth 100000 in
set_option maxHeartbeats 4000000 in
theorem v_X3_formulasOf_0 {G : sG} {d : Nat} {vs0 : List Value} {σ0 : sS} {v0 : Nat} {v1 : Int32} {σ : sS} {z : sZ Int32} {r : Int32 × sS} (hf : T_X3_formulasOf_0 v0 v1 σ = some z) (k : s_K G (d + 1) M_X3_formulasOf vs0 σ0 Y_X3_formulasOf e_I z r) : s_V G (d + 1) M_X3_formulasOf vs0 σ0 Y_X3_formulasOf (0, [.ref v0, .int v1], σ) (e_I r) := by
  have le0 : s_le σ (e_I r).2 := s_lek hem_I (l_X3_formulasOf_0 hf) k
  refine ⟨le0, ?_⟩
  intro p e s m below meth c H locs cells slots ls X I hn1 hn2 hl
  have hn : cells + σ0.2.1 ≤ σ.2.1 ∧ slots + σ0.2.2.1 ≤ σ.2.2.1 := ⟨hn1, hn2⟩
  have hl : lv_has ls 4 [(0, .ref v0), (1, .int v1)] := hl
  have hx := X.1
  have hb : c.code = cX3_formulasOf := X.2.1
  have hown : s.vm.findClass RX3 = some m.cls := X.2.2.2.2.2.1
  have hts := X.2.2.2.2.2.2.1
  refine W.eq (g2 := F0 m 0 ls []) rfl ?_
  unfold T_X3_formulasOf_0 at hf
  cases hf
  have k : s_V G (d + 1) M_X3_formulasOf vs0 σ0 Y_X3_formulasOf (4, [.ref v0, .int v1, .int 0, .int 0], σ) (e_I r) := k
  refine lv_iconst (v := 0) hx hb dX3_formulasOf_0 (by decide) ?_
  refine lv_istore_n (lv' := [(2, .int 0), (0, .ref v0), (1, .int v1)]) hx hb dX3_formulasOf_1 rfl hl (by decide) rfl (fun ls hl => ?_)
  refine lv_iconst (v := 0) hx hb dX3_formulasOf_2 (by decide) ?_
  refine lv_istore_n (lv' := [(3, .int 0), (2, .int 0), (0, .ref v0), (1, .int v1)]) hx hb dX3_formulasOf_3 rfl hl (by decide) rfl (fun ls hl => ?_)
  exact k.2 p e s m below meth c _ _ _ _ _ X I hn.1 hn.2 (lv_sub hl [2, 3, 1, 0] rfl)
set_option maxRecDepth 100000 in
set_option maxHeartbeats 4000000 in
theorem v_X3_formulasOf_4 {G : sG} {d : Nat} {vs0 : List Value} {σ0 : sS} {v0 : Nat} {v1 : Int32} {v2 : Int32} {v3 : Int32} {σ : sS} {z : sZ Int32} {r : Int32 × sS} (hf : T_X3_formulasOf_4 v0 v1 v2 v3 σ = some z) (k : s_K G (d + 1) M_X3_formulasOf vs0 σ0 Y_X3_formulasOf e_I z r) : s_V G (d + 1) M_X3_formulasOf vs0 σ0 Y_X3_formulasOf (4, [.ref v0, .int v1, .int v2, .int v3], σ) (e_I r) := by
  have le0 : s_le σ (e_I r).2 := s_lek hem_I (l_X3_formulasOf_4 hf) k
  refine ⟨le0, ?_⟩
  intro p e s m below meth c H locs cells slots ls X I hn1 hn2 hl
  have hn : cells + σ0.2.1 ≤ σ.2.1 ∧ slots + σ0.2.2.1 ≤ σ.2.2.1 := ⟨hn1, hn2⟩
  have hl : lv_has ls 4 [(0, .ref v0), (1, .int v1), (2, .int v2), (3, .int v3)] := hl
  have hx := X.1
  have hb : c.code = cX3_formulasOf := X.2.1
  have hown : s.vm.findClass RX3 = some m.cls := X.2.2.2.2.2.1
  have hts := X.2.2.2.2.2.2.1
  refine W.eq (g2 := F0 m 4 ls []) rfl ?_
  unfold T_X3_formulasOf_4 at hf
  refine lv_iload_n hx hb dX3_formulasOf_4 rfl (lv_at hl 3 rfl) ?_
  refine lv_bipush (v := 14) hx hb dX3_formulasOf_5 (by decide) ?_
  rcases s_ite hf with ⟨c1, hf⟩ | ⟨c1, hf⟩
  · refine lv_icmp_ge (tgt := 35) hx hb dX3_formulasOf_7 (by decide) (fun _ => ?_) (fun n => absurd c1 n)
    cases hf
    have k : _ = r := k
    subst k
    refine lv_iload_n hx hb dX3_formulasOf_35 rfl (lv_at hl 2 rfl) ?_
    exact r_iret X I rfl rfl rfl hn dX3_formulasOf_36
  · refine lv_icmp_ge (tgt := 35) hx hb dX3_formulasOf_7 (by decide) (fun n => absurd n c1) (fun _ => ?_)
    refine lv_iload_n hx hb dX3_formulasOf_10 rfl (lv_at hl 1 rfl) ?_
    refine lv_iload_n hx hb dX3_formulasOf_11 rfl (lv_at hl 3 rfl) ?_
    refine lv_ishr hx hb dX3_formulasOf_12 ?_
    refine lv_iconst (v := 1) hx hb dX3_formulasOf_13 (by decide) ?_
    refine lv_iand hx hb dX3_formulasOf_14 ?_
    rcases s_ite hf with ⟨c2, hf⟩ | ⟨c2, hf⟩
    · refine lv_if_eq (tgt := 29) hx hb dX3_formulasOf_15 (by decide) (fun _ => ?_) (fun n => absurd c2 n)
      cases hf
      have k : s_V G (d + 1) M_X3_formulasOf vs0 σ0 Y_X3_formulasOf (29, [.ref v0, .int v1, .int v2, .int v3], σ) (e_I r) := k
      exact k.2 p e s m below meth c _ _ _ _ _ X I hn.1 hn.2 (lv_sub hl [0, 1, 2, 3] rfl)
    · refine lv_if_eq (tgt := 29) hx hb dX3_formulasOf_15 (by decide) (fun n => absurd n c2) (fun _ => ?_)
      obtain ⟨x1, h3, hf⟩ := s_bind hf
      obtain ⟨x2, h4, hf⟩ := s_bind hf
      cases hf
      have k : s_V G (d + 1) M_X3_formulasOf vs0 σ0 Y_X3_formulasOf (29, [.ref v0, .int v1, .int (v2 ||| (1 <<< (x2 &&& 31))), .int v3], σ) (e_I r) := k
      refine lv_iload_n hx hb dX3_formulasOf_18 rfl (lv_at hl 2 rfl) ?_
      refine lv_iconst (v := 1) hx hb dX3_formulasOf_19 (by decide) ?_
      refine lv_aload_n hx hb dX3_formulasOf_20 rfl (lv_at hl 0 rfl) ?_
      refine r_gr X I fl_X3_23 h3 dX3_formulasOf_21 ?_
      refine lv_iload_n hx hb dX3_formulasOf_24 rfl (lv_at hl 3 rfl) ?_
      refine r_iald X I h4 dX3_formulasOf_25 ?_
      refine lv_ishl hx hb dX3_formulasOf_26 ?_
      refine lv_ior hx hb dX3_formulasOf_27 ?_
      refine lv_istore_n (lv' := [(2, .int (v2 ||| (1 <<< (x2 &&& 31)))), (0, .ref v0), (1, .int v1), (3, .int v3)]) hx hb dX3_formulasOf_28 rfl hl (by decide) rfl (fun ls hl => ?_)
      exact k.2 p e s m below meth c _ _ _ _ _ X I hn.1 hn.2 (lv_sub hl [1, 2, 0, 3] rfl)
set_option maxRecDepth 100000 in
set_option maxHeartbeats 4000000 in
theorem v_X3_formulasOf_29 {G : sG} {d : Nat} {vs0 : List Value} {σ0 : sS} {v0 : Nat} {v1 : Int32} {v2 : Int32} {v3 : Int32} {σ : sS} {z : sZ Int32} {r : Int32 × sS} (hf : T_X3_formulasOf_29 v0 v1 v2 v3 σ = some z) (k : s_K G (d + 1) M_X3_formulasOf vs0 σ0 Y_X3_formulasOf e_I z r) : s_V G (d + 1) M_X3_formulasOf vs0 σ0 Y_X3_formulasOf (29, [.ref v0, .int v1, .int v2, .int v3], σ) (e_I r) := by
  have le0 : s_le σ (e_I r).2 := s_lek hem_I (l_X3_formulasOf_29 hf) k
  refine ⟨le0, ?_⟩
  intro p e s m below meth c H locs cells slots ls X I hn1 hn2 hl
  have hn : cells + σ0.2.1 ≤ σ.2.1 ∧ slots + σ0.2.2.1 ≤ σ.2.2.1 := ⟨hn1, hn2⟩
  have hl : lv_has ls 4 [(0, .ref v0), (1, .int v1), (2, .int v2), (3, .int v3)] := hl
  have hx := X.1
  have hb : c.code = cX3_formulasOf := X.2.1
  have hown : s.vm.findClass RX3 = some m.cls := X.2.2.2.2.2.1
  have hts := X.2.2.2.2.2.2.1
  refine W.eq (g2 := F0 m 29 ls []) rfl ?_
  unfold T_X3_formulasOf_29 at hf
  cases hf
  have k : s_V G (d + 1) M_X3_formulasOf vs0 σ0 Y_X3_formulasOf (4, [.ref v0, .int v1, .int v2, .int (v3 + 1)], σ) (e_I r) := k
  refine lv_iinc (v := (v3 + 1)) (lv' := [(3, .int (v3 + 1)), (0, .ref v0), (1, .int v1), (2, .int v2)]) hx hb dX3_formulasOf_29 hl (k := 3) rfl rfl (by decide) rfl (fun ls hl => ?_)
  refine lv_goto (tgt := 4) hx hb dX3_formulasOf_32 (by decide) ?_
  exact k.2 p e s m below meth c _ _ _ _ _ X I hn.1 hn.2 (lv_sub hl [1, 2, 3, 0] rfl)
theorem v_X3_formulasOf {G : sG} {d : Nat} {vs0 : List Value} {σ0 : sS} {x : sL} {z : sZ Int32} {r : Int32 × sS} (hs : S_X3_formulasOf x = some z) (k : s_K G (d + 1) M_X3_formulasOf vs0 σ0 Y_X3_formulasOf e_I z r) : s_V G (d + 1) M_X3_formulasOf vs0 σ0 Y_X3_formulasOf x (e_I r) := by
  obtain ⟨pc, vs, σ⟩ := x
  unfold S_X3_formulasOf at hs
  dsimp only at hs
  rcases s_ite hs with ⟨c, hs⟩ | ⟨-, hs⟩
  · subst c
    unfold U_X3_formulasOf_0 at hs
    obtain ⟨a0, g0, hs⟩ := s_bind hs
    obtain ⟨a1, g1, hs⟩ := s_bind hs
    obtain ⟨u9, ge, hs⟩ := s_bind hs
    rw [g_r_to g0, g_i_to g1, g_e_to ge]
    exact v_X3_formulasOf_0 hs k
  rcases s_ite hs with ⟨c, hs⟩ | ⟨-, hs⟩
  · subst c
    unfold U_X3_formulasOf_4 at hs
    obtain ⟨a0, g0, hs⟩ := s_bind hs
    obtain ⟨a1, g1, hs⟩ := s_bind hs
    obtain ⟨a2, g2, hs⟩ := s_bind hs
    obtain ⟨a3, g3, hs⟩ := s_bind hs
    obtain ⟨u9, ge, hs⟩ := s_bind hs
    rw [g_r_to g0, g_i_to g1, g_i_to g2, g_i_to g3, g_e_to ge]
    exact v_X3_formulasOf_4 hs k
  rcases s_ite hs with ⟨c, hs⟩ | ⟨-, hs⟩
  · subst c
    unfold U_X3_formulasOf_29 at hs
    obtain ⟨a0, g0, hs⟩ := s_bind hs
    obtain ⟨a1, g1, hs⟩ := s_bind hs
    obtain ⟨a2, g2, hs⟩ := s_bind hs
    obtain ⟨a3, g3, hs⟩ := s_bind hs
    obtain ⟨u9, ge, hs⟩ := s_bind hs
    rw [g_r_to g0, g_i_to g1, g_i_to g2, g_i_to g3, g_e_to ge]
    exact v_X3_formulasOf_29 hs k
  cases hs
theorem t_X3_formulasOf {G : sG} {d : Nat} {v0 : Nat} {v1 : Int32} {σ : sS} {q : Int32 × sS} (h : F_X3_formulasOf v0 v1 σ = some q) : s_T G (d + 1) M_X3_formulasOf [.ref v0, .int v1] σ (e_I q) := by
  unfold F_X3_formulasOf at h
  obtain ⟨-, -, h⟩ := s_bind h
  exact s_ofV rfl (by decide) (Nat.le_of_ble_eq_true rfl) rfl rfl (s_run_ind (V := fun x r => s_V G (d + 1) M_X3_formulasOf [.ref v0, .int v1] σ Y_X3_formulasOf x (e_I r)) (fun x z r hs hk => v_X3_formulasOf hs (by cases z <;> exact hk)) h)
