/-! L_falls -/
noncomputable def T_L_falls_0 (v0 : Nat) (v1 : Int32) (v2 : Int32) (v3 : Nat) (σ : sS) : Option (sZ Int32) :=
  (F_X7_falls v0 v1 v2 σ).bind fun q1 => s_sum q1.1 (fun x2 => (s_sl q1.2 v3 0 x2).bind fun σ4 =>
  some (.inr (0, σ4))) (fun E3 => if E3 = "java/lang/IndexOutOfBoundsException" then (some (.inr (1, q1.2))) else none)
noncomputable def U_L_falls_0 (vs : List Value) (σ : sS) : Option (sZ Int32) := (g_r vs).bind fun a0 => (g_i a0.2).bind fun a1 => (g_i a1.2).bind fun a2 => (g_r a2.2).bind fun a3 => (g_e a3.2).bind fun _ => T_L_falls_0 a0.1 a1.1 a2.1 a3.1 σ
noncomputable def S_L_falls (x : sL) : Option (sZ Int32) := if x.1 = 0 then U_L_falls_0 x.2.1 x.2.2 else none
def Y_L_falls (pc : Nat) : List Nat := if pc = 0 then [0, 1, 2, 3] else []
noncomputable def F_L_falls (v0 : Nat) (v1 : Int32) (v2 : Int32) (v3 : Nat) (σ : sS) : Option (Int32 × sS) := s_run S_L_falls (0, [.ref v0, .int v1, .int v2, .ref v3], σ)
theorem l_L_falls_0 {v0 : Nat} {v1 : Int32} {v2 : Int32} {v3 : Nat} {σ : sS} {z : sZ Int32} (hf : T_L_falls_0 v0 v1 v2 v3 σ = some z) : s_lz σ z := by
  unfold T_L_falls_0 at hf
  obtain ⟨q1, hh, hf⟩ := s_bind hf
  refine s_lz.tr (l_X7_falls hh) ?_
  rcases s_sum_some hf with ⟨x2, -, hf⟩ | ⟨E3, -, hf⟩
  · obtain ⟨σ4, hh, hf⟩ := s_bind hf
    refine s_lz.tr (s_le2 (s_sl_2 hh)) ?_
    cases hf
    exact s_le.rf
  · rcases s_ite hf with ⟨-, hf⟩ | ⟨-, hf⟩
    · cases hf
      exact s_le.rf
    cases hf
theorem l_L_falls_s {x : sL} {z : sZ Int32} (hs : S_L_falls x = some z) : s_lz x.2.2 z := by
  obtain ⟨pc, vs, σ⟩ := x
  unfold S_L_falls at hs
  dsimp only at hs ⊢
  rcases s_ite hs with ⟨c, hs⟩ | ⟨-, hs⟩
  · subst c
    unfold U_L_falls_0 at hs
    obtain ⟨a0, g0, hs⟩ := s_bind hs
    obtain ⟨a1, g1, hs⟩ := s_bind hs
    obtain ⟨a2, g2, hs⟩ := s_bind hs
    obtain ⟨a3, g3, hs⟩ := s_bind hs
    obtain ⟨u9, ge, hs⟩ := s_bind hs
    exact l_L_falls_0 hs
  cases hs
theorem l_L_falls {v0 : Nat} {v1 : Int32} {v2 : Int32} {v3 : Nat} {σ : sS} {q : Int32 × sS} (h : F_L_falls v0 v1 v2 v3 σ = some q) : s_le σ q.2 := by
  unfold F_L_falls at h
  exact s_run_ind (V := fun x r => s_le x.2.2 r.2) (fun x z r hs hk => by
    have h9 := l_L_falls_s hs
    cases z with
    | inl y => exact s_le.tr h9 hk
    | inr q => cases hk; exact h9) h
set_option maxRecDepth 100000 in
set_option maxHeartbeats 4000000 in
theorem v_L_falls_0 {G : sG} {d : Nat} {vs0 : List Value} {σ0 : sS} {v0 : Nat} {v1 : Int32} {v2 : Int32} {v3 : Nat} {σ : sS} {z : sZ Int32} {r : Int32 × sS} (hf : T_L_falls_0 v0 v1 v2 v3 σ = some z) (k : s_K G (d + 5) M_L_falls vs0 σ0 Y_L_falls e_I z r) : s_V G (d + 5) M_L_falls vs0 σ0 Y_L_falls (0, [.ref v0, .int v1, .int v2, .ref v3], σ) (e_I r) := by
  have le0 : s_le σ (e_I r).2 := s_lek hem_I (l_L_falls_0 hf) k
  refine ⟨le0, ?_⟩
  intro p e s m below meth c H locs cells slots ls X I hn1 hn2 hl
  have hn : cells + σ0.2.1 ≤ σ.2.1 ∧ slots + σ0.2.2.1 ≤ σ.2.2.1 := ⟨hn1, hn2⟩
  have hl : lv_has ls 5 [(0, .ref v0), (1, .int v1), (2, .int v2), (3, .ref v3)] := hl
  have hx := X.1
  have hb : c.code = cL_falls := X.2.1
  have hown : s.vm.findClass RL = some m.cls := X.2.2.2.2.2.1
  have hts := X.2.2.2.2.2.2.1
  refine W.eq (g2 := F0 m 0 ls []) rfl ?_
  unfold T_L_falls_0 at hf
  obtain ⟨q1, h1, hf⟩ := s_bind hf
  refine lv_aload_n hx hb dL_falls_0 rfl (lv_at hl 3 rfl) ?_
  refine lv_iconst (v := 0) hx hb dL_falls_1 (by decide) ?_
  refine lv_aload_n hx hb dL_falls_2 rfl (lv_at hl 0 rfl) ?_
  refine lv_iload_n hx hb dL_falls_3 rfl (lv_at hl 1 rfl) ?_
  refine lv_iload_n hx hb dL_falls_4 rfl (lv_at hl 2 rfl) ?_
  rcases s_sum_some hf with ⟨x2, hq2, hf⟩ | ⟨E3, hq2, hf⟩
  · have le3 : s_le q1.2 (e_I r).2 := by
      refine s_lek hem_I ?_ k
      obtain ⟨σ4, hh, hf⟩ := s_bind hf
      refine s_lz.tr (s_le2 (s_sl_2 hh)) ?_
      cases hf
      exact s_le.rf
    refine r_callV (Y := M_X7_falls) (v := some (.long x2)) X I w_1225 my_X7_falls (by omega) (t_X7_falls (G := G) (d := d + 0) h1) (b_X7_falls h1) (e_JX_l hq2) rfl hl.1 rfl (Nat.le_of_ble_eq_true rfl) hn le3 dL_falls_5 (fun H locs cells slots I hn1 hn2 => ?_)
    have I : s_I G q1.2 s H locs := I
    have hn : cells + σ0.2.1 ≤ q1.2.2.1 ∧ slots + σ0.2.2.1 ≤ q1.2.2.2.1 := ⟨hn1, hn2⟩
    obtain ⟨σ4, h4, hf⟩ := s_bind hf
    cases hf
    have k : _ = r := k
    subst k
    have le5 : s_le σ4 σ4 := s_le.rf
    refine r_last X I h4 dL_falls_8 (fun H locs I => ?_)
    have hn := s_k2 (s_sl_2 h4) hn
    refine lv_goto (tgt := 16) hx hb dL_falls_9 (by decide) ?_
    refine lv_iconst (v := 0) hx hb dL_falls_16 (by decide) ?_
    exact r_iret X I rfl rfl rfl hn dL_falls_17
  · rcases s_ite hf with ⟨c6, hf⟩ | ⟨c6, hf⟩
    · subst c6
      have le7 : s_le q1.2 (e_I r).2 := by
        refine s_lek hem_I ?_ k
        cases hf
        exact s_le.rf
      refine r_callVh (x := (0, 9, 12, 27)) (Y := M_X7_falls) (E := "java/lang/IndexOutOfBoundsException") (name := "java/lang/IndexOutOfBoundsException") X I [] [] rfl (fun z hz => by cases hz) rfl (by decide) w_1011 (by decide +kernel) w_1225 my_X7_falls (by omega) (t_X7_falls (G := G) (d := d + 0) h1) (b_X7_falls h1) (e_JX_r hq2) rfl hl.1 rfl (Nat.le_of_ble_eq_true rfl) hn le7 dL_falls_5 (fun a5 H locs cells slots I hn1 hn2 => ?_)
      have I : s_I G q1.2 s H locs := I
      have hn : cells + σ0.2.1 ≤ q1.2.2.1 ∧ slots + σ0.2.2.1 ≤ q1.2.2.2.1 := ⟨hn1, hn2⟩
      cases hf
      have k : _ = r := k
      subst k
      refine lv_astore (lv' := [(4, .ref a5), (0, .ref v0), (1, .int v1), (2, .int v2), (3, .ref v3)]) hx hb dL_falls_12 hl (by decide) rfl (fun ls hl => ?_)
      refine lv_iconst (v := 1) hx hb dL_falls_14 (by decide) ?_
      exact r_iret X I rfl rfl rfl hn dL_falls_15
    cases hf
theorem v_L_falls {G : sG} {d : Nat} {vs0 : List Value} {σ0 : sS} {x : sL} {z : sZ Int32} {r : Int32 × sS} (hs : S_L_falls x = some z) (k : s_K G (d + 5) M_L_falls vs0 σ0 Y_L_falls e_I z r) : s_V G (d + 5) M_L_falls vs0 σ0 Y_L_falls x (e_I r) := by
  obtain ⟨pc, vs, σ⟩ := x
  unfold S_L_falls at hs
  dsimp only at hs
  rcases s_ite hs with ⟨c, hs⟩ | ⟨-, hs⟩
  · subst c
    unfold U_L_falls_0 at hs
    obtain ⟨a0, g0, hs⟩ := s_bind hs
    obtain ⟨a1, g1, hs⟩ := s_bind hs
    obtain ⟨a2, g2, hs⟩ := s_bind hs
    obtain ⟨a3, g3, hs⟩ := s_bind hs
    obtain ⟨u9, ge, hs⟩ := s_bind hs
    rw [g_r_to g0, g_i_to g1, g_i_to g2, g_r_to g3, g_e_to ge]
    exact v_L_falls_0 hs k
  cases hs
theorem t_L_falls {G : sG} {d : Nat} {v0 : Nat} {v1 : Int32} {v2 : Int32} {v3 : Nat} {σ : sS} {q : Int32 × sS} (h : F_L_falls v0 v1 v2 v3 σ = some q) : s_T G (d + 5) M_L_falls [.ref v0, .int v1, .int v2, .ref v3] σ (e_I q) := by
  unfold F_L_falls at h
  exact s_ofVH rfl (by decide) (Nat.le_of_ble_eq_true rfl) rfl rfl (s_run_ind (V := fun x r => s_V G (d + 5) M_L_falls [.ref v0, .int v1, .int v2, .ref v3] σ Y_L_falls x (e_I r)) (fun x z r hs hk => v_L_falls hs (by cases z <;> exact hk)) h)
/-! X7_follows -/
noncomputable def T_X7_follows_0 (v0 : Nat) (v1 : Int32) (v2 : Int32) (σ : sS) : Option (sZ (Int32 ⊕ String)) :=
  (F_X7_needCustomer v0 v1 σ).bind fun q1 => s_sum q1.1 (fun x2 => (F_X7_needFormula v0 v2 q1.2).bind fun q4 => s_sum q4.1 (fun x5 => (s_fr q4.2 v0 7 4).bind fun x7 =>
  (s_fr q4.2 v0 7 1).bind fun x8 =>
  (s_fr q4.2 x8 1 5).bind fun x9 =>
  (s_ai q4.2 x9 v1).bind fun x10 =>
  (F_X3_leastBreach x7 x10 v2 q4.2).bind fun q11 =>
  if q11.1 = (-1) then (some (.inr (.inl 1, q11.2)))
  else (some (.inr (.inl 0, q11.2)))) (fun E6 => some (.inr (.inr E6, q4.2)))) (fun E3 => some (.inr (.inr E3, q1.2)))
noncomputable def U_X7_follows_0 (vs : List Value) (σ : sS) : Option (sZ (Int32 ⊕ String)) := (g_r vs).bind fun a0 => (g_i a0.2).bind fun a1 => (g_i a1.2).bind fun a2 => (g_e a2.2).bind fun _ => T_X7_follows_0 a0.1 a1.1 a2.1 σ
noncomputable def S_X7_follows (x : sL) : Option (sZ (Int32 ⊕ String)) := if x.1 = 0 then U_X7_follows_0 x.2.1 x.2.2 else none
def Y_X7_follows (pc : Nat) : List Nat := if pc = 0 then [0, 1, 2] else []
noncomputable def F_X7_follows (v0 : Nat) (v1 : Int32) (v2 : Int32) (σ : sS) : Option ((Int32 ⊕ String) × sS) := (s_is σ v0 7).bind fun _ => s_run S_X7_follows (0, [.ref v0, .int v1, .int v2], σ)
theorem l_X7_follows_0 {v0 : Nat} {v1 : Int32} {v2 : Int32} {σ : sS} {z : sZ (Int32 ⊕ String)} (hf : T_X7_follows_0 v0 v1 v2 σ = some z) : s_lz σ z := by
  unfold T_X7_follows_0 at hf
  obtain ⟨q1, hh, hf⟩ := s_bind hf
  refine s_lz.tr (l_X7_needCustomer hh) ?_
  rcases s_sum_some hf with ⟨x2, -, hf⟩ | ⟨E3, -, hf⟩
  · obtain ⟨q4, hh, hf⟩ := s_bind hf
    refine s_lz.tr (l_X7_needFormula hh) ?_
    rcases s_sum_some hf with ⟨x5, -, hf⟩ | ⟨E6, -, hf⟩
    · obtain ⟨x7, -, hf⟩ := s_bind hf
      obtain ⟨x8, -, hf⟩ := s_bind hf
      obtain ⟨x9, -, hf⟩ := s_bind hf
      obtain ⟨x10, -, hf⟩ := s_bind hf
      obtain ⟨q11, hh, hf⟩ := s_bind hf
      refine s_lz.tr (l_X3_leastBreach hh) ?_
      rcases s_ite hf with ⟨-, hf⟩ | ⟨-, hf⟩
      · cases hf
        exact s_le.rf
      · cases hf
        exact s_le.rf
    · cases hf
      exact s_le.rf
  · cases hf
    exact s_le.rf
theorem l_X7_follows_s {x : sL} {z : sZ (Int32 ⊕ String)} (hs : S_X7_follows x = some z) : s_lz x.2.2 z := by
  obtain ⟨pc, vs, σ⟩ := x
  unfold S_X7_follows at hs
  dsimp only at hs ⊢
  rcases s_ite hs with ⟨c, hs⟩ | ⟨-, hs⟩
  · subst c
    unfold U_X7_follows_0 at hs
    obtain ⟨a0, g0, hs⟩ := s_bind hs
    obtain ⟨a1, g1, hs⟩ := s_bind hs
    obtain ⟨a2, g2, hs⟩ := s_bind hs
    obtain ⟨u9, ge, hs⟩ := s_bind hs
    exact l_X7_follows_0 hs
  cases hs
theorem l_X7_follows {v0 : Nat} {v1 : Int32} {v2 : Int32} {σ : sS} {q : (Int32 ⊕ String) × sS} (h : F_X7_follows v0 v1 v2 σ = some q) : s_le σ q.2 := by
  unfold F_X7_follows at h
  obtain ⟨-, -, h⟩ := s_bind h
  exact s_run_ind (V := fun x r => s_le x.2.2 r.2) (fun x z r hs hk => by
    have h9 := l_X7_follows_s hs
    cases z with
    | inl y => exact s_le.tr h9 hk
    | inr q => cases hk; exact h9) h
theorem b_X7_follows {v0 : Nat} {v1 : Int32} {v2 : Int32} {σ : sS} {q : (Int32 ⊕ String) × sS} (h : F_X7_follows v0 v1 v2 σ = some q) : ∃ fs, σ.1 v0 = some (.inr (7, fs)) := by
  unfold F_X7_follows at h
  obtain ⟨u, hu, -⟩ := s_bind h
  exact s_is_to hu
set_option maxRecDepth 100000 in
set_option maxHeartbeats 4000000 in
theorem v_X7_follows_0 {G : sG} {d : Nat} {vs0 : List Value} {σ0 : sS} {v0 : Nat} {v1 : Int32} {v2 : Int32} {σ : sS} {z : sZ (Int32 ⊕ String)} {r : (Int32 ⊕ String) × sS} (hf : T_X7_follows_0 v0 v1 v2 σ = some z) (k : s_K G (d + 6) M_X7_follows vs0 σ0 Y_X7_follows e_IX z r) : s_V G (d + 6) M_X7_follows vs0 σ0 Y_X7_follows (0, [.ref v0, .int v1, .int v2], σ) (e_IX r) := by
  have le0 : s_le σ (e_IX r).2 := s_lek hem_IX (l_X7_follows_0 hf) k
  refine ⟨le0, ?_⟩
  intro p e s m below meth c H locs cells slots ls X I hn1 hn2 hl
  have hn : cells + σ0.2.1 ≤ σ.2.1 ∧ slots + σ0.2.2.1 ≤ σ.2.2.1 := ⟨hn1, hn2⟩
  have hl : lv_has ls 3 [(0, .ref v0), (1, .int v1), (2, .int v2)] := hl
  have hx := X.1
  have hb : c.code = cX7_follows := X.2.1
  have hown : s.vm.findClass RX7 = some m.cls := X.2.2.2.2.2.1
  have hts := X.2.2.2.2.2.2.1
  refine W.eq (g2 := F0 m 0 ls []) rfl ?_
  unfold T_X7_follows_0 at hf
  obtain ⟨q1, h1, hf⟩ := s_bind hf
  refine lv_aload_n hx hb dX7_follows_0 rfl (lv_at hl 0 rfl) ?_
  refine lv_iload_n hx hb dX7_follows_1 rfl (lv_at hl 1 rfl) ?_
  rcases s_sum_some hf with ⟨x2, hq2, hf⟩ | ⟨E3, hq2, hf⟩
  · have le3 : s_le q1.2 (e_IX r).2 := by
      refine s_lek hem_IX ?_ k
      obtain ⟨q4, hh, hf⟩ := s_bind hf
      refine s_lz.tr (l_X7_needFormula hh) ?_
      rcases s_sum_some hf with ⟨x5, -, hf⟩ | ⟨E6, -, hf⟩
      · obtain ⟨x7, -, hf⟩ := s_bind hf
        obtain ⟨x8, -, hf⟩ := s_bind hf
        obtain ⟨x9, -, hf⟩ := s_bind hf
        obtain ⟨x10, -, hf⟩ := s_bind hf
        obtain ⟨q11, hh, hf⟩ := s_bind hf
        refine s_lz.tr (l_X3_leastBreach hh) ?_
        rcases s_ite hf with ⟨-, hf⟩ | ⟨-, hf⟩
        · cases hf
          exact s_le.rf
        · cases hf
          exact s_le.rf
      · cases hf
        exact s_le.rf
    refine r_callV (Y := M_X7_needCustomer) (v := none) X I w_1115 my_X7_needCustomer (by omega) (t_X7_needCustomer (G := G) (d := d + 4) h1) (b_X7_needCustomer h1) (e_VX_l hq2) rfl hl.1 rfl (Nat.le_of_ble_eq_true rfl) hn le3 dX7_follows_2 (fun H locs cells slots I hn1 hn2 => ?_)
    have I : s_I G q1.2 s H locs := I
    have hn : cells + σ0.2.1 ≤ q1.2.2.1 ∧ slots + σ0.2.2.1 ≤ q1.2.2.2.1 := ⟨hn1, hn2⟩
    obtain ⟨q4, h4, hf⟩ := s_bind hf
    refine lv_aload_n hx hb dX7_follows_5 rfl (lv_at hl 0 rfl) ?_
    refine lv_iload_n hx hb dX7_follows_6 rfl (lv_at hl 2 rfl) ?_
    rcases s_sum_some hf with ⟨x5, hq5, hf⟩ | ⟨E6, hq5, hf⟩
    · have le6 : s_le q4.2 (e_IX r).2 := by
        refine s_lek hem_IX ?_ k
        obtain ⟨x7, -, hf⟩ := s_bind hf
        obtain ⟨x8, -, hf⟩ := s_bind hf
        obtain ⟨x9, -, hf⟩ := s_bind hf
        obtain ⟨x10, -, hf⟩ := s_bind hf
        obtain ⟨q11, hh, hf⟩ := s_bind hf
        refine s_lz.tr (l_X3_leastBreach hh) ?_
        rcases s_ite hf with ⟨-, hf⟩ | ⟨-, hf⟩
        · cases hf
          exact s_le.rf
        · cases hf
          exact s_le.rf
      refine r_callV (Y := M_X7_needFormula) (v := none) X I w_1016 my_X7_needFormula (by omega) (t_X7_needFormula (G := G) (d := d + 4) h4) (b_X7_needFormula h4) (e_VX_l hq5) rfl hl.1 rfl (Nat.le_of_ble_eq_true rfl) hn le6 dX7_follows_7 (fun H locs cells slots I hn1 hn2 => ?_)
      have I : s_I G q4.2 s H locs := I
      have hn : cells + σ0.2.1 ≤ q4.2.2.1 ∧ slots + σ0.2.2.1 ≤ q4.2.2.2.1 := ⟨hn1, hn2⟩
      obtain ⟨x7, h7, hf⟩ := s_bind hf
      obtain ⟨x8, h8, hf⟩ := s_bind hf
      obtain ⟨x9, h9, hf⟩ := s_bind hf
      obtain ⟨x10, h10, hf⟩ := s_bind hf
      obtain ⟨q11, h11, hf⟩ := s_bind hf
      have le12 : s_le q11.2 (e_IX r).2 := by
        refine s_lek hem_IX ?_ k
        rcases s_ite hf with ⟨-, hf⟩ | ⟨-, hf⟩
        · cases hf
          exact s_le.rf
        · cases hf
          exact s_le.rf
      refine lv_aload_n hx hb dX7_follows_10 rfl (lv_at hl 0 rfl) ?_
      refine r_gr X I fl_X7_40 h7 dX7_follows_11 ?_
      refine lv_aload_n hx hb dX7_follows_14 rfl (lv_at hl 0 rfl) ?_
      refine r_gr X I fl_X7_19 h8 dX7_follows_15 ?_
      refine r_gr X I fl_X7_174 h9 dX7_follows_18 ?_
      refine lv_iload_n hx hb dX7_follows_21 rfl (lv_at hl 1 rfl) ?_
      refine r_iald X I h10 dX7_follows_22 ?_
      refine lv_iload_n hx hb dX7_follows_23 rfl (lv_at hl 2 rfl) ?_
      refine r_callV (Y := M_X3_leastBreach) (v := some (.int q11.1)) X I w_1238 my_X3_leastBreach (by omega) (t_X3_leastBreach (G := G) (d := d + 0) h11) (b_X3_leastBreach h11) rfl rfl hl.1 rfl (Nat.le_of_ble_eq_true rfl) hn le12 dX7_follows_24 (fun H locs cells slots I hn1 hn2 => ?_)
      have I : s_I G q11.2 s H locs := I
      have hn : cells + σ0.2.1 ≤ q11.2.2.1 ∧ slots + σ0.2.2.1 ≤ q11.2.2.2.1 := ⟨hn1, hn2⟩
      refine lv_iconst (v := (-1)) hx hb dX7_follows_27 (by decide) ?_
      rcases s_ite hf with ⟨c13, hf⟩ | ⟨c13, hf⟩
      · refine lv_icmp_ne (tgt := 35) hx hb dX7_follows_28 (by decide) (fun n => absurd c13 n) (fun _ => ?_)
        cases hf
        have k : _ = r := k
        subst k
        refine lv_iconst (v := 1) hx hb dX7_follows_31 (by decide) ?_
        refine lv_goto (tgt := 36) hx hb dX7_follows_32 (by decide) ?_
        exact r_iret X I rfl rfl rfl hn dX7_follows_36
      · refine lv_icmp_ne (tgt := 35) hx hb dX7_follows_28 (by decide) (fun _ => ?_) (fun n => absurd n c13)
        cases hf
        have k : _ = r := k
        subst k
        refine lv_iconst (v := 0) hx hb dX7_follows_35 (by decide) ?_
        exact r_iret X I rfl rfl rfl hn dX7_follows_36
    · cases hf
      have k : _ = r := k
      subst k
      exact r_callVx (Y := M_X7_needFormula) X I rfl w_1016 my_X7_needFormula (by omega) (t_X7_needFormula (G := G) (d := d + 4) h4) (b_X7_needFormula h4) (e_VX_r hq5) rfl hl.1 rfl (Nat.le_of_ble_eq_true rfl) hn rfl dX7_follows_7
  · cases hf
    have k : _ = r := k
    subst k
    exact r_callVx (Y := M_X7_needCustomer) X I rfl w_1115 my_X7_needCustomer (by omega) (t_X7_needCustomer (G := G) (d := d + 4) h1) (b_X7_needCustomer h1) (e_VX_r hq2) rfl hl.1 rfl (Nat.le_of_ble_eq_true rfl) hn rfl dX7_follows_2
theorem v_X7_follows {G : sG} {d : Nat} {vs0 : List Value} {σ0 : sS} {x : sL} {z : sZ (Int32 ⊕ String)} {r : (Int32 ⊕ String) × sS} (hs : S_X7_follows x = some z) (k : s_K G (d + 6) M_X7_follows vs0 σ0 Y_X7_follows e_IX z r) : s_V G (d + 6) M_X7_follows vs0 σ0 Y_X7_follows x (e_IX r) := by
  obtain ⟨pc, vs, σ⟩ := x
  unfold S_X7_follows at hs
  dsimp only at hs
  rcases s_ite hs with ⟨c, hs⟩ | ⟨-, hs⟩
  · subst c
    unfold U_X7_follows_0 at hs
    obtain ⟨a0, g0, hs⟩ := s_bind hs
    obtain ⟨a1, g1, hs⟩ := s_bind hs
    obtain ⟨a2, g2, hs⟩ := s_bind hs
    obtain ⟨u9, ge, hs⟩ := s_bind hs
    rw [g_r_to g0, g_i_to g1, g_i_to g2, g_e_to ge]
    exact v_X7_follows_0 hs k
  cases hs
theorem t_X7_follows {G : sG} {d : Nat} {v0 : Nat} {v1 : Int32} {v2 : Int32} {σ : sS} {q : (Int32 ⊕ String) × sS} (h : F_X7_follows v0 v1 v2 σ = some q) : s_T G (d + 6) M_X7_follows [.ref v0, .int v1, .int v2] σ (e_IX q) := by
  unfold F_X7_follows at h
  obtain ⟨-, -, h⟩ := s_bind h
  exact s_ofV rfl (by decide) (Nat.le_of_ble_eq_true rfl) rfl rfl (s_run_ind (V := fun x r => s_V G (d + 6) M_X7_follows [.ref v0, .int v1, .int v2] σ Y_X7_follows x (e_IX r)) (fun x z r hs hk => v_X7_follows hs (by cases z <;> exact hk)) h)
/-! L_follows -/
noncomputable def T_L_follows_0 (v0 : Nat) (v1 : Int32) (v2 : Int32) (v3 : Nat) (σ : sS) : Option (sZ Int32) :=
  (F_X7_follows v0 v1 v2 σ).bind fun q1 => s_sum q1.1 (fun x2 => if x2 = 0 then (some (.inl (16, [.long 0, .int 0, .ref v3], q1.2)))
  else (some (.inl (16, [.long 1, .int 0, .ref v3], q1.2)))) (fun E3 => if E3 = "java/lang/IndexOutOfBoundsException" then (some (.inr (1, q1.2))) else none)
noncomputable def U_L_follows_0 (vs : List Value) (σ : sS) : Option (sZ Int32) := (g_r vs).bind fun a0 => (g_i a0.2).bind fun a1 => (g_i a1.2).bind fun a2 => (g_r a2.2).bind fun a3 => (g_e a3.2).bind fun _ => T_L_follows_0 a0.1 a1.1 a2.1 a3.1 σ
noncomputable def T_L_follows_16 (w0 : Int64) (w1 : Int32) (w2 : Nat) (σ : sS) : Option (sZ Int32) :=
  (s_sl σ w2 w1 w0).bind fun σ1 =>
  some (.inr (0, σ1))
noncomputable def U_L_follows_16 (vs : List Value) (σ : sS) : Option (sZ Int32) := (g_l vs).bind fun a0 => (g_i a0.2).bind fun a1 => (g_r a1.2).bind fun a2 => (g_e a2.2).bind fun _ => T_L_follows_16 a0.1 a1.1 a2.1 σ
noncomputable def S_L_follows (x : sL) : Option (sZ Int32) := if x.1 = 0 then U_L_follows_0 x.2.1 x.2.2 else if x.1 = 16 then U_L_follows_16 x.2.1 x.2.2 else none
def Y_L_follows (pc : Nat) : List Nat := if pc = 0 then [0, 1, 2, 3] else if pc = 16 then [] else []
noncomputable def F_L_follows (v0 : Nat) (v1 : Int32) (v2 : Int32) (v3 : Nat) (σ : sS) : Option (Int32 × sS) := s_run S_L_follows (0, [.ref v0, .int v1, .int v2, .ref v3], σ)
theorem l_L_follows_0 {v0 : Nat} {v1 : Int32} {v2 : Int32} {v3 : Nat} {σ : sS} {z : sZ Int32} (hf : T_L_follows_0 v0 v1 v2 v3 σ = some z) : s_lz σ z := by
  unfold T_L_follows_0 at hf
  obtain ⟨q1, hh, hf⟩ := s_bind hf
  refine s_lz.tr (l_X7_follows hh) ?_
  rcases s_sum_some hf with ⟨x2, -, hf⟩ | ⟨E3, -, hf⟩
  · rcases s_ite hf with ⟨-, hf⟩ | ⟨-, hf⟩
    · cases hf
      exact s_le.rf
    · cases hf
      exact s_le.rf
  · rcases s_ite hf with ⟨-, hf⟩ | ⟨-, hf⟩
    · cases hf
      exact s_le.rf
    cases hf
theorem l_L_follows_16 {w0 : Int64} {w1 : Int32} {w2 : Nat} {σ : sS} {z : sZ Int32} (hf : T_L_follows_16 w0 w1 w2 σ = some z) : s_lz σ z := by
  unfold T_L_follows_16 at hf
  obtain ⟨σ1, hh, hf⟩ := s_bind hf
  refine s_lz.tr (s_le2 (s_sl_2 hh)) ?_
  cases hf
  exact s_le.rf
theorem l_L_follows_s {x : sL} {z : sZ Int32} (hs : S_L_follows x = some z) : s_lz x.2.2 z := by
  obtain ⟨pc, vs, σ⟩ := x
  unfold S_L_follows at hs
  dsimp only at hs ⊢
  rcases s_ite hs with ⟨c, hs⟩ | ⟨-, hs⟩
  · subst c
    unfold U_L_follows_0 at hs
    obtain ⟨a0, g0, hs⟩ := s_bind hs
    obtain ⟨a1, g1, hs⟩ := s_bind hs
    obtain ⟨a2, g2, hs⟩ := s_bind hs
    obtain ⟨a3, g3, hs⟩ := s_bind hs
    obtain ⟨u9, ge, hs⟩ := s_bind hs
    exact l_L_follows_0 hs
  rcases s_ite hs with ⟨c, hs⟩ | ⟨-, hs⟩
  · subst c
    unfold U_L_follows_16 at hs
    obtain ⟨a0, g0, hs⟩ := s_bind hs
    obtain ⟨a1, g1, hs⟩ := s_bind hs
    obtain ⟨a2, g2, hs⟩ := s_bind hs
    obtain ⟨u9, ge, hs⟩ := s_bind hs
    exact l_L_follows_16 hs
  cases hs
theorem l_L_follows {v0 : Nat} {v1 : Int32} {v2 : Int32} {v3 : Nat} {σ : sS} {q : Int32 × sS} (h : F_L_follows v0 v1 v2 v3 σ = some q) : s_le σ q.2 := by
  unfold F_L_follows at h
  exact s_run_ind (V := fun x r => s_le x.2.2 r.2) (fun x z r hs hk => by
    have h9 := l_L_follows_s hs
    cases z with
    | inl y => exact s_le.tr h9 hk
    | inr q => cases hk; exact h9) h
set_option maxRecDepth 100000 in
set_option maxHeartbeats 4000000 in
theorem v_L_follows_0 {G : sG} {d : Nat} {vs0 : List Value} {σ0 : sS} {v0 : Nat} {v1 : Int32} {v2 : Int32} {v3 : Nat} {σ : sS} {z : sZ Int32} {r : Int32 × sS} (hf : T_L_follows_0 v0 v1 v2 v3 σ = some z) (k : s_K G (d + 7) M_L_follows vs0 σ0 Y_L_follows e_I z r) : s_V G (d + 7) M_L_follows vs0 σ0 Y_L_follows (0, [.ref v0, .int v1, .int v2, .ref v3], σ) (e_I r) := by
  have le0 : s_le σ (e_I r).2 := s_lek hem_I (l_L_follows_0 hf) k
  refine ⟨le0, ?_⟩
  intro p e s m below meth c H locs cells slots ls X I hn1 hn2 hl
  have hn : cells + σ0.2.1 ≤ σ.2.1 ∧ slots + σ0.2.2.1 ≤ σ.2.2.1 := ⟨hn1, hn2⟩
  have hl : lv_has ls 5 [(0, .ref v0), (1, .int v1), (2, .int v2), (3, .ref v3)] := hl
  have hx := X.1
  have hb : c.code = cL_follows := X.2.1
  have hown : s.vm.findClass RL = some m.cls := X.2.2.2.2.2.1
  have hts := X.2.2.2.2.2.2.1
  refine W.eq (g2 := F0 m 0 ls []) rfl ?_
  unfold T_L_follows_0 at hf
  obtain ⟨q1, h1, hf⟩ := s_bind hf
  refine lv_aload_n hx hb dL_follows_0 rfl (lv_at hl 3 rfl) ?_
  refine lv_iconst (v := 0) hx hb dL_follows_1 (by decide) ?_
  refine lv_aload_n hx hb dL_follows_2 rfl (lv_at hl 0 rfl) ?_
  refine lv_iload_n hx hb dL_follows_3 rfl (lv_at hl 1 rfl) ?_
  refine lv_iload_n hx hb dL_follows_4 rfl (lv_at hl 2 rfl) ?_
  rcases s_sum_some hf with ⟨x2, hq2, hf⟩ | ⟨E3, hq2, hf⟩
  · have le3 : s_le q1.2 (e_I r).2 := by
      refine s_lek hem_I ?_ k
      rcases s_ite hf with ⟨-, hf⟩ | ⟨-, hf⟩
      · cases hf
        exact s_le.rf
      · cases hf
        exact s_le.rf
    refine r_callV (Y := M_X7_follows) (v := some (.int x2)) X I w_1234 my_X7_follows (by omega) (t_X7_follows (G := G) (d := d + 0) h1) (b_X7_follows h1) (e_IX_l hq2) rfl hl.1 rfl (Nat.le_of_ble_eq_true rfl) hn le3 dL_follows_5 (fun H locs cells slots I hn1 hn2 => ?_)
    have I : s_I G q1.2 s H locs := I
    have hn : cells + σ0.2.1 ≤ q1.2.2.1 ∧ slots + σ0.2.2.1 ≤ q1.2.2.2.1 := ⟨hn1, hn2⟩
    rcases s_ite hf with ⟨c4, hf⟩ | ⟨c4, hf⟩
    · refine lv_if_eq (tgt := 15) hx hb dL_follows_8 (by decide) (fun _ => ?_) (fun n => absurd c4 n)
      cases hf
      have k : s_V G (d + 7) M_L_follows vs0 σ0 Y_L_follows (16, [.long 0, .int 0, .ref v3], q1.2) (e_I r) := k
      refine lv_lconst (v := 0) hx hb dL_follows_15 (by decide) ?_
      exact k.2 p e s m below meth c _ _ _ _ _ X I hn.1 hn.2 (lv_sub hl [] rfl)
    · refine lv_if_eq (tgt := 15) hx hb dL_follows_8 (by decide) (fun n => absurd n c4) (fun _ => ?_)
      cases hf
      have k : s_V G (d + 7) M_L_follows vs0 σ0 Y_L_follows (16, [.long 1, .int 0, .ref v3], q1.2) (e_I r) := k
      refine lv_lconst (v := 1) hx hb dL_follows_11 (by decide) ?_
      refine lv_goto (tgt := 16) hx hb dL_follows_12 (by decide) ?_
      exact k.2 p e s m below meth c _ _ _ _ _ X I hn.1 hn.2 (lv_sub hl [] rfl)
  · rcases s_ite hf with ⟨c5, hf⟩ | ⟨c5, hf⟩
    · subst c5
      have le6 : s_le q1.2 (e_I r).2 := by
        refine s_lek hem_I ?_ k
        cases hf
        exact s_le.rf
      refine r_callVh (x := (0, 17, 20, 27)) (Y := M_X7_follows) (E := "java/lang/IndexOutOfBoundsException") (name := "java/lang/IndexOutOfBoundsException") X I [] [] rfl (fun z hz => by cases hz) rfl (by decide) w_1011 (by decide +kernel) w_1234 my_X7_follows (by omega) (t_X7_follows (G := G) (d := d + 0) h1) (b_X7_follows h1) (e_IX_r hq2) rfl hl.1 rfl (Nat.le_of_ble_eq_true rfl) hn le6 dL_follows_5 (fun a4 H locs cells slots I hn1 hn2 => ?_)
      have I : s_I G q1.2 s H locs := I
      have hn : cells + σ0.2.1 ≤ q1.2.2.1 ∧ slots + σ0.2.2.1 ≤ q1.2.2.2.1 := ⟨hn1, hn2⟩
      cases hf
      have k : _ = r := k
      subst k
      refine lv_astore (lv' := [(4, .ref a4), (0, .ref v0), (1, .int v1), (2, .int v2), (3, .ref v3)]) hx hb dL_follows_20 hl (by decide) rfl (fun ls hl => ?_)
      refine lv_iconst (v := 1) hx hb dL_follows_22 (by decide) ?_
      exact r_iret X I rfl rfl rfl hn dL_follows_23
    cases hf
set_option maxRecDepth 100000 in
set_option maxHeartbeats 4000000 in
theorem v_L_follows_16 {G : sG} {d : Nat} {vs0 : List Value} {σ0 : sS} {w0 : Int64} {w1 : Int32} {w2 : Nat} {σ : sS} {z : sZ Int32} {r : Int32 × sS} (hf : T_L_follows_16 w0 w1 w2 σ = some z) (k : s_K G (d + 7) M_L_follows vs0 σ0 Y_L_follows e_I z r) : s_V G (d + 7) M_L_follows vs0 σ0 Y_L_follows (16, [.long w0, .int w1, .ref w2], σ) (e_I r) := by
  have le0 : s_le σ (e_I r).2 := s_lek hem_I (l_L_follows_16 hf) k
  refine ⟨le0, ?_⟩
  intro p e s m below meth c H locs cells slots ls X I hn1 hn2 hl
  have hn : cells + σ0.2.1 ≤ σ.2.1 ∧ slots + σ0.2.2.1 ≤ σ.2.2.1 := ⟨hn1, hn2⟩
  have hl : lv_has ls 5 [] := hl
  have hx := X.1
  have hb : c.code = cL_follows := X.2.1
  have hown : s.vm.findClass RL = some m.cls := X.2.2.2.2.2.1
  have hts := X.2.2.2.2.2.2.1
  refine W.eq (g2 := F0 m 16 ls [.long w0, .int w1, .ref w2]) rfl ?_
  unfold T_L_follows_16 at hf
  obtain ⟨σ1, h1, hf⟩ := s_bind hf
  cases hf
  have k : _ = r := k
  subst k
  have le2 : s_le σ1 σ1 := s_le.rf
  refine r_last X I h1 dL_follows_16 (fun H locs I => ?_)
  have hn := s_k2 (s_sl_2 h1) hn
  refine lv_goto (tgt := 24) hx hb dL_follows_17 (by decide) ?_
  refine lv_iconst (v := 0) hx hb dL_follows_24 (by decide) ?_
  exact r_iret X I rfl rfl rfl hn dL_follows_25
theorem v_L_follows {G : sG} {d : Nat} {vs0 : List Value} {σ0 : sS} {x : sL} {z : sZ Int32} {r : Int32 × sS} (hs : S_L_follows x = some z) (k : s_K G (d + 7) M_L_follows vs0 σ0 Y_L_follows e_I z r) : s_V G (d + 7) M_L_follows vs0 σ0 Y_L_follows x (e_I r) := by
  obtain ⟨pc, vs, σ⟩ := x
  unfold S_L_follows at hs
  dsimp only at hs
  rcases s_ite hs with ⟨c, hs⟩ | ⟨-, hs⟩
  · subst c
    unfold U_L_follows_0 at hs
    obtain ⟨a0, g0, hs⟩ := s_bind hs
    obtain ⟨a1, g1, hs⟩ := s_bind hs
    obtain ⟨a2, g2, hs⟩ := s_bind hs
    obtain ⟨a3, g3, hs⟩ := s_bind hs
    obtain ⟨u9, ge, hs⟩ := s_bind hs
    rw [g_r_to g0, g_i_to g1, g_i_to g2, g_r_to g3, g_e_to ge]
    exact v_L_follows_0 hs k
  rcases s_ite hs with ⟨c, hs⟩ | ⟨-, hs⟩
  · subst c
    unfold U_L_follows_16 at hs
    obtain ⟨a0, g0, hs⟩ := s_bind hs
    obtain ⟨a1, g1, hs⟩ := s_bind hs
    obtain ⟨a2, g2, hs⟩ := s_bind hs
    obtain ⟨u9, ge, hs⟩ := s_bind hs
    rw [g_l_to g0, g_i_to g1, g_r_to g2, g_e_to ge]
    exact v_L_follows_16 hs k
  cases hs
theorem t_L_follows {G : sG} {d : Nat} {v0 : Nat} {v1 : Int32} {v2 : Int32} {v3 : Nat} {σ : sS} {q : Int32 × sS} (h : F_L_follows v0 v1 v2 v3 σ = some q) : s_T G (d + 7) M_L_follows [.ref v0, .int v1, .int v2, .ref v3] σ (e_I q) := by
  unfold F_L_follows at h
  exact s_ofVH rfl (by decide) (Nat.le_of_ble_eq_true rfl) rfl rfl (s_run_ind (V := fun x r => s_V G (d + 7) M_L_follows [.ref v0, .int v1, .int v2, .ref v3] σ Y_L_follows x (e_I r)) (fun x z r hs hk => v_L_follows hs (by cases z <;> exact hk)) h)
/-! X5_byteAt -/
noncomputable def T_X5_byteAt_0 (v0 : Nat) (v1 : Int32) (σ : sS) : Option (sZ Int32) :=
  if v1 < 0 then (some (.inr ((-1), σ)))
  else ((s_fi σ v0 5 0).bind fun x1 =>
  if x1 ≤ v1 then (some (.inr ((-1), σ)))
  else (if (400 : Int32) ≤ v1 then (some (.inr ((-1), σ)))
  else ((s_fr σ v0 5 3).bind fun x2 =>
  (s_ab σ x2 v1).bind fun x3 =>
  some (.inr ((x3 &&& 255), σ)))))
noncomputable def U_X5_byteAt_0 (vs : List Value) (σ : sS) : Option (sZ Int32) := (g_r vs).bind fun a0 => (g_i a0.2).bind fun a1 => (g_e a1.2).bind fun _ => T_X5_byteAt_0 a0.1 a1.1 σ
noncomputable def S_X5_byteAt (x : sL) : Option (sZ Int32) := if x.1 = 0 then U_X5_byteAt_0 x.2.1 x.2.2 else none
def Y_X5_byteAt (pc : Nat) : List Nat := if pc = 0 then [0, 1] else []
noncomputable def F_X5_byteAt (v0 : Nat) (v1 : Int32) (σ : sS) : Option (Int32 × sS) := (s_is σ v0 5).bind fun _ => s_run S_X5_byteAt (0, [.ref v0, .int v1], σ)
theorem l_X5_byteAt_0 {v0 : Nat} {v1 : Int32} {σ : sS} {z : sZ Int32} (hf : T_X5_byteAt_0 v0 v1 σ = some z) : s_lz σ z := by
  unfold T_X5_byteAt_0 at hf
  rcases s_ite hf with ⟨-, hf⟩ | ⟨-, hf⟩
  · cases hf
    exact s_le.rf
  · obtain ⟨x1, -, hf⟩ := s_bind hf
    rcases s_ite hf with ⟨-, hf⟩ | ⟨-, hf⟩
    · cases hf
      exact s_le.rf
    · rcases s_ite hf with ⟨-, hf⟩ | ⟨-, hf⟩
      · cases hf
        exact s_le.rf
      · obtain ⟨x2, -, hf⟩ := s_bind hf
        obtain ⟨x3, -, hf⟩ := s_bind hf
        cases hf
        exact s_le.rf
theorem l_X5_byteAt_s {x : sL} {z : sZ Int32} (hs : S_X5_byteAt x = some z) : s_lz x.2.2 z := by
  obtain ⟨pc, vs, σ⟩ := x
  unfold S_X5_byteAt at hs
  dsimp only at hs ⊢
  rcases s_ite hs with ⟨c, hs⟩ | ⟨-, hs⟩
  · subst c
    unfold U_X5_byteAt_0 at hs
    obtain ⟨a0, g0, hs⟩ := s_bind hs
    obtain ⟨a1, g1, hs⟩ := s_bind hs
    obtain ⟨u9, ge, hs⟩ := s_bind hs
    exact l_X5_byteAt_0 hs
  cases hs
theorem l_X5_byteAt {v0 : Nat} {v1 : Int32} {σ : sS} {q : Int32 × sS} (h : F_X5_byteAt v0 v1 σ = some q) : s_le σ q.2 := by
  unfold F_X5_byteAt at h
  obtain ⟨-, -, h⟩ := s_bind h
  exact s_run_ind (V := fun x r => s_le x.2.2 r.2) (fun x z r hs hk => by
    have h9 := l_X5_byteAt_s hs
    cases z with
    | inl y => exact s_le.tr h9 hk
    | inr q => cases hk; exact h9) h
theorem b_X5_byteAt {v0 : Nat} {v1 : Int32} {σ : sS} {q : Int32 × sS} (h : F_X5_byteAt v0 v1 σ = some q) : ∃ fs, σ.1 v0 = some (.inr (5, fs)) := by
  unfold F_X5_byteAt at h
  obtain ⟨u, hu, -⟩ := s_bind h
  exact s_is_to hu
set_option maxRecDepth 100000 in
set_option maxHeartbeats 4000000 in
theorem v_X5_byteAt_0 {G : sG} {d : Nat} {vs0 : List Value} {σ0 : sS} {v0 : Nat} {v1 : Int32} {σ : sS} {z : sZ Int32} {r : Int32 × sS} (hf : T_X5_byteAt_0 v0 v1 σ = some z) (k : s_K G (d + 1) M_X5_byteAt vs0 σ0 Y_X5_byteAt e_I z r) : s_V G (d + 1) M_X5_byteAt vs0 σ0 Y_X5_byteAt (0, [.ref v0, .int v1], σ) (e_I r) := by
  have le0 : s_le σ (e_I r).2 := s_lek hem_I (l_X5_byteAt_0 hf) k
  refine ⟨le0, ?_⟩
  intro p e s m below meth c H locs cells slots ls X I hn1 hn2 hl
  have hn : cells + σ0.2.1 ≤ σ.2.1 ∧ slots + σ0.2.2.1 ≤ σ.2.2.1 := ⟨hn1, hn2⟩
  have hl : lv_has ls 2 [(0, .ref v0), (1, .int v1)] := hl
  have hx := X.1
  have hb : c.code = cX5_byteAt := X.2.1
  have hown : s.vm.findClass RX5 = some m.cls := X.2.2.2.2.2.1
  have hts := X.2.2.2.2.2.2.1
  refine W.eq (g2 := F0 m 0 ls []) rfl ?_
  unfold T_X5_byteAt_0 at hf
  refine lv_iload_n hx hb dX5_byteAt_0 rfl (lv_at hl 1 rfl) ?_
  rcases s_ite hf with ⟨c1, hf⟩ | ⟨c1, hf⟩
  · refine lv_if_lt (tgt := 32) hx hb dX5_byteAt_1 (by decide) (fun _ => ?_) (fun n => absurd c1 n)
    cases hf
    have k : _ = r := k
    subst k
    refine lv_iconst (v := (-1)) hx hb dX5_byteAt_32 (by decide) ?_
    exact r_iret X I rfl rfl rfl hn dX5_byteAt_33
  · refine lv_if_lt (tgt := 32) hx hb dX5_byteAt_1 (by decide) (fun n => absurd n c1) (fun _ => ?_)
    obtain ⟨x1, h2, hf⟩ := s_bind hf
    refine lv_iload_n hx hb dX5_byteAt_4 rfl (lv_at hl 1 rfl) ?_
    refine lv_aload_n hx hb dX5_byteAt_5 rfl (lv_at hl 0 rfl) ?_
    refine r_gi X I fl_X5_23 h2 dX5_byteAt_6 ?_
    rcases s_ite hf with ⟨c3, hf⟩ | ⟨c3, hf⟩
    · refine lv_icmp_ge (tgt := 32) hx hb dX5_byteAt_9 (by decide) (fun _ => ?_) (fun n => absurd c3 n)
      cases hf
      have k : _ = r := k
      subst k
      refine lv_iconst (v := (-1)) hx hb dX5_byteAt_32 (by decide) ?_
      exact r_iret X I rfl rfl rfl hn dX5_byteAt_33
    · refine lv_icmp_ge (tgt := 32) hx hb dX5_byteAt_9 (by decide) (fun n => absurd n c3) (fun _ => ?_)
      refine lv_iload_n hx hb dX5_byteAt_12 rfl (lv_at hl 1 rfl) ?_
      refine lv_sipush (v := 400) hx hb dX5_byteAt_13 (by decide) ?_
      rcases s_ite hf with ⟨c4, hf⟩ | ⟨c4, hf⟩
      · refine lv_icmp_ge (tgt := 32) hx hb dX5_byteAt_16 (by decide) (fun _ => ?_) (fun n => absurd c4 n)
        cases hf
        have k : _ = r := k
        subst k
        refine lv_iconst (v := (-1)) hx hb dX5_byteAt_32 (by decide) ?_
        exact r_iret X I rfl rfl rfl hn dX5_byteAt_33
      · refine lv_icmp_ge (tgt := 32) hx hb dX5_byteAt_16 (by decide) (fun n => absurd n c4) (fun _ => ?_)
        obtain ⟨x2, h5, hf⟩ := s_bind hf
        obtain ⟨x3, h6, hf⟩ := s_bind hf
        cases hf
        have k : _ = r := k
        subst k
        refine lv_aload_n hx hb dX5_byteAt_19 rfl (lv_at hl 0 rfl) ?_
        refine r_gr X I fl_X5_15 h5 dX5_byteAt_20 ?_
        refine lv_iload_n hx hb dX5_byteAt_23 rfl (lv_at hl 1 rfl) ?_
        refine r_bald X I h6 dX5_byteAt_24 ?_
        refine lv_sipush (v := 255) hx hb dX5_byteAt_25 (by decide) ?_
        refine lv_iand hx hb dX5_byteAt_28 ?_
        refine lv_goto (tgt := 33) hx hb dX5_byteAt_29 (by decide) ?_
        exact r_iret X I rfl rfl rfl hn dX5_byteAt_33
theorem v_X5_byteAt {G : sG} {d : Nat} {vs0 : List Value} {σ0 : sS} {x : sL} {z : sZ Int32} {r : Int32 × sS} (hs : S_X5_byteAt x = some z) (k : s_K G (d + 1) M_X5_byteAt vs0 σ0 Y_X5_byteAt e_I z r) : s_V G (d + 1) M_X5_byteAt vs0 σ0 Y_X5_byteAt x (e_I r) := by
  obtain ⟨pc, vs, σ⟩ := x
  unfold S_X5_byteAt at hs
  dsimp only at hs
  rcases s_ite hs with ⟨c, hs⟩ | ⟨-, hs⟩
  · subst c
    unfold U_X5_byteAt_0 at hs
    obtain ⟨a0, g0, hs⟩ := s_bind hs
    obtain ⟨a1, g1, hs⟩ := s_bind hs
    obtain ⟨u9, ge, hs⟩ := s_bind hs
    rw [g_r_to g0, g_i_to g1, g_e_to ge]
    exact v_X5_byteAt_0 hs k
  cases hs
theorem t_X5_byteAt {G : sG} {d : Nat} {v0 : Nat} {v1 : Int32} {σ : sS} {q : Int32 × sS} (h : F_X5_byteAt v0 v1 σ = some q) : s_T G (d + 1) M_X5_byteAt [.ref v0, .int v1] σ (e_I q) := by
  unfold F_X5_byteAt at h
  obtain ⟨-, -, h⟩ := s_bind h
  exact s_ofV rfl (by decide) (Nat.le_of_ble_eq_true rfl) rfl rfl (s_run_ind (V := fun x r => s_V G (d + 1) M_X5_byteAt [.ref v0, .int v1] σ Y_X5_byteAt x (e_I r)) (fun x z r hs hk => v_X5_byteAt hs (by cases z <;> exact hk)) h)
/-! X5_peek -/
noncomputable def T_X5_peek_0 (v0 : Nat) (σ : sS) : Option (sZ Int32) :=
  some (.inl (2, [.ref v0, .int 0], σ))
noncomputable def U_X5_peek_0 (vs : List Value) (σ : sS) : Option (sZ Int32) := (g_r vs).bind fun a0 => (g_e a0.2).bind fun _ => T_X5_peek_0 a0.1 σ
noncomputable def T_X5_peek_2 (v0 : Nat) (v1 : Int32) (σ : sS) : Option (sZ Int32) :=
  if (400 : Int32) ≤ v1 then (some (.inl (38, [.ref v0], σ)))
  else ((s_fi σ v0 5 4).bind fun x1 =>
  (F_X5_byteAt v0 x1 σ).bind fun q2 =>
  if q2.1 = 32 then ((s_fi q2.2 v0 5 4).bind fun x3 =>
  (s_pf q2.2 v0 5 4 (.int (x3 + 1))).bind fun σ4 =>
  some (.inl (2, [.ref v0, .int (v1 + 1)], σ4)))
  else (some (.inl (38, [.ref v0], q2.2))))
noncomputable def U_X5_peek_2 (vs : List Value) (σ : sS) : Option (sZ Int32) := (g_r vs).bind fun a0 => (g_i a0.2).bind fun a1 => (g_e a1.2).bind fun _ => T_X5_peek_2 a0.1 a1.1 σ
noncomputable def T_X5_peek_38 (v0 : Nat) (σ : sS) : Option (sZ Int32) :=
  (s_fi σ v0 5 1).bind fun x1 =>
  if x1 = (-1) then ((s_fi σ v0 5 4).bind fun x2 =>
  (F_X5_byteAt v0 x2 σ).bind fun q3 =>
  some (.inr (q3.1, q3.2)))
  else (some (.inr ((-1), σ)))
noncomputable def U_X5_peek_38 (vs : List Value) (σ : sS) : Option (sZ Int32) := (g_r vs).bind fun a0 => (g_e a0.2).bind fun _ => T_X5_peek_38 a0.1 σ
noncomputable def S_X5_peek (x : sL) : Option (sZ Int32) := if x.1 = 0 then U_X5_peek_0 x.2.1 x.2.2 else if x.1 = 2 then U_X5_peek_2 x.2.1 x.2.2 else if x.1 = 38 then U_X5_peek_38 x.2.1 x.2.2 else none
def Y_X5_peek (pc : Nat) : List Nat := if pc = 0 then [0] else if pc = 2 then [0, 1] else if pc = 38 then [0] else []
noncomputable def F_X5_peek (v0 : Nat) (σ : sS) : Option (Int32 × sS) := (s_is σ v0 5).bind fun _ => s_run S_X5_peek (0, [.ref v0], σ)
theorem l_X5_peek_0 {v0 : Nat} {σ : sS} {z : sZ Int32} (hf : T_X5_peek_0 v0 σ = some z) : s_lz σ z := by
  unfold T_X5_peek_0 at hf
  cases hf
  exact s_le.rf
theorem l_X5_peek_2 {v0 : Nat} {v1 : Int32} {σ : sS} {z : sZ Int32} (hf : T_X5_peek_2 v0 v1 σ = some z) : s_lz σ z := by
  unfold T_X5_peek_2 at hf
  rcases s_ite hf with ⟨-, hf⟩ | ⟨-, hf⟩
  · cases hf
    exact s_le.rf
  · obtain ⟨x1, -, hf⟩ := s_bind hf
    obtain ⟨q2, hh, hf⟩ := s_bind hf
    refine s_lz.tr (l_X5_byteAt hh) ?_
    rcases s_ite hf with ⟨-, hf⟩ | ⟨-, hf⟩
    · obtain ⟨x3, -, hf⟩ := s_bind hf
      obtain ⟨σ4, hh, hf⟩ := s_bind hf
      refine s_lz.tr (s_le2 (s_pf_2 hh)) ?_
      cases hf
      exact s_le.rf
    · cases hf
      exact s_le.rf
theorem l_X5_peek_38 {v0 : Nat} {σ : sS} {z : sZ Int32} (hf : T_X5_peek_38 v0 σ = some z) : s_lz σ z := by
  unfold T_X5_peek_38 at hf
  obtain ⟨x1, -, hf⟩ := s_bind hf
  rcases s_ite hf with ⟨-, hf⟩ | ⟨-, hf⟩
  · obtain ⟨x2, -, hf⟩ := s_bind hf
    obtain ⟨q3, hh, hf⟩ := s_bind hf
    refine s_lz.tr (l_X5_byteAt hh) ?_
    cases hf
    exact s_le.rf
  · cases hf
    exact s_le.rf
theorem l_X5_peek_s {x : sL} {z : sZ Int32} (hs : S_X5_peek x = some z) : s_lz x.2.2 z := by
  obtain ⟨pc, vs, σ⟩ := x
  unfold S_X5_peek at hs
  dsimp only at hs ⊢
  rcases s_ite hs with ⟨c, hs⟩ | ⟨-, hs⟩
  · subst c
    unfold U_X5_peek_0 at hs
    obtain ⟨a0, g0, hs⟩ := s_bind hs
    obtain ⟨u9, ge, hs⟩ := s_bind hs
    exact l_X5_peek_0 hs
  rcases s_ite hs with ⟨c, hs⟩ | ⟨-, hs⟩
  · subst c
    unfold U_X5_peek_2 at hs
    obtain ⟨a0, g0, hs⟩ := s_bind hs
    obtain ⟨a1, g1, hs⟩ := s_bind hs
    obtain ⟨u9, ge, hs⟩ := s_bind hs
    exact l_X5_peek_2 hs
  rcases s_ite hs with ⟨c, hs⟩ | ⟨-, hs⟩
  · subst c
    unfold U_X5_peek_38 at hs
    obtain ⟨a0, g0, hs⟩ := s_bind hs
    obtain ⟨u9, ge, hs⟩ := s_bind hs
    exact l_X5_peek_38 hs
  cases hs
theorem l_X5_peek {v0 : Nat} {σ : sS} {q : Int32 × sS} (h : F_X5_peek v0 σ = some q) : s_le σ q.2 := by
  unfold F_X5_peek at h
  obtain ⟨-, -, h⟩ := s_bind h
  exact s_run_ind (V := fun x r => s_le x.2.2 r.2) (fun x z r hs hk => by
    have h9 := l_X5_peek_s hs
    cases z with
    | inl y => exact s_le.tr h9 hk
    | inr q => cases hk; exact h9) h
theorem b_X5_peek {v0 : Nat} {σ : sS} {q : Int32 × sS} (h : F_X5_peek v0 σ = some q) : ∃ fs, σ.1 v0 = some (.inr (5, fs)) := by
  unfold F_X5_peek at h
  obtain ⟨u, hu, -⟩ := s_bind h
  exact s_is_to hu
set_option maxRecDepth 100000 in
set_option maxHeartbeats 4000000 in
theorem v_X5_peek_0 {G : sG} {d : Nat} {vs0 : List Value} {σ0 : sS} {v0 : Nat} {σ : sS} {z : sZ Int32} {r : Int32 × sS} (hf : T_X5_peek_0 v0 σ = some z) (k : s_K G (d + 2) M_X5_peek vs0 σ0 Y_X5_peek e_I z r) : s_V G (d + 2) M_X5_peek vs0 σ0 Y_X5_peek (0, [.ref v0], σ) (e_I r) := by
  have le0 : s_le σ (e_I r).2 := s_lek hem_I (l_X5_peek_0 hf) k
  refine ⟨le0, ?_⟩
  intro p e s m below meth c H locs cells slots ls X I hn1 hn2 hl
  have hn : cells + σ0.2.1 ≤ σ.2.1 ∧ slots + σ0.2.2.1 ≤ σ.2.2.1 := ⟨hn1, hn2⟩
  have hl : lv_has ls 2 [(0, .ref v0)] := hl
  have hx := X.1
  have hb : c.code = cX5_peek := X.2.1
  have hown : s.vm.findClass RX5 = some m.cls := X.2.2.2.2.2.1
  have hts := X.2.2.2.2.2.2.1
  refine W.eq (g2 := F0 m 0 ls []) rfl ?_
  unfold T_X5_peek_0 at hf
  cases hf
  have k : s_V G (d + 2) M_X5_peek vs0 σ0 Y_X5_peek (2, [.ref v0, .int 0], σ) (e_I r) := k
  refine lv_iconst (v := 0) hx hb dX5_peek_0 (by decide) ?_
  refine lv_istore_n (lv' := [(1, .int 0), (0, .ref v0)]) hx hb dX5_peek_1 rfl hl (by decide) rfl (fun ls hl => ?_)
  exact k.2 p e s m below meth c _ _ _ _ _ X I hn.1 hn.2 (lv_sub hl [1, 0] rfl)
set_option maxRecDepth 100000 in
set_option maxHeartbeats 4000000 in
theorem v_X5_peek_2 {G : sG} {d : Nat} {vs0 : List Value} {σ0 : sS} {v0 : Nat} {v1 : Int32} {σ : sS} {z : sZ Int32} {r : Int32 × sS} (hf : T_X5_peek_2 v0 v1 σ = some z) (k : s_K G (d + 2) M_X5_peek vs0 σ0 Y_X5_peek e_I z r) : s_V G (d + 2) M_X5_peek vs0 σ0 Y_X5_peek (2, [.ref v0, .int v1], σ) (e_I r) := by
  have le0 : s_le σ (e_I r).2 := s_lek hem_I (l_X5_peek_2 hf) k
  refine ⟨le0, ?_⟩
  intro p e s m below meth c H locs cells slots ls X I hn1 hn2 hl
  have hn : cells + σ0.2.1 ≤ σ.2.1 ∧ slots + σ0.2.2.1 ≤ σ.2.2.1 := ⟨hn1, hn2⟩
  have hl : lv_has ls 2 [(0, .ref v0), (1, .int v1)] := hl
  have hx := X.1
  have hb : c.code = cX5_peek := X.2.1
  have hown : s.vm.findClass RX5 = some m.cls := X.2.2.2.2.2.1
  have hts := X.2.2.2.2.2.2.1
  refine W.eq (g2 := F0 m 2 ls []) rfl ?_
  unfold T_X5_peek_2 at hf
  refine lv_iload_n hx hb dX5_peek_2 rfl (lv_at hl 1 rfl) ?_
  refine lv_sipush (v := 400) hx hb dX5_peek_3 (by decide) ?_
  rcases s_ite hf with ⟨c1, hf⟩ | ⟨c1, hf⟩
  · refine lv_icmp_ge (tgt := 38) hx hb dX5_peek_6 (by decide) (fun _ => ?_) (fun n => absurd c1 n)
    cases hf
    have k : s_V G (d + 2) M_X5_peek vs0 σ0 Y_X5_peek (38, [.ref v0], σ) (e_I r) := k
    exact k.2 p e s m below meth c _ _ _ _ _ X I hn.1 hn.2 (lv_sub hl [0] rfl)
  · refine lv_icmp_ge (tgt := 38) hx hb dX5_peek_6 (by decide) (fun n => absurd n c1) (fun _ => ?_)
    obtain ⟨x1, h2, hf⟩ := s_bind hf
    obtain ⟨q2, h3, hf⟩ := s_bind hf
    have le4 : s_le q2.2 (e_I r).2 := by
      refine s_lek hem_I ?_ k
      rcases s_ite hf with ⟨-, hf⟩ | ⟨-, hf⟩
      · obtain ⟨x3, -, hf⟩ := s_bind hf
        obtain ⟨σ4, hh, hf⟩ := s_bind hf
        refine s_lz.tr (s_le2 (s_pf_2 hh)) ?_
        cases hf
        exact s_le.rf
      · cases hf
        exact s_le.rf
    refine lv_aload_n hx hb dX5_peek_9 rfl (lv_at hl 0 rfl) ?_
    refine lv_aload_n hx hb dX5_peek_10 rfl (lv_at hl 0 rfl) ?_
    refine r_gi X I fl_X5_29 h2 dX5_peek_11 ?_
    refine r_callV (Y := M_X5_byteAt) (v := some (.int q2.1)) X I w_721 my_X5_byteAt (by omega) (t_X5_byteAt (G := G) (d := d + 0) h3) (b_X5_byteAt h3) rfl rfl hl.1 rfl (Nat.le_of_ble_eq_true rfl) hn le4 dX5_peek_14 (fun H locs cells slots I hn1 hn2 => ?_)
    have I : s_I G q2.2 s H locs := I
    have hn : cells + σ0.2.1 ≤ q2.2.2.1 ∧ slots + σ0.2.2.1 ≤ q2.2.2.2.1 := ⟨hn1, hn2⟩
    refine lv_bipush (v := 32) hx hb dX5_peek_17 (by decide) ?_
    rcases s_ite hf with ⟨c5, hf⟩ | ⟨c5, hf⟩
    · refine lv_icmp_ne (tgt := 38) hx hb dX5_peek_19 (by decide) (fun n => absurd c5 n) (fun _ => ?_)
      obtain ⟨x3, h6, hf⟩ := s_bind hf
      obtain ⟨σ4, h7, hf⟩ := s_bind hf
      cases hf
      have k : s_V G (d + 2) M_X5_peek vs0 σ0 Y_X5_peek (2, [.ref v0, .int (v1 + 1)], σ4) (e_I r) := k
      have le8 : s_le σ4 (e_I r).2 := k.1
      refine lv_aload_n hx hb dX5_peek_22 rfl (lv_at hl 0 rfl) ?_
      refine lv_dup hx hb dX5_peek_23 rfl ?_
      refine r_gi X I fl_X5_29 h6 dX5_peek_24 ?_
      refine lv_iconst (v := 1) hx hb dX5_peek_27 (by decide) ?_
      refine lv_iadd hx hb dX5_peek_28 ?_
      refine r_put X I fp_X5_29 (fun h => by cases h) h7 rfl rfl dX5_peek_29 (fun H locs I => ?_)
      have hn := s_k2 (s_pf_2 h7) hn
      refine lv_iinc (v := (v1 + 1)) (lv' := [(1, .int (v1 + 1)), (0, .ref v0)]) hx hb dX5_peek_32 hl (k := 1) rfl rfl (by decide) rfl (fun ls hl => ?_)
      refine lv_goto (tgt := 2) hx hb dX5_peek_35 (by decide) ?_
      exact k.2 p e s m below meth c _ _ _ _ _ X I hn.1 hn.2 (lv_sub hl [1, 0] rfl)
    · refine lv_icmp_ne (tgt := 38) hx hb dX5_peek_19 (by decide) (fun _ => ?_) (fun n => absurd n c5)
      cases hf
      have k : s_V G (d + 2) M_X5_peek vs0 σ0 Y_X5_peek (38, [.ref v0], q2.2) (e_I r) := k
      exact k.2 p e s m below meth c _ _ _ _ _ X I hn.1 hn.2 (lv_sub hl [0] rfl)
set_option maxRecDepth 100000 in
set_option maxHeartbeats 4000000 in
theorem v_X5_peek_38 {G : sG} {d : Nat} {vs0 : List Value} {σ0 : sS} {v0 : Nat} {σ : sS} {z : sZ Int32} {r : Int32 × sS} (hf : T_X5_peek_38 v0 σ = some z) (k : s_K G (d + 2) M_X5_peek vs0 σ0 Y_X5_peek e_I z r) : s_V G (d + 2) M_X5_peek vs0 σ0 Y_X5_peek (38, [.ref v0], σ) (e_I r) := by
  have le0 : s_le σ (e_I r).2 := s_lek hem_I (l_X5_peek_38 hf) k
  refine ⟨le0, ?_⟩
  intro p e s m below meth c H locs cells slots ls X I hn1 hn2 hl
  have hn : cells + σ0.2.1 ≤ σ.2.1 ∧ slots + σ0.2.2.1 ≤ σ.2.2.1 := ⟨hn1, hn2⟩
  have hl : lv_has ls 2 [(0, .ref v0)] := hl
  have hx := X.1
  have hb : c.code = cX5_peek := X.2.1
  have hown : s.vm.findClass RX5 = some m.cls := X.2.2.2.2.2.1
  have hts := X.2.2.2.2.2.2.1
  refine W.eq (g2 := F0 m 38 ls []) rfl ?_
  unfold T_X5_peek_38 at hf
  obtain ⟨x1, h1, hf⟩ := s_bind hf
  refine lv_aload_n hx hb dX5_peek_38 rfl (lv_at hl 0 rfl) ?_
  refine r_gi X I fl_X5_9 h1 dX5_peek_39 ?_
  refine lv_iconst (v := (-1)) hx hb dX5_peek_42 (by decide) ?_
  rcases s_ite hf with ⟨c2, hf⟩ | ⟨c2, hf⟩
  · refine lv_icmp_ne (tgt := 57) hx hb dX5_peek_43 (by decide) (fun n => absurd c2 n) (fun _ => ?_)
    obtain ⟨x2, h3, hf⟩ := s_bind hf
    obtain ⟨q3, h4, hf⟩ := s_bind hf
    cases hf
    have k : _ = r := k
    subst k
    have le5 : s_le q3.2 q3.2 := s_le.rf
    refine lv_aload_n hx hb dX5_peek_46 rfl (lv_at hl 0 rfl) ?_
    refine lv_aload_n hx hb dX5_peek_47 rfl (lv_at hl 0 rfl) ?_
    refine r_gi X I fl_X5_29 h3 dX5_peek_48 ?_
    refine r_callV (Y := M_X5_byteAt) (v := some (.int q3.1)) X I w_721 my_X5_byteAt (by omega) (t_X5_byteAt (G := G) (d := d + 0) h4) (b_X5_byteAt h4) rfl rfl hl.1 rfl (Nat.le_of_ble_eq_true rfl) hn le5 dX5_peek_51 (fun H locs cells slots I hn1 hn2 => ?_)
    have I : s_I G q3.2 s H locs := I
    have hn : cells + σ0.2.1 ≤ q3.2.2.1 ∧ slots + σ0.2.2.1 ≤ q3.2.2.2.1 := ⟨hn1, hn2⟩
    refine lv_goto (tgt := 58) hx hb dX5_peek_54 (by decide) ?_
    exact r_iret X I rfl rfl rfl hn dX5_peek_58
  · refine lv_icmp_ne (tgt := 57) hx hb dX5_peek_43 (by decide) (fun _ => ?_) (fun n => absurd n c2)
    cases hf
    have k : _ = r := k
    subst k
    refine lv_iconst (v := (-1)) hx hb dX5_peek_57 (by decide) ?_
    exact r_iret X I rfl rfl rfl hn dX5_peek_58
theorem v_X5_peek {G : sG} {d : Nat} {vs0 : List Value} {σ0 : sS} {x : sL} {z : sZ Int32} {r : Int32 × sS} (hs : S_X5_peek x = some z) (k : s_K G (d + 2) M_X5_peek vs0 σ0 Y_X5_peek e_I z r) : s_V G (d + 2) M_X5_peek vs0 σ0 Y_X5_peek x (e_I r) := by
  obtain ⟨pc, vs, σ⟩ := x
  unfold S_X5_peek at hs
  dsimp only at hs
  rcases s_ite hs with ⟨c, hs⟩ | ⟨-, hs⟩
  · subst c
    unfold U_X5_peek_0 at hs
    obtain ⟨a0, g0, hs⟩ := s_bind hs
    obtain ⟨u9, ge, hs⟩ := s_bind hs
    rw [g_r_to g0, g_e_to ge]
    exact v_X5_peek_0 hs k
  rcases s_ite hs with ⟨c, hs⟩ | ⟨-, hs⟩
  · subst c
    unfold U_X5_peek_2 at hs
    obtain ⟨a0, g0, hs⟩ := s_bind hs
    obtain ⟨a1, g1, hs⟩ := s_bind hs
    obtain ⟨u9, ge, hs⟩ := s_bind hs
    rw [g_r_to g0, g_i_to g1, g_e_to ge]
    exact v_X5_peek_2 hs k
  rcases s_ite hs with ⟨c, hs⟩ | ⟨-, hs⟩
  · subst c
    unfold U_X5_peek_38 at hs
    obtain ⟨a0, g0, hs⟩ := s_bind hs
    obtain ⟨u9, ge, hs⟩ := s_bind hs
    rw [g_r_to g0, g_e_to ge]
    exact v_X5_peek_38 hs k
  cases hs
theorem t_X5_peek {G : sG} {d : Nat} {v0 : Nat} {σ : sS} {q : Int32 × sS} (h : F_X5_peek v0 σ = some q) : s_T G (d + 2) M_X5_peek [.ref v0] σ (e_I q) := by
  unfold F_X5_peek at h
  obtain ⟨-, -, h⟩ := s_bind h
  exact s_ofV rfl (by decide) (Nat.le_of_ble_eq_true rfl) rfl rfl (s_run_ind (V := fun x r => s_V G (d + 2) M_X5_peek [.ref v0] σ Y_X5_peek x (e_I r)) (fun x z r hs hk => v_X5_peek hs (by cases z <;> exact hk)) h)
/-! X5_fail -/
noncomputable def T_X5_fail_0 (v0 : Nat) (v1 : Int32) (σ : sS) : Option (sZ Int32) :=
  (s_fi σ v0 5 1).bind fun x1 =>
  if x1 = (-1) then ((s_pf σ v0 5 1 (.int v1)).bind fun σ2 =>
  some (.inr ((-1), σ2)))
  else (some (.inr ((-1), σ)))
noncomputable def U_X5_fail_0 (vs : List Value) (σ : sS) : Option (sZ Int32) := (g_r vs).bind fun a0 => (g_i a0.2).bind fun a1 => (g_e a1.2).bind fun _ => T_X5_fail_0 a0.1 a1.1 σ
noncomputable def S_X5_fail (x : sL) : Option (sZ Int32) := if x.1 = 0 then U_X5_fail_0 x.2.1 x.2.2 else none
def Y_X5_fail (pc : Nat) : List Nat := if pc = 0 then [0, 1] else []
noncomputable def F_X5_fail (v0 : Nat) (v1 : Int32) (σ : sS) : Option (Int32 × sS) := (s_is σ v0 5).bind fun _ => s_run S_X5_fail (0, [.ref v0, .int v1], σ)
theorem l_X5_fail_0 {v0 : Nat} {v1 : Int32} {σ : sS} {z : sZ Int32} (hf : T_X5_fail_0 v0 v1 σ = some z) : s_lz σ z := by
  unfold T_X5_fail_0 at hf
  obtain ⟨x1, -, hf⟩ := s_bind hf
  rcases s_ite hf with ⟨-, hf⟩ | ⟨-, hf⟩
  · obtain ⟨σ2, hh, hf⟩ := s_bind hf
    refine s_lz.tr (s_le2 (s_pf_2 hh)) ?_
    cases hf
    exact s_le.rf
  · cases hf
    exact s_le.rf
theorem l_X5_fail_s {x : sL} {z : sZ Int32} (hs : S_X5_fail x = some z) : s_lz x.2.2 z := by
  obtain ⟨pc, vs, σ⟩ := x
  unfold S_X5_fail at hs
  dsimp only at hs ⊢
  rcases s_ite hs with ⟨c, hs⟩ | ⟨-, hs⟩
  · subst c
    unfold U_X5_fail_0 at hs
    obtain ⟨a0, g0, hs⟩ := s_bind hs
    obtain ⟨a1, g1, hs⟩ := s_bind hs
    obtain ⟨u9, ge, hs⟩ := s_bind hs
    exact l_X5_fail_0 hs
  cases hs
theorem l_X5_fail {v0 : Nat} {v1 : Int32} {σ : sS} {q : Int32 × sS} (h : F_X5_fail v0 v1 σ = some q) : s_le σ q.2 := by
  unfold F_X5_fail at h
  obtain ⟨-, -, h⟩ := s_bind h
  exact s_run_ind (V := fun x r => s_le x.2.2 r.2) (fun x z r hs hk => by
    have h9 := l_X5_fail_s hs
    cases z with
    | inl y => exact s_le.tr h9 hk
    | inr q => cases hk; exact h9) h
theorem b_X5_fail {v0 : Nat} {v1 : Int32} {σ : sS} {q : Int32 × sS} (h : F_X5_fail v0 v1 σ = some q) : ∃ fs, σ.1 v0 = some (.inr (5, fs)) := by
  unfold F_X5_fail at h
  obtain ⟨u, hu, -⟩ := s_bind h
  exact s_is_to hu
set_option maxRecDepth 100000 in
set_option maxHeartbeats 4000000 in
theorem v_X5_fail_0 {G : sG} {d : Nat} {vs0 : List Value} {σ0 : sS} {v0 : Nat} {v1 : Int32} {σ : sS} {z : sZ Int32} {r : Int32 × sS} (hf : T_X5_fail_0 v0 v1 σ = some z) (k : s_K G (d + 1) M_X5_fail vs0 σ0 Y_X5_fail e_I z r) : s_V G (d + 1) M_X5_fail vs0 σ0 Y_X5_fail (0, [.ref v0, .int v1], σ) (e_I r) := by
  have le0 : s_le σ (e_I r).2 := s_lek hem_I (l_X5_fail_0 hf) k
  refine ⟨le0, ?_⟩
  intro p e s m below meth c H locs cells slots ls X I hn1 hn2 hl
  have hn : cells + σ0.2.1 ≤ σ.2.1 ∧ slots + σ0.2.2.1 ≤ σ.2.2.1 := ⟨hn1, hn2⟩
  have hl : lv_has ls 2 [(0, .ref v0), (1, .int v1)] := hl
  have hx := X.1
  have hb : c.code = cX5_fail := X.2.1
  have hown : s.vm.findClass RX5 = some m.cls := X.2.2.2.2.2.1
  have hts := X.2.2.2.2.2.2.1
  refine W.eq (g2 := F0 m 0 ls []) rfl ?_
  unfold T_X5_fail_0 at hf
  obtain ⟨x1, h1, hf⟩ := s_bind hf
  refine lv_aload_n hx hb dX5_fail_0 rfl (lv_at hl 0 rfl) ?_
  refine r_gi X I fl_X5_9 h1 dX5_fail_1 ?_
  refine lv_iconst (v := (-1)) hx hb dX5_fail_4 (by decide) ?_
  rcases s_ite hf with ⟨c2, hf⟩ | ⟨c2, hf⟩
  · refine lv_icmp_ne (tgt := 13) hx hb dX5_fail_5 (by decide) (fun n => absurd c2 n) (fun _ => ?_)
    obtain ⟨σ2, h3, hf⟩ := s_bind hf
    cases hf
    have k : _ = r := k
    subst k
    have le4 : s_le σ2 σ2 := s_le.rf
    refine lv_aload_n hx hb dX5_fail_8 rfl (lv_at hl 0 rfl) ?_
    refine lv_iload_n hx hb dX5_fail_9 rfl (lv_at hl 1 rfl) ?_
    refine r_put X I fp_X5_9 (fun h => by cases h) h3 rfl rfl dX5_fail_10 (fun H locs I => ?_)
    have hn := s_k2 (s_pf_2 h3) hn
    refine lv_iconst (v := (-1)) hx hb dX5_fail_13 (by decide) ?_
    exact r_iret X I rfl rfl rfl hn dX5_fail_14
  · refine lv_icmp_ne (tgt := 13) hx hb dX5_fail_5 (by decide) (fun _ => ?_) (fun n => absurd n c2)
    cases hf
    have k : _ = r := k
    subst k
    refine lv_iconst (v := (-1)) hx hb dX5_fail_13 (by decide) ?_
    exact r_iret X I rfl rfl rfl hn dX5_fail_14
theorem v_X5_fail {G : sG} {d : Nat} {vs0 : List Value} {σ0 : sS} {x : sL} {z : sZ Int32} {r : Int32 × sS} (hs : S_X5_fail x = some z) (k : s_K G (d + 1) M_X5_fail vs0 σ0 Y_X5_fail e_I z r) : s_V G (d + 1) M_X5_fail vs0 σ0 Y_X5_fail x (e_I r) := by
  obtain ⟨pc, vs, σ⟩ := x
  unfold S_X5_fail at hs
  dsimp only at hs
  rcases s_ite hs with ⟨c, hs⟩ | ⟨-, hs⟩
  · subst c
    unfold U_X5_fail_0 at hs
    obtain ⟨a0, g0, hs⟩ := s_bind hs
    obtain ⟨a1, g1, hs⟩ := s_bind hs
    obtain ⟨u9, ge, hs⟩ := s_bind hs
    rw [g_r_to g0, g_i_to g1, g_e_to ge]
    exact v_X5_fail_0 hs k
  cases hs
theorem t_X5_fail {G : sG} {d : Nat} {v0 : Nat} {v1 : Int32} {σ : sS} {q : Int32 × sS} (h : F_X5_fail v0 v1 σ = some q) : s_T G (d + 1) M_X5_fail [.ref v0, .int v1] σ (e_I q) := by
  unfold F_X5_fail at h
  obtain ⟨-, -, h⟩ := s_bind h
  exact s_ofV rfl (by decide) (Nat.le_of_ble_eq_true rfl) rfl rfl (s_run_ind (V := fun x r => s_V G (d + 1) M_X5_fail [.ref v0, .int v1] σ Y_X5_fail x (e_I r)) (fun x z r hs hk => v_X5_fail hs (by cases z <;> exact hk)) h)
/-! X5_mayGoDeeper -/
noncomputable def T_X5_mayGoDeeper_0 (v0 : Nat) (v1 : Int32) (σ : sS) : Option (sZ Int32) :=
  if v1 < 8 then (some (.inr (1, σ)))
  else ((s_fi σ v0 5 4).bind fun x1 =>
  (F_X5_fail v0 x1 σ).bind fun q2 =>
  some (.inr (0, q2.2)))
noncomputable def U_X5_mayGoDeeper_0 (vs : List Value) (σ : sS) : Option (sZ Int32) := (g_r vs).bind fun a0 => (g_i a0.2).bind fun a1 => (g_e a1.2).bind fun _ => T_X5_mayGoDeeper_0 a0.1 a1.1 σ
noncomputable def S_X5_mayGoDeeper (x : sL) : Option (sZ Int32) := if x.1 = 0 then U_X5_mayGoDeeper_0 x.2.1 x.2.2 else none
def Y_X5_mayGoDeeper (pc : Nat) : List Nat := if pc = 0 then [0, 1] else []
noncomputable def F_X5_mayGoDeeper (v0 : Nat) (v1 : Int32) (σ : sS) : Option (Int32 × sS) := (s_is σ v0 5).bind fun _ => s_run S_X5_mayGoDeeper (0, [.ref v0, .int v1], σ)
theorem l_X5_mayGoDeeper_0 {v0 : Nat} {v1 : Int32} {σ : sS} {z : sZ Int32} (hf : T_X5_mayGoDeeper_0 v0 v1 σ = some z) : s_lz σ z := by
  unfold T_X5_mayGoDeeper_0 at hf
  rcases s_ite hf with ⟨-, hf⟩ | ⟨-, hf⟩
  · cases hf
    exact s_le.rf
  · obtain ⟨x1, -, hf⟩ := s_bind hf
    obtain ⟨q2, hh, hf⟩ := s_bind hf
    refine s_lz.tr (l_X5_fail hh) ?_
    cases hf
    exact s_le.rf
theorem l_X5_mayGoDeeper_s {x : sL} {z : sZ Int32} (hs : S_X5_mayGoDeeper x = some z) : s_lz x.2.2 z := by
  obtain ⟨pc, vs, σ⟩ := x
  unfold S_X5_mayGoDeeper at hs
  dsimp only at hs ⊢
  rcases s_ite hs with ⟨c, hs⟩ | ⟨-, hs⟩
  · subst c
    unfold U_X5_mayGoDeeper_0 at hs
    obtain ⟨a0, g0, hs⟩ := s_bind hs
    obtain ⟨a1, g1, hs⟩ := s_bind hs
    obtain ⟨u9, ge, hs⟩ := s_bind hs
    exact l_X5_mayGoDeeper_0 hs
  cases hs
theorem l_X5_mayGoDeeper {v0 : Nat} {v1 : Int32} {σ : sS} {q : Int32 × sS} (h : F_X5_mayGoDeeper v0 v1 σ = some q) : s_le σ q.2 := by
  unfold F_X5_mayGoDeeper at h
  obtain ⟨-, -, h⟩ := s_bind h
  exact s_run_ind (V := fun x r => s_le x.2.2 r.2) (fun x z r hs hk => by
    have h9 := l_X5_mayGoDeeper_s hs
    cases z with
    | inl y => exact s_le.tr h9 hk
    | inr q => cases hk; exact h9) h
theorem b_X5_mayGoDeeper {v0 : Nat} {v1 : Int32} {σ : sS} {q : Int32 × sS} (h : F_X5_mayGoDeeper v0 v1 σ = some q) : ∃ fs, σ.1 v0 = some (.inr (5, fs)) := by
  unfold F_X5_mayGoDeeper at h
  obtain ⟨u, hu, -⟩ := s_bind h
  exact s_is_to hu
set_option maxRecDepth 100000 in
set_option maxHeartbeats 4000000 in
theorem v_X5_mayGoDeeper_0 {G : sG} {d : Nat} {vs0 : List Value} {σ0 : sS} {v0 : Nat} {v1 : Int32} {σ : sS} {z : sZ Int32} {r : Int32 × sS} (hf : T_X5_mayGoDeeper_0 v0 v1 σ = some z) (k : s_K G (d + 2) M_X5_mayGoDeeper vs0 σ0 Y_X5_mayGoDeeper e_I z r) : s_V G (d + 2) M_X5_mayGoDeeper vs0 σ0 Y_X5_mayGoDeeper (0, [.ref v0, .int v1], σ) (e_I r) := by
  have le0 : s_le σ (e_I r).2 := s_lek hem_I (l_X5_mayGoDeeper_0 hf) k
  refine ⟨le0, ?_⟩
  intro p e s m below meth c H locs cells slots ls X I hn1 hn2 hl
  have hn : cells + σ0.2.1 ≤ σ.2.1 ∧ slots + σ0.2.2.1 ≤ σ.2.2.1 := ⟨hn1, hn2⟩
  have hl : lv_has ls 2 [(0, .ref v0), (1, .int v1)] := hl
  have hx := X.1
  have hb : c.code = cX5_mayGoDeeper := X.2.1
  have hown : s.vm.findClass RX5 = some m.cls := X.2.2.2.2.2.1
  have hts := X.2.2.2.2.2.2.1
  refine W.eq (g2 := F0 m 0 ls []) rfl ?_
  unfold T_X5_mayGoDeeper_0 at hf
  refine lv_iload_n hx hb dX5_mayGoDeeper_0 rfl (lv_at hl 1 rfl) ?_
  refine lv_bipush (v := 8) hx hb dX5_mayGoDeeper_1 (by decide) ?_
  rcases s_ite hf with ⟨c1, hf⟩ | ⟨c1, hf⟩
  · refine lv_icmp_lt (tgt := 17) hx hb dX5_mayGoDeeper_3 (by decide) (fun _ => ?_) (fun n => absurd c1 n)
    cases hf
    have k : _ = r := k
    subst k
    refine lv_iconst (v := 1) hx hb dX5_mayGoDeeper_17 (by decide) ?_
    exact r_iret X I rfl rfl rfl hn dX5_mayGoDeeper_18
  · refine lv_icmp_lt (tgt := 17) hx hb dX5_mayGoDeeper_3 (by decide) (fun n => absurd n c1) (fun _ => ?_)
    obtain ⟨x1, h2, hf⟩ := s_bind hf
    obtain ⟨q2, h3, hf⟩ := s_bind hf
    cases hf
    have k : _ = r := k
    subst k
    have le4 : s_le q2.2 q2.2 := s_le.rf
    refine lv_aload_n hx hb dX5_mayGoDeeper_6 rfl (lv_at hl 0 rfl) ?_
    refine lv_aload_n hx hb dX5_mayGoDeeper_7 rfl (lv_at hl 0 rfl) ?_
    refine r_gi X I fl_X5_29 h2 dX5_mayGoDeeper_8 ?_
    refine r_callV (Y := M_X5_fail) (v := some (.int q2.1)) X I w_725 my_X5_fail (by omega) (t_X5_fail (G := G) (d := d + 0) h3) (b_X5_fail h3) rfl rfl hl.1 rfl (Nat.le_of_ble_eq_true rfl) hn le4 dX5_mayGoDeeper_11 (fun H locs cells slots I hn1 hn2 => ?_)
    have I : s_I G q2.2 s H locs := I
    have hn : cells + σ0.2.1 ≤ q2.2.2.1 ∧ slots + σ0.2.2.1 ≤ q2.2.2.2.1 := ⟨hn1, hn2⟩
    refine lv_pop hx hb dX5_mayGoDeeper_14 rfl ?_
    refine lv_iconst (v := 0) hx hb dX5_mayGoDeeper_15 (by decide) ?_
    exact r_iret X I rfl rfl rfl hn dX5_mayGoDeeper_16
theorem v_X5_mayGoDeeper {G : sG} {d : Nat} {vs0 : List Value} {σ0 : sS} {x : sL} {z : sZ Int32} {r : Int32 × sS} (hs : S_X5_mayGoDeeper x = some z) (k : s_K G (d + 2) M_X5_mayGoDeeper vs0 σ0 Y_X5_mayGoDeeper e_I z r) : s_V G (d + 2) M_X5_mayGoDeeper vs0 σ0 Y_X5_mayGoDeeper x (e_I r) := by
  obtain ⟨pc, vs, σ⟩ := x
  unfold S_X5_mayGoDeeper at hs
  dsimp only at hs
  rcases s_ite hs with ⟨c, hs⟩ | ⟨-, hs⟩
  · subst c
    unfold U_X5_mayGoDeeper_0 at hs
    obtain ⟨a0, g0, hs⟩ := s_bind hs
    obtain ⟨a1, g1, hs⟩ := s_bind hs
    obtain ⟨u9, ge, hs⟩ := s_bind hs
    rw [g_r_to g0, g_i_to g1, g_e_to ge]
    exact v_X5_mayGoDeeper_0 hs k
  cases hs
theorem t_X5_mayGoDeeper {G : sG} {d : Nat} {v0 : Nat} {v1 : Int32} {σ : sS} {q : Int32 × sS} (h : F_X5_mayGoDeeper v0 v1 σ = some q) : s_T G (d + 2) M_X5_mayGoDeeper [.ref v0, .int v1] σ (e_I q) := by
  unfold F_X5_mayGoDeeper at h
  obtain ⟨-, -, h⟩ := s_bind h
  exact s_ofV rfl (by decide) (Nat.le_of_ble_eq_true rfl) rfl rfl (s_run_ind (V := fun x r => s_V G (d + 2) M_X5_mayGoDeeper [.ref v0, .int v1] σ Y_X5_mayGoDeeper x (e_I r)) (fun x z r hs hk => v_X5_mayGoDeeper hs (by cases z <;> exact hk)) h)
/-! X5_mayTakeSign -/
noncomputable def T_X5_mayTakeSign_0 (v0 : Nat) (v1 : Int32) (σ : sS) : Option (sZ Int32) :=
  (s_fi σ v0 5 5).bind fun x1 =>
  if x1 < 40 then ((s_fi σ v0 5 5).bind fun x2 =>
  (s_pf σ v0 5 5 (.int (x2 + 1))).bind fun σ3 =>
  some (.inr (1, σ3)))
  else ((F_X5_fail v0 v1 σ).bind fun q4 =>
  some (.inr (0, q4.2)))
noncomputable def U_X5_mayTakeSign_0 (vs : List Value) (σ : sS) : Option (sZ Int32) := (g_r vs).bind fun a0 => (g_i a0.2).bind fun a1 => (g_e a1.2).bind fun _ => T_X5_mayTakeSign_0 a0.1 a1.1 σ
noncomputable def S_X5_mayTakeSign (x : sL) : Option (sZ Int32) := if x.1 = 0 then U_X5_mayTakeSign_0 x.2.1 x.2.2 else none
def Y_X5_mayTakeSign (pc : Nat) : List Nat := if pc = 0 then [0, 1] else []
noncomputable def F_X5_mayTakeSign (v0 : Nat) (v1 : Int32) (σ : sS) : Option (Int32 × sS) := (s_is σ v0 5).bind fun _ => s_run S_X5_mayTakeSign (0, [.ref v0, .int v1], σ)
theorem l_X5_mayTakeSign_0 {v0 : Nat} {v1 : Int32} {σ : sS} {z : sZ Int32} (hf : T_X5_mayTakeSign_0 v0 v1 σ = some z) : s_lz σ z := by
  unfold T_X5_mayTakeSign_0 at hf
  obtain ⟨x1, -, hf⟩ := s_bind hf
  rcases s_ite hf with ⟨-, hf⟩ | ⟨-, hf⟩
  · obtain ⟨x2, -, hf⟩ := s_bind hf
    obtain ⟨σ3, hh, hf⟩ := s_bind hf
    refine s_lz.tr (s_le2 (s_pf_2 hh)) ?_
    cases hf
    exact s_le.rf
  · obtain ⟨q4, hh, hf⟩ := s_bind hf
    refine s_lz.tr (l_X5_fail hh) ?_
    cases hf
    exact s_le.rf
theorem l_X5_mayTakeSign_s {x : sL} {z : sZ Int32} (hs : S_X5_mayTakeSign x = some z) : s_lz x.2.2 z := by
  obtain ⟨pc, vs, σ⟩ := x
  unfold S_X5_mayTakeSign at hs
  dsimp only at hs ⊢
  rcases s_ite hs with ⟨c, hs⟩ | ⟨-, hs⟩
  · subst c
    unfold U_X5_mayTakeSign_0 at hs
    obtain ⟨a0, g0, hs⟩ := s_bind hs
    obtain ⟨a1, g1, hs⟩ := s_bind hs
    obtain ⟨u9, ge, hs⟩ := s_bind hs
    exact l_X5_mayTakeSign_0 hs
  cases hs
theorem l_X5_mayTakeSign {v0 : Nat} {v1 : Int32} {σ : sS} {q : Int32 × sS} (h : F_X5_mayTakeSign v0 v1 σ = some q) : s_le σ q.2 := by
  unfold F_X5_mayTakeSign at h
  obtain ⟨-, -, h⟩ := s_bind h
  exact s_run_ind (V := fun x r => s_le x.2.2 r.2) (fun x z r hs hk => by
    have h9 := l_X5_mayTakeSign_s hs
    cases z with
    | inl y => exact s_le.tr h9 hk
    | inr q => cases hk; exact h9) h
theorem b_X5_mayTakeSign {v0 : Nat} {v1 : Int32} {σ : sS} {q : Int32 × sS} (h : F_X5_mayTakeSign v0 v1 σ = some q) : ∃ fs, σ.1 v0 = some (.inr (5, fs)) := by
  unfold F_X5_mayTakeSign at h
  obtain ⟨u, hu, -⟩ := s_bind h
  exact s_is_to hu
set_option maxRecDepth 100000 in
set_option maxHeartbeats 4000000 in
theorem v_X5_mayTakeSign_0 {G : sG} {d : Nat} {vs0 : List Value} {σ0 : sS} {v0 : Nat} {v1 : Int32} {σ : sS} {z : sZ Int32} {r : Int32 × sS} (hf : T_X5_mayTakeSign_0 v0 v1 σ = some z) (k : s_K G (d + 2) M_X5_mayTakeSign vs0 σ0 Y_X5_mayTakeSign e_I z r) : s_V G (d + 2) M_X5_mayTakeSign vs0 σ0 Y_X5_mayTakeSign (0, [.ref v0, .int v1], σ) (e_I r) := by
  have le0 : s_le σ (e_I r).2 := s_lek hem_I (l_X5_mayTakeSign_0 hf) k
  refine ⟨le0, ?_⟩
  intro p e s m below meth c H locs cells slots ls X I hn1 hn2 hl
  have hn : cells + σ0.2.1 ≤ σ.2.1 ∧ slots + σ0.2.2.1 ≤ σ.2.2.1 := ⟨hn1, hn2⟩
  have hl : lv_has ls 2 [(0, .ref v0), (1, .int v1)] := hl
  have hx := X.1
  have hb : c.code = cX5_mayTakeSign := X.2.1
  have hown : s.vm.findClass RX5 = some m.cls := X.2.2.2.2.2.1
  have hts := X.2.2.2.2.2.2.1
  refine W.eq (g2 := F0 m 0 ls []) rfl ?_
  unfold T_X5_mayTakeSign_0 at hf
  obtain ⟨x1, h1, hf⟩ := s_bind hf
  refine lv_aload_n hx hb dX5_mayTakeSign_0 rfl (lv_at hl 0 rfl) ?_
  refine r_gi X I fl_X5_32 h1 dX5_mayTakeSign_1 ?_
  refine lv_bipush (v := 40) hx hb dX5_mayTakeSign_4 (by decide) ?_
  rcases s_ite hf with ⟨c2, hf⟩ | ⟨c2, hf⟩
  · refine lv_icmp_lt (tgt := 17) hx hb dX5_mayTakeSign_6 (by decide) (fun _ => ?_) (fun n => absurd c2 n)
    obtain ⟨x2, h3, hf⟩ := s_bind hf
    obtain ⟨σ3, h4, hf⟩ := s_bind hf
    cases hf
    have k : _ = r := k
    subst k
    have le5 : s_le σ3 σ3 := s_le.rf
    refine lv_aload_n hx hb dX5_mayTakeSign_17 rfl (lv_at hl 0 rfl) ?_
    refine lv_dup hx hb dX5_mayTakeSign_18 rfl ?_
    refine r_gi X I fl_X5_32 h3 dX5_mayTakeSign_19 ?_
    refine lv_iconst (v := 1) hx hb dX5_mayTakeSign_22 (by decide) ?_
    refine lv_iadd hx hb dX5_mayTakeSign_23 ?_
    refine r_put X I fp_X5_32 (fun h => by cases h) h4 rfl rfl dX5_mayTakeSign_24 (fun H locs I => ?_)
    have hn := s_k2 (s_pf_2 h4) hn
    refine lv_iconst (v := 1) hx hb dX5_mayTakeSign_27 (by decide) ?_
    exact r_iret X I rfl rfl rfl hn dX5_mayTakeSign_28
  · refine lv_icmp_lt (tgt := 17) hx hb dX5_mayTakeSign_6 (by decide) (fun n => absurd n c2) (fun _ => ?_)
    obtain ⟨q4, h6, hf⟩ := s_bind hf
    cases hf
    have k : _ = r := k
    subst k
    have le7 : s_le q4.2 q4.2 := s_le.rf
    refine lv_aload_n hx hb dX5_mayTakeSign_9 rfl (lv_at hl 0 rfl) ?_
    refine lv_iload_n hx hb dX5_mayTakeSign_10 rfl (lv_at hl 1 rfl) ?_
    refine r_callV (Y := M_X5_fail) (v := some (.int q4.1)) X I w_725 my_X5_fail (by omega) (t_X5_fail (G := G) (d := d + 0) h6) (b_X5_fail h6) rfl rfl hl.1 rfl (Nat.le_of_ble_eq_true rfl) hn le7 dX5_mayTakeSign_11 (fun H locs cells slots I hn1 hn2 => ?_)
    have I : s_I G q4.2 s H locs := I
    have hn : cells + σ0.2.1 ≤ q4.2.2.1 ∧ slots + σ0.2.2.1 ≤ q4.2.2.2.1 := ⟨hn1, hn2⟩
    refine lv_pop hx hb dX5_mayTakeSign_14 rfl ?_
    refine lv_iconst (v := 0) hx hb dX5_mayTakeSign_15 (by decide) ?_
    exact r_iret X I rfl rfl rfl hn dX5_mayTakeSign_16
theorem v_X5_mayTakeSign {G : sG} {d : Nat} {vs0 : List Value} {σ0 : sS} {x : sL} {z : sZ Int32} {r : Int32 × sS} (hs : S_X5_mayTakeSign x = some z) (k : s_K G (d + 2) M_X5_mayTakeSign vs0 σ0 Y_X5_mayTakeSign e_I z r) : s_V G (d + 2) M_X5_mayTakeSign vs0 σ0 Y_X5_mayTakeSign x (e_I r) := by
  obtain ⟨pc, vs, σ⟩ := x
  unfold S_X5_mayTakeSign at hs
  dsimp only at hs
  rcases s_ite hs with ⟨c, hs⟩ | ⟨-, hs⟩
  · subst c
    unfold U_X5_mayTakeSign_0 at hs
    obtain ⟨a0, g0, hs⟩ := s_bind hs
    obtain ⟨a1, g1, hs⟩ := s_bind hs
    obtain ⟨u9, ge, hs⟩ := s_bind hs
    rw [g_r_to g0, g_i_to g1, g_e_to ge]
    exact v_X5_mayTakeSign_0 hs k
  cases hs
theorem t_X5_mayTakeSign {G : sG} {d : Nat} {v0 : Nat} {v1 : Int32} {σ : sS} {q : Int32 × sS} (h : F_X5_mayTakeSign v0 v1 σ = some q) : s_T G (d + 2) M_X5_mayTakeSign [.ref v0, .int v1] σ (e_I q) := by
  unfold F_X5_mayTakeSign at h
  obtain ⟨-, -, h⟩ := s_bind h
  exact s_ofV rfl (by decide) (Nat.le_of_ble_eq_true rfl) rfl rfl (s_run_ind (V := fun x r => s_V G (d + 2) M_X5_mayTakeSign [.ref v0, .int v1] σ Y_X5_mayTakeSign x (e_I r)) (fun x z r hs hk => v_X5_mayTakeSign hs (by cases z <;> exact hk)) h)
/-! X2_hasRoom -/
noncomputable def T_X2_hasRoom_0 (v0 : Nat) (σ : sS) : Option (sZ Int32) :=
  (s_fi σ v0 2 0).bind fun x1 =>
  (s_fr σ v0 2 1).bind fun x2 =>
  (s_len σ x2).bind fun x3 =>
  if x3 ≤ x1 then ((s_fr σ v0 2 1).bind fun x4 =>
  (s_len σ x4).bind fun x5 =>
  if (x5 * 2) < 128 then (some (.inr (0, σ)))
  else (if (x5 * 2) ≤ 8192 then ((s_fr σ v0 2 1).bind fun x6 =>
  (F_J7_copyOf_59c91 x6 (x5 * 2) σ).bind fun q7 =>
  (s_pf q7.2 v0 2 1 (.ref q7.1)).bind fun σ8 =>
  (s_fr σ8 v0 2 2).bind fun x9 =>
  (F_J7_copyOf_59c91 x9 (x5 * 2) σ8).bind fun q10 =>
  (s_pf q10.2 v0 2 2 (.ref q10.1)).bind fun σ11 =>
  (s_fr σ11 v0 2 3).bind fun x12 =>
  (F_J7_copyOf_59c91 x12 (x5 * 2) σ11).bind fun q13 =>
  (s_pf q13.2 v0 2 3 (.ref q13.1)).bind fun σ14 =>
  (s_fr σ14 v0 2 4).bind fun x15 =>
  (F_J7_copyOf_59c91 x15 (x5 * 2) σ14).bind fun q16 =>
  (s_pf q16.2 v0 2 4 (.ref q16.1)).bind fun σ17 =>
  (s_fr σ17 v0 2 5).bind fun x18 =>
  (F_J7_copyOf_59c91 x18 (x5 * 2) σ17).bind fun q19 =>
  (s_pf q19.2 v0 2 5 (.ref q19.1)).bind fun σ20 =>
  (s_fr σ20 v0 2 6).bind fun x21 =>
  (F_J7_copyOf_59c91 x21 ((x5 * 2) * 3) σ20).bind fun q22 =>
  (s_pf q22.2 v0 2 6 (.ref q22.1)).bind fun σ23 =>
  some (.inr (1, σ23)))
  else (some (.inr (0, σ)))))
  else (some (.inr (1, σ)))
noncomputable def U_X2_hasRoom_0 (vs : List Value) (σ : sS) : Option (sZ Int32) := (g_r vs).bind fun a0 => (g_e a0.2).bind fun _ => T_X2_hasRoom_0 a0.1 σ
noncomputable def S_X2_hasRoom (x : sL) : Option (sZ Int32) := if x.1 = 0 then U_X2_hasRoom_0 x.2.1 x.2.2 else none
def Y_X2_hasRoom (pc : Nat) : List Nat := if pc = 0 then [0] else []
noncomputable def F_X2_hasRoom (v0 : Nat) (σ : sS) : Option (Int32 × sS) := (s_is σ v0 2).bind fun _ => s_run S_X2_hasRoom (0, [.ref v0], σ)
theorem l_X2_hasRoom_0 {v0 : Nat} {σ : sS} {z : sZ Int32} (hf : T_X2_hasRoom_0 v0 σ = some z) : s_lz σ z := by
  unfold T_X2_hasRoom_0 at hf
  obtain ⟨x1, -, hf⟩ := s_bind hf
  obtain ⟨x2, -, hf⟩ := s_bind hf
  obtain ⟨x3, -, hf⟩ := s_bind hf
  rcases s_ite hf with ⟨-, hf⟩ | ⟨-, hf⟩
  · obtain ⟨x4, -, hf⟩ := s_bind hf
    obtain ⟨x5, -, hf⟩ := s_bind hf
    rcases s_ite hf with ⟨-, hf⟩ | ⟨-, hf⟩
    · cases hf
      exact s_le.rf
    · rcases s_ite hf with ⟨-, hf⟩ | ⟨-, hf⟩
      · obtain ⟨x6, -, hf⟩ := s_bind hf
        obtain ⟨q7, hh, hf⟩ := s_bind hf
        refine s_lz.tr (l_J7_copyOf_59c91 hh) ?_
        obtain ⟨σ8, hh, hf⟩ := s_bind hf
        refine s_lz.tr (s_le2 (s_pf_2 hh)) ?_
        obtain ⟨x9, -, hf⟩ := s_bind hf
        obtain ⟨q10, hh, hf⟩ := s_bind hf
        refine s_lz.tr (l_J7_copyOf_59c91 hh) ?_
        obtain ⟨σ11, hh, hf⟩ := s_bind hf
        refine s_lz.tr (s_le2 (s_pf_2 hh)) ?_
        obtain ⟨x12, -, hf⟩ := s_bind hf
        obtain ⟨q13, hh, hf⟩ := s_bind hf
        refine s_lz.tr (l_J7_copyOf_59c91 hh) ?_
        obtain ⟨σ14, hh, hf⟩ := s_bind hf
        refine s_lz.tr (s_le2 (s_pf_2 hh)) ?_
        obtain ⟨x15, -, hf⟩ := s_bind hf
        obtain ⟨q16, hh, hf⟩ := s_bind hf
        refine s_lz.tr (l_J7_copyOf_59c91 hh) ?_
        obtain ⟨σ17, hh, hf⟩ := s_bind hf
        refine s_lz.tr (s_le2 (s_pf_2 hh)) ?_
        obtain ⟨x18, -, hf⟩ := s_bind hf
        obtain ⟨q19, hh, hf⟩ := s_bind hf
        refine s_lz.tr (l_J7_copyOf_59c91 hh) ?_
        obtain ⟨σ20, hh, hf⟩ := s_bind hf
        refine s_lz.tr (s_le2 (s_pf_2 hh)) ?_
        obtain ⟨x21, -, hf⟩ := s_bind hf
        obtain ⟨q22, hh, hf⟩ := s_bind hf
        refine s_lz.tr (l_J7_copyOf_59c91 hh) ?_
        obtain ⟨σ23, hh, hf⟩ := s_bind hf
        refine s_lz.tr (s_le2 (s_pf_2 hh)) ?_
        cases hf
        exact s_le.rf
      · cases hf
        exact s_le.rf
  · cases hf
    exact s_le.rf
theorem l_X2_hasRoom_s {x : sL} {z : sZ Int32} (hs : S_X2_hasRoom x = some z) : s_lz x.2.2 z := by
  obtain ⟨pc, vs, σ⟩ := x
  unfold S_X2_hasRoom at hs
  dsimp only at hs ⊢
  rcases s_ite hs with ⟨c, hs⟩ | ⟨-, hs⟩
  · subst c
    unfold U_X2_hasRoom_0 at hs
    obtain ⟨a0, g0, hs⟩ := s_bind hs
    obtain ⟨u9, ge, hs⟩ := s_bind hs
    exact l_X2_hasRoom_0 hs
  cases hs
theorem l_X2_hasRoom {v0 : Nat} {σ : sS} {q : Int32 × sS} (h : F_X2_hasRoom v0 σ = some q) : s_le σ q.2 := by
  unfold F_X2_hasRoom at h
  obtain ⟨-, -, h⟩ := s_bind h
  exact s_run_ind (V := fun x r => s_le x.2.2 r.2) (fun x z r hs hk => by
    have h9 := l_X2_hasRoom_s hs
    cases z with
    | inl y => exact s_le.tr h9 hk
    | inr q => cases hk; exact h9) h
theorem b_X2_hasRoom {v0 : Nat} {σ : sS} {q : Int32 × sS} (h : F_X2_hasRoom v0 σ = some q) : ∃ fs, σ.1 v0 = some (.inr (2, fs)) := by
  unfold F_X2_hasRoom at h
  obtain ⟨u, hu, -⟩ := s_bind h
  exact s_is_to hu
set_option maxRecDepth 100000 in
set_option maxHeartbeats 4000000 in
theorem v_X2_hasRoom_0 {G : sG} {d : Nat} {vs0 : List Value} {σ0 : sS} {v0 : Nat} {σ : sS} {z : sZ Int32} {r : Int32 × sS} (hf : T_X2_hasRoom_0 v0 σ = some z) (k : s_K G (d + 2) M_X2_hasRoom vs0 σ0 Y_X2_hasRoom e_I z r) : s_V G (d + 2) M_X2_hasRoom vs0 σ0 Y_X2_hasRoom (0, [.ref v0], σ) (e_I r) := by
  have le0 : s_le σ (e_I r).2 := s_lek hem_I (l_X2_hasRoom_0 hf) k
  refine ⟨le0, ?_⟩
  intro p e s m below meth c H locs cells slots ls X I hn1 hn2 hl
  have hn : cells + σ0.2.1 ≤ σ.2.1 ∧ slots + σ0.2.2.1 ≤ σ.2.2.1 := ⟨hn1, hn2⟩
  have hl : lv_has ls 2 [(0, .ref v0)] := hl
  have hx := X.1
  have hb : c.code = cX2_hasRoom := X.2.1
  have hown : s.vm.findClass RX2 = some m.cls := X.2.2.2.2.2.1
  have hts := X.2.2.2.2.2.2.1
  refine W.eq (g2 := F0 m 0 ls []) rfl ?_
  unfold T_X2_hasRoom_0 at hf
  obtain ⟨x1, h1, hf⟩ := s_bind hf
  obtain ⟨x2, h2, hf⟩ := s_bind hf
  obtain ⟨x3, h3, hf⟩ := s_bind hf
  refine lv_aload_n hx hb dX2_hasRoom_0 rfl (lv_at hl 0 rfl) ?_
  refine r_gi X I fl_X2_39 h1 dX2_hasRoom_1 ?_
  refine lv_aload_n hx hb dX2_hasRoom_4 rfl (lv_at hl 0 rfl) ?_
  refine r_gr X I fl_X2_11 h2 dX2_hasRoom_5 ?_
  refine r_alen X I h3 dX2_hasRoom_8 ?_
  rcases s_ite hf with ⟨c4, hf⟩ | ⟨c4, hf⟩
  · refine lv_icmp_ge (tgt := 14) hx hb dX2_hasRoom_9 (by decide) (fun _ => ?_) (fun n => absurd c4 n)
    obtain ⟨x4, h5, hf⟩ := s_bind hf
    obtain ⟨x5, h6, hf⟩ := s_bind hf
    refine lv_aload_n hx hb dX2_hasRoom_14 rfl (lv_at hl 0 rfl) ?_
    refine r_gr X I fl_X2_11 h5 dX2_hasRoom_15 ?_
    refine r_alen X I h6 dX2_hasRoom_18 ?_
    refine lv_iconst (v := 2) hx hb dX2_hasRoom_19 (by decide) ?_
    refine lv_imul hx hb dX2_hasRoom_20 ?_
    refine lv_istore_n (lv' := [(1, .int (x5 * 2)), (0, .ref v0)]) hx hb dX2_hasRoom_21 rfl hl (by decide) rfl (fun ls hl => ?_)
    refine lv_iload_n hx hb dX2_hasRoom_22 rfl (lv_at hl 0 rfl) ?_
    refine lv_sipush (v := 128) hx hb dX2_hasRoom_23 (by decide) ?_
    rcases s_ite hf with ⟨c7, hf⟩ | ⟨c7, hf⟩
    · refine lv_icmp_lt (tgt := 36) hx hb dX2_hasRoom_26 (by decide) (fun _ => ?_) (fun n => absurd c7 n)
      cases hf
      have k : _ = r := k
      subst k
      refine lv_iconst (v := 0) hx hb dX2_hasRoom_36 (by decide) ?_
      exact r_iret X I rfl rfl rfl hn dX2_hasRoom_37
    · refine lv_icmp_lt (tgt := 36) hx hb dX2_hasRoom_26 (by decide) (fun n => absurd n c7) (fun _ => ?_)
      refine lv_iload_n hx hb dX2_hasRoom_29 rfl (lv_at hl 0 rfl) ?_
      refine lv_sipush (v := 8192) hx hb dX2_hasRoom_30 (by decide) ?_
      rcases s_ite hf with ⟨c8, hf⟩ | ⟨c8, hf⟩
      · refine lv_icmp_le (tgt := 38) hx hb dX2_hasRoom_33 (by decide) (fun _ => ?_) (fun n => absurd c8 n)
        obtain ⟨x6, h9, hf⟩ := s_bind hf
        obtain ⟨q7, h10, hf⟩ := s_bind hf
        obtain ⟨σ8, h11, hf⟩ := s_bind hf
        obtain ⟨x9, h12, hf⟩ := s_bind hf
        obtain ⟨q10, h13, hf⟩ := s_bind hf
        obtain ⟨σ11, h14, hf⟩ := s_bind hf
        obtain ⟨x12, h15, hf⟩ := s_bind hf
        obtain ⟨q13, h16, hf⟩ := s_bind hf
        obtain ⟨σ14, h17, hf⟩ := s_bind hf
        obtain ⟨x15, h18, hf⟩ := s_bind hf
        obtain ⟨q16, h19, hf⟩ := s_bind hf
        obtain ⟨σ17, h20, hf⟩ := s_bind hf
        obtain ⟨x18, h21, hf⟩ := s_bind hf
        obtain ⟨q19, h22, hf⟩ := s_bind hf
        obtain ⟨σ20, h23, hf⟩ := s_bind hf
        obtain ⟨x21, h24, hf⟩ := s_bind hf
        obtain ⟨q22, h25, hf⟩ := s_bind hf
        obtain ⟨σ23, h26, hf⟩ := s_bind hf
        cases hf
        have k : _ = r := k
        subst k
        have le27 : s_le σ23 σ23 := s_le.rf
        have le28 := s_le.tr (s_le2 (s_pf_2 h26)) le27
        have le29 := s_le.tr (l_J7_copyOf_59c91 h25) le28
        have le30 := s_le.tr (s_le2 (s_pf_2 h23)) le29
        have le31 := s_le.tr (l_J7_copyOf_59c91 h22) le30
        have le32 := s_le.tr (s_le2 (s_pf_2 h20)) le31
        have le33 := s_le.tr (l_J7_copyOf_59c91 h19) le32
        have le34 := s_le.tr (s_le2 (s_pf_2 h17)) le33
        have le35 := s_le.tr (l_J7_copyOf_59c91 h16) le34
        have le36 := s_le.tr (s_le2 (s_pf_2 h14)) le35
        have le37 := s_le.tr (l_J7_copyOf_59c91 h13) le36
        have le38 := s_le.tr (s_le2 (s_pf_2 h11)) le37
        refine lv_aload_n hx hb dX2_hasRoom_38 rfl (lv_at hl 1 rfl) ?_
        refine lv_aload_n hx hb dX2_hasRoom_39 rfl (lv_at hl 1 rfl) ?_
        refine r_gr X I fl_X2_11 h9 dX2_hasRoom_40 ?_
        refine lv_iload_n hx hb dX2_hasRoom_43 rfl (lv_at hl 0 rfl) ?_
        refine r_callS (Y := M_J7_copyOf_59c91) (v := some (.ref q7.1)) X I w_754 my_J7_copyOf_59c91 (by omega) (t_J7_copyOf_59c91 (G := G) (d := d + 0) h10) rfl rfl hl.1 rfl (Nat.le_of_ble_eq_true rfl) hn le38 dX2_hasRoom_44 (fun H locs cells slots I hn1 hn2 => ?_)
        have I : s_I G q7.2 s H locs := I
        have hn : cells + σ0.2.1 ≤ q7.2.2.1 ∧ slots + σ0.2.2.1 ≤ q7.2.2.2.1 := ⟨hn1, hn2⟩
        refine r_put X I fp_X2_11 (fun h => by cases h) h11 rfl rfl dX2_hasRoom_47 (fun H locs I => ?_)
        have hn := s_k2 (s_pf_2 h11) hn
        refine lv_aload_n hx hb dX2_hasRoom_50 rfl (lv_at hl 1 rfl) ?_
        refine lv_aload_n hx hb dX2_hasRoom_51 rfl (lv_at hl 1 rfl) ?_
        refine r_gr X I fl_X2_15 h12 dX2_hasRoom_52 ?_
        refine lv_iload_n hx hb dX2_hasRoom_55 rfl (lv_at hl 0 rfl) ?_
        refine r_callS (Y := M_J7_copyOf_59c91) (v := some (.ref q10.1)) X I w_754 my_J7_copyOf_59c91 (by omega) (t_J7_copyOf_59c91 (G := G) (d := d + 0) h13) rfl rfl hl.1 rfl (Nat.le_of_ble_eq_true rfl) hn le36 dX2_hasRoom_56 (fun H locs cells slots I hn1 hn2 => ?_)
        have I : s_I G q10.2 s H locs := I
        have hn : cells + σ0.2.1 ≤ q10.2.2.1 ∧ slots + σ0.2.2.1 ≤ q10.2.2.2.1 := ⟨hn1, hn2⟩
        refine r_put X I fp_X2_15 (fun h => by cases h) h14 rfl rfl dX2_hasRoom_59 (fun H locs I => ?_)
        have hn := s_k2 (s_pf_2 h14) hn
        refine lv_aload_n hx hb dX2_hasRoom_62 rfl (lv_at hl 1 rfl) ?_
        refine lv_aload_n hx hb dX2_hasRoom_63 rfl (lv_at hl 1 rfl) ?_
        refine r_gr X I fl_X2_18 h15 dX2_hasRoom_64 ?_
        refine lv_iload_n hx hb dX2_hasRoom_67 rfl (lv_at hl 0 rfl) ?_
        refine r_callS (Y := M_J7_copyOf_59c91) (v := some (.ref q13.1)) X I w_754 my_J7_copyOf_59c91 (by omega) (t_J7_copyOf_59c91 (G := G) (d := d + 0) h16) rfl rfl hl.1 rfl (Nat.le_of_ble_eq_true rfl) hn le34 dX2_hasRoom_68 (fun H locs cells slots I hn1 hn2 => ?_)
        have I : s_I G q13.2 s H locs := I
        have hn : cells + σ0.2.1 ≤ q13.2.2.1 ∧ slots + σ0.2.2.1 ≤ q13.2.2.2.1 := ⟨hn1, hn2⟩
        refine r_put X I fp_X2_18 (fun h => by cases h) h17 rfl rfl dX2_hasRoom_71 (fun H locs I => ?_)
        have hn := s_k2 (s_pf_2 h17) hn
        refine lv_aload_n hx hb dX2_hasRoom_74 rfl (lv_at hl 1 rfl) ?_
        refine lv_aload_n hx hb dX2_hasRoom_75 rfl (lv_at hl 1 rfl) ?_
        refine r_gr X I fl_X2_21 h18 dX2_hasRoom_76 ?_
        refine lv_iload_n hx hb dX2_hasRoom_79 rfl (lv_at hl 0 rfl) ?_
        refine r_callS (Y := M_J7_copyOf_59c91) (v := some (.ref q16.1)) X I w_754 my_J7_copyOf_59c91 (by omega) (t_J7_copyOf_59c91 (G := G) (d := d + 0) h19) rfl rfl hl.1 rfl (Nat.le_of_ble_eq_true rfl) hn le32 dX2_hasRoom_80 (fun H locs cells slots I hn1 hn2 => ?_)
        have I : s_I G q16.2 s H locs := I
        have hn : cells + σ0.2.1 ≤ q16.2.2.1 ∧ slots + σ0.2.2.1 ≤ q16.2.2.2.1 := ⟨hn1, hn2⟩
        refine r_put X I fp_X2_21 (fun h => by cases h) h20 rfl rfl dX2_hasRoom_83 (fun H locs I => ?_)
        have hn := s_k2 (s_pf_2 h20) hn
        refine lv_aload_n hx hb dX2_hasRoom_86 rfl (lv_at hl 1 rfl) ?_
        refine lv_aload_n hx hb dX2_hasRoom_87 rfl (lv_at hl 1 rfl) ?_
        refine r_gr X I fl_X2_24 h21 dX2_hasRoom_88 ?_
        refine lv_iload_n hx hb dX2_hasRoom_91 rfl (lv_at hl 0 rfl) ?_
        refine r_callS (Y := M_J7_copyOf_59c91) (v := some (.ref q19.1)) X I w_754 my_J7_copyOf_59c91 (by omega) (t_J7_copyOf_59c91 (G := G) (d := d + 0) h22) rfl rfl hl.1 rfl (Nat.le_of_ble_eq_true rfl) hn le30 dX2_hasRoom_92 (fun H locs cells slots I hn1 hn2 => ?_)
        have I : s_I G q19.2 s H locs := I
        have hn : cells + σ0.2.1 ≤ q19.2.2.1 ∧ slots + σ0.2.2.1 ≤ q19.2.2.2.1 := ⟨hn1, hn2⟩
        refine r_put X I fp_X2_24 (fun h => by cases h) h23 rfl rfl dX2_hasRoom_95 (fun H locs I => ?_)
        have hn := s_k2 (s_pf_2 h23) hn
        refine lv_aload_n hx hb dX2_hasRoom_98 rfl (lv_at hl 1 rfl) ?_
        refine lv_aload_n hx hb dX2_hasRoom_99 rfl (lv_at hl 1 rfl) ?_
        refine r_gr X I fl_X2_27 h24 dX2_hasRoom_100 ?_
        refine lv_iload_n hx hb dX2_hasRoom_103 rfl (lv_at hl 0 rfl) ?_
        refine lv_iconst (v := 3) hx hb dX2_hasRoom_104 (by decide) ?_
        refine lv_imul hx hb dX2_hasRoom_105 ?_
        refine r_callS (Y := M_J7_copyOf_59c91) (v := some (.ref q22.1)) X I w_754 my_J7_copyOf_59c91 (by omega) (t_J7_copyOf_59c91 (G := G) (d := d + 0) h25) rfl rfl hl.1 rfl (Nat.le_of_ble_eq_true rfl) hn le28 dX2_hasRoom_106 (fun H locs cells slots I hn1 hn2 => ?_)
        have I : s_I G q22.2 s H locs := I
        have hn : cells + σ0.2.1 ≤ q22.2.2.1 ∧ slots + σ0.2.2.1 ≤ q22.2.2.2.1 := ⟨hn1, hn2⟩
        refine r_put X I fp_X2_27 (fun h => by cases h) h26 rfl rfl dX2_hasRoom_109 (fun H locs I => ?_)
        have hn := s_k2 (s_pf_2 h26) hn
        refine lv_iconst (v := 1) hx hb dX2_hasRoom_112 (by decide) ?_
        exact r_iret X I rfl rfl rfl hn dX2_hasRoom_113
      · refine lv_icmp_le (tgt := 38) hx hb dX2_hasRoom_33 (by decide) (fun n => absurd n c8) (fun _ => ?_)
        cases hf
        have k : _ = r := k
        subst k
        refine lv_iconst (v := 0) hx hb dX2_hasRoom_36 (by decide) ?_
        exact r_iret X I rfl rfl rfl hn dX2_hasRoom_37
  · refine lv_icmp_ge (tgt := 14) hx hb dX2_hasRoom_9 (by decide) (fun n => absurd n c4) (fun _ => ?_)
    cases hf
    have k : _ = r := k
    subst k
    refine lv_iconst (v := 1) hx hb dX2_hasRoom_12 (by decide) ?_
    exact r_iret X I rfl rfl rfl hn dX2_hasRoom_13
theorem v_X2_hasRoom {G : sG} {d : Nat} {vs0 : List Value} {σ0 : sS} {x : sL} {z : sZ Int32} {r : Int32 × sS} (hs : S_X2_hasRoom x = some z) (k : s_K G (d + 2) M_X2_hasRoom vs0 σ0 Y_X2_hasRoom e_I z r) : s_V G (d + 2) M_X2_hasRoom vs0 σ0 Y_X2_hasRoom x (e_I r) := by
  obtain ⟨pc, vs, σ⟩ := x
  unfold S_X2_hasRoom at hs
  dsimp only at hs
  rcases s_ite hs with ⟨c, hs⟩ | ⟨-, hs⟩
  · subst c
    unfold U_X2_hasRoom_0 at hs
    obtain ⟨a0, g0, hs⟩ := s_bind hs
    obtain ⟨u9, ge, hs⟩ := s_bind hs
    rw [g_r_to g0, g_e_to ge]
    exact v_X2_hasRoom_0 hs k
  cases hs
theorem t_X2_hasRoom {G : sG} {d : Nat} {v0 : Nat} {σ : sS} {q : Int32 × sS} (h : F_X2_hasRoom v0 σ = some q) : s_T G (d + 2) M_X2_hasRoom [.ref v0] σ (e_I q) := by
  unfold F_X2_hasRoom at h
  obtain ⟨-, -, h⟩ := s_bind h
  exact s_ofV rfl (by decide) (Nat.le_of_ble_eq_true rfl) rfl rfl (s_run_ind (V := fun x r => s_V G (d + 2) M_X2_hasRoom [.ref v0] σ Y_X2_hasRoom x (e_I r)) (fun x z r hs hk => v_X2_hasRoom hs (by cases z <;> exact hk)) h)
/-! X2_make -/
noncomputable def T_X2_make_0 (v0 : Nat) (v1 : Int32) (v2 : Int32) (v3 : Int32) (σ : sS) : Option (sZ Int32) :=
  (s_fr σ v0 2 7).bind fun x1 =>
  (s_ai σ x1 (((((v1 * 31) + v2) * 31) + v3) &&& 127)).bind fun x2 =>
  some (.inl (28, [.ref v0, .int v1, .int v2, .int v3, .int (((((v1 * 31) + v2) * 31) + v3) &&& 127), .int x2, .int 0], σ))
noncomputable def U_X2_make_0 (vs : List Value) (σ : sS) : Option (sZ Int32) := (g_r vs).bind fun a0 => (g_i a0.2).bind fun a1 => (g_i a1.2).bind fun a2 => (g_i a2.2).bind fun a3 => (g_e a3.2).bind fun _ => T_X2_make_0 a0.1 a1.1 a2.1 a3.1 σ
noncomputable def T_X2_make_28 (v0 : Nat) (v1 : Int32) (v2 : Int32) (v3 : Int32) (v4 : Int32) (v5 : Int32) (v6 : Int32) (σ : sS) : Option (sZ Int32) :=
  (s_fi σ v0 2 0).bind fun x1 =>
  if x1 ≤ v6 then (some (.inl (81, [.ref v0, .int v1, .int v2, .int v3, .int v4], σ)))
  else (if v5 < 0 then (some (.inl (81, [.ref v0, .int v1, .int v2, .int v3, .int v4], σ)))
  else ((s_fi σ v0 2 0).bind fun x2 =>
  if x2 ≤ v5 then (some (.inl (81, [.ref v0, .int v1, .int v2, .int v3, .int v4], σ)))
  else ((F_X2_isMade v0 v5 v1 v2 v3 σ).bind fun q3 =>
  if q3.1 = 0 then ((s_fr q3.2 v0 2 5).bind fun x4 =>
  (s_ai q3.2 x4 v5).bind fun x5 =>
  some (.inl (28, [.ref v0, .int v1, .int v2, .int v3, .int v4, .int x5, .int (v6 + 1)], q3.2)))
  else (some (.inr (v5, q3.2))))))
noncomputable def U_X2_make_28 (vs : List Value) (σ : sS) : Option (sZ Int32) := (g_r vs).bind fun a0 => (g_i a0.2).bind fun a1 => (g_i a1.2).bind fun a2 => (g_i a2.2).bind fun a3 => (g_i a3.2).bind fun a4 => (g_i a4.2).bind fun a5 => (g_i a5.2).bind fun a6 => (g_e a6.2).bind fun _ => T_X2_make_28 a0.1 a1.1 a2.1 a3.1 a4.1 a5.1 a6.1 σ
noncomputable def T_X2_make_81 (v0 : Nat) (v1 : Int32) (v2 : Int32) (v3 : Int32) (v4 : Int32) (σ : sS) : Option (sZ Int32) :=
  (F_X2_hasRoom v0 σ).bind fun q1 =>
  if q1.1 = 0 then (some (.inr ((-1), q1.2)))
  else ((s_fi q1.2 v0 2 0).bind fun x2 =>
  (s_fr q1.2 v0 2 1).bind fun x3 =>
  (s_si q1.2 x3 x2 v1).bind fun σ4 =>
  (s_fr σ4 v0 2 2).bind fun x5 =>
  (s_si σ4 x5 x2 v2).bind fun σ6 =>
  (s_fr σ6 v0 2 3).bind fun x7 =>
  (s_si σ6 x7 x2 v3).bind fun σ8 =>
  (s_fr σ8 v0 2 4).bind fun x9 =>
  if v1 = 0 then (some (.inl (147, [.ref v0, .int v4, .int x2, .int 1, .int x2, .ref x9], σ8)))
  else ((F_X2_signsOf v0 v2 σ8).bind fun q10 =>
  (F_X2_signsOf v0 v3 q10.2).bind fun q11 =>
  some (.inl (147, [.ref v0, .int v4, .int x2, .int ((1 + q10.1) + q11.1), .int x2, .ref x9], q11.2))))
noncomputable def U_X2_make_81 (vs : List Value) (σ : sS) : Option (sZ Int32) := (g_r vs).bind fun a0 => (g_i a0.2).bind fun a1 => (g_i a1.2).bind fun a2 => (g_i a2.2).bind fun a3 => (g_i a3.2).bind fun a4 => (g_e a4.2).bind fun _ => T_X2_make_81 a0.1 a1.1 a2.1 a3.1 a4.1 σ
noncomputable def T_X2_make_147 (v0 : Nat) (v4 : Int32) (v6 : Int32) (w0 : Int32) (w1 : Int32) (w2 : Nat) (σ : sS) : Option (sZ Int32) :=
  (s_si σ w2 w1 w0).bind fun σ1 =>
  (s_fr σ1 v0 2 5).bind fun x2 =>
  (s_fr σ1 v0 2 7).bind fun x3 =>
  (s_ai σ1 x3 v4).bind fun x4 =>
  (s_si σ1 x2 v6 x4).bind fun σ5 =>
  (s_fr σ5 v0 2 7).bind fun x6 =>
  (s_si σ5 x6 v4 v6).bind fun σ7 =>
  some (.inl (174, [.ref v0, .int v6, .int 0], σ7))
noncomputable def U_X2_make_147 (vs : List Value) (σ : sS) : Option (sZ Int32) := (g_r vs).bind fun a0 => (g_i a0.2).bind fun a1 => (g_i a1.2).bind fun a2 => (g_i a2.2).bind fun a3 => (g_i a3.2).bind fun a4 => (g_r a4.2).bind fun a5 => (g_e a5.2).bind fun _ => T_X2_make_147 a0.1 a1.1 a2.1 a3.1 a4.1 a5.1 σ
noncomputable def T_X2_make_174 (v0 : Nat) (v6 : Int32) (v7 : Int32) (σ : sS) : Option (sZ Int32) :=
  if (3 : Int32) ≤ v7 then ((s_fi σ v0 2 0).bind fun x1 =>
  (s_pf σ v0 2 0 (.int (x1 + 1))).bind fun σ2 =>
  some (.inr (v6, σ2)))
  else ((s_fr σ v0 2 6).bind fun x3 =>
  (s_si σ x3 ((v6 * 3) + v7) (-1)).bind fun σ4 =>
  some (.inl (174, [.ref v0, .int v6, .int (v7 + 1)], σ4)))
noncomputable def U_X2_make_174 (vs : List Value) (σ : sS) : Option (sZ Int32) := (g_r vs).bind fun a0 => (g_i a0.2).bind fun a1 => (g_i a1.2).bind fun a2 => (g_e a2.2).bind fun _ => T_X2_make_174 a0.1 a1.1 a2.1 σ
noncomputable def S_X2_make (x : sL) : Option (sZ Int32) := if x.1 = 0 then U_X2_make_0 x.2.1 x.2.2 else if x.1 = 28 then U_X2_make_28 x.2.1 x.2.2 else if x.1 = 81 then U_X2_make_81 x.2.1 x.2.2 else if x.1 = 147 then U_X2_make_147 x.2.1 x.2.2 else if x.1 = 174 then U_X2_make_174 x.2.1 x.2.2 else none
def Y_X2_make (pc : Nat) : List Nat := if pc = 0 then [0, 1, 2, 3] else if pc = 28 then [0, 1, 2, 3, 4, 5, 6] else if pc = 81 then [0, 1, 2, 3, 4] else if pc = 147 then [0, 4, 6] else if pc = 174 then [0, 6, 7] else []
noncomputable def F_X2_make (v0 : Nat) (v1 : Int32) (v2 : Int32) (v3 : Int32) (σ : sS) : Option (Int32 × sS) := (s_is σ v0 2).bind fun _ => s_run S_X2_make (0, [.ref v0, .int v1, .int v2, .int v3], σ)
theorem l_X2_make_0 {v0 : Nat} {v1 : Int32} {v2 : Int32} {v3 : Int32} {σ : sS} {z : sZ Int32} (hf : T_X2_make_0 v0 v1 v2 v3 σ = some z) : s_lz σ z := by
  unfold T_X2_make_0 at hf
  obtain ⟨x1, -, hf⟩ := s_bind hf
  obtain ⟨x2, -, hf⟩ := s_bind hf
  cases hf
  exact s_le.rf
theorem l_X2_make_28 {v0 : Nat} {v1 : Int32} {v2 : Int32} {v3 : Int32} {v4 : Int32} {v5 : Int32} {v6 : Int32} {σ : sS} {z : sZ Int32} (hf : T_X2_make_28 v0 v1 v2 v3 v4 v5 v6 σ = some z) : s_lz σ z := by
  unfold T_X2_make_28 at hf
  obtain ⟨x1, -, hf⟩ := s_bind hf
  rcases s_ite hf with ⟨-, hf⟩ | ⟨-, hf⟩
  · cases hf
    exact s_le.rf
  · rcases s_ite hf with ⟨-, hf⟩ | ⟨-, hf⟩
    · cases hf
      exact s_le.rf
    · obtain ⟨x2, -, hf⟩ := s_bind hf
      rcases s_ite hf with ⟨-, hf⟩ | ⟨-, hf⟩
      · cases hf
        exact s_le.rf
      · obtain ⟨q3, hh, hf⟩ := s_bind hf
        refine s_lz.tr (l_X2_isMade hh) ?_
        rcases s_ite hf with ⟨-, hf⟩ | ⟨-, hf⟩
        · obtain ⟨x4, -, hf⟩ := s_bind hf
          obtain ⟨x5, -, hf⟩ := s_bind hf
          cases hf
          exact s_le.rf
        · cases hf
          exact s_le.rf
theorem l_X2_make_81 {v0 : Nat} {v1 : Int32} {v2 : Int32} {v3 : Int32} {v4 : Int32} {σ : sS} {z : sZ Int32} (hf : T_X2_make_81 v0 v1 v2 v3 v4 σ = some z) : s_lz σ z := by
  unfold T_X2_make_81 at hf
  obtain ⟨q1, hh, hf⟩ := s_bind hf
  refine s_lz.tr (l_X2_hasRoom hh) ?_
  rcases s_ite hf with ⟨-, hf⟩ | ⟨-, hf⟩
  · cases hf
    exact s_le.rf
  · obtain ⟨x2, -, hf⟩ := s_bind hf
    obtain ⟨x3, -, hf⟩ := s_bind hf
    obtain ⟨σ4, hh, hf⟩ := s_bind hf
    refine s_lz.tr (s_le2 (s_si_2 hh)) ?_
    obtain ⟨x5, -, hf⟩ := s_bind hf
    obtain ⟨σ6, hh, hf⟩ := s_bind hf
    refine s_lz.tr (s_le2 (s_si_2 hh)) ?_
    obtain ⟨x7, -, hf⟩ := s_bind hf
    obtain ⟨σ8, hh, hf⟩ := s_bind hf
    refine s_lz.tr (s_le2 (s_si_2 hh)) ?_
    obtain ⟨x9, -, hf⟩ := s_bind hf
    rcases s_ite hf with ⟨-, hf⟩ | ⟨-, hf⟩
    · cases hf
      exact s_le.rf
    · obtain ⟨q10, hh, hf⟩ := s_bind hf
      refine s_lz.tr (l_X2_signsOf hh) ?_
      obtain ⟨q11, hh, hf⟩ := s_bind hf
      refine s_lz.tr (l_X2_signsOf hh) ?_
      cases hf
      exact s_le.rf
theorem l_X2_make_147 {v0 : Nat} {v4 : Int32} {v6 : Int32} {w0 : Int32} {w1 : Int32} {w2 : Nat} {σ : sS} {z : sZ Int32} (hf : T_X2_make_147 v0 v4 v6 w0 w1 w2 σ = some z) : s_lz σ z := by
  unfold T_X2_make_147 at hf
  obtain ⟨σ1, hh, hf⟩ := s_bind hf
  refine s_lz.tr (s_le2 (s_si_2 hh)) ?_
  obtain ⟨x2, -, hf⟩ := s_bind hf
  obtain ⟨x3, -, hf⟩ := s_bind hf
  obtain ⟨x4, -, hf⟩ := s_bind hf
  obtain ⟨σ5, hh, hf⟩ := s_bind hf
  refine s_lz.tr (s_le2 (s_si_2 hh)) ?_
  obtain ⟨x6, -, hf⟩ := s_bind hf
  obtain ⟨σ7, hh, hf⟩ := s_bind hf
  refine s_lz.tr (s_le2 (s_si_2 hh)) ?_
  cases hf
  exact s_le.rf
theorem l_X2_make_174 {v0 : Nat} {v6 : Int32} {v7 : Int32} {σ : sS} {z : sZ Int32} (hf : T_X2_make_174 v0 v6 v7 σ = some z) : s_lz σ z := by
  unfold T_X2_make_174 at hf
  rcases s_ite hf with ⟨-, hf⟩ | ⟨-, hf⟩
  · obtain ⟨x1, -, hf⟩ := s_bind hf
    obtain ⟨σ2, hh, hf⟩ := s_bind hf
    refine s_lz.tr (s_le2 (s_pf_2 hh)) ?_
    cases hf
    exact s_le.rf
  · obtain ⟨x3, -, hf⟩ := s_bind hf
    obtain ⟨σ4, hh, hf⟩ := s_bind hf
    refine s_lz.tr (s_le2 (s_si_2 hh)) ?_
    cases hf
    exact s_le.rf
theorem l_X2_make_s {x : sL} {z : sZ Int32} (hs : S_X2_make x = some z) : s_lz x.2.2 z := by
  obtain ⟨pc, vs, σ⟩ := x
  unfold S_X2_make at hs
  dsimp only at hs ⊢
  rcases s_ite hs with ⟨c, hs⟩ | ⟨-, hs⟩
  · subst c
    unfold U_X2_make_0 at hs
    obtain ⟨a0, g0, hs⟩ := s_bind hs
    obtain ⟨a1, g1, hs⟩ := s_bind hs
    obtain ⟨a2, g2, hs⟩ := s_bind hs
    obtain ⟨a3, g3, hs⟩ := s_bind hs
    obtain ⟨u9, ge, hs⟩ := s_bind hs
    exact l_X2_make_0 hs
  rcases s_ite hs with ⟨c, hs⟩ | ⟨-, hs⟩
  · subst c
    unfold U_X2_make_28 at hs
    obtain ⟨a0, g0, hs⟩ := s_bind hs
    obtain ⟨a1, g1, hs⟩ := s_bind hs
    obtain ⟨a2, g2, hs⟩ := s_bind hs
    obtain ⟨a3, g3, hs⟩ := s_bind hs
    obtain ⟨a4, g4, hs⟩ := s_bind hs
    obtain ⟨a5, g5, hs⟩ := s_bind hs
    obtain ⟨a6, g6, hs⟩ := s_bind hs
    obtain ⟨u9, ge, hs⟩ := s_bind hs
    exact l_X2_make_28 hs
  rcases s_ite hs with ⟨c, hs⟩ | ⟨-, hs⟩
  · subst c
    unfold U_X2_make_81 at hs
    obtain ⟨a0, g0, hs⟩ := s_bind hs
    obtain ⟨a1, g1, hs⟩ := s_bind hs
    obtain ⟨a2, g2, hs⟩ := s_bind hs
    obtain ⟨a3, g3, hs⟩ := s_bind hs
    obtain ⟨a4, g4, hs⟩ := s_bind hs
    obtain ⟨u9, ge, hs⟩ := s_bind hs
    exact l_X2_make_81 hs
  rcases s_ite hs with ⟨c, hs⟩ | ⟨-, hs⟩
  · subst c
    unfold U_X2_make_147 at hs
    obtain ⟨a0, g0, hs⟩ := s_bind hs
    obtain ⟨a1, g1, hs⟩ := s_bind hs
    obtain ⟨a2, g2, hs⟩ := s_bind hs
    obtain ⟨a3, g3, hs⟩ := s_bind hs
    obtain ⟨a4, g4, hs⟩ := s_bind hs
    obtain ⟨a5, g5, hs⟩ := s_bind hs
    obtain ⟨u9, ge, hs⟩ := s_bind hs
    exact l_X2_make_147 hs
  rcases s_ite hs with ⟨c, hs⟩ | ⟨-, hs⟩
  · subst c
    unfold U_X2_make_174 at hs
    obtain ⟨a0, g0, hs⟩ := s_bind hs
    obtain ⟨a1, g1, hs⟩ := s_bind hs
    obtain ⟨a2, g2, hs⟩ := s_bind hs
    obtain ⟨u9, ge, hs⟩ := s_bind hs
    exact l_X2_make_174 hs
  cases hs
theorem l_X2_make {v0 : Nat} {v1 : Int32} {v2 : Int32} {v3 : Int32} {σ : sS} {q : Int32 × sS} (h : F_X2_make v0 v1 v2 v3 σ = some q) : s_le σ q.2 := by
  unfold F_X2_make at h
  obtain ⟨-, -, h⟩ := s_bind h
  exact s_run_ind (V := fun x r => s_le x.2.2 r.2) (fun x z r hs hk => by
    have h9 := l_X2_make_s hs
    cases z with
    | inl y => exact s_le.tr h9 hk
    | inr q => cases hk; exact h9) h
theorem b_X2_make {v0 : Nat} {v1 : Int32} {v2 : Int32} {v3 : Int32} {σ : sS} {q : Int32 × sS} (h : F_X2_make v0 v1 v2 v3 σ = some q) : ∃ fs, σ.1 v0 = some (.inr (2, fs)) := by
  unfold F_X2_make at h
  obtain ⟨u, hu, -⟩ := s_bind h
  exact s_is_to hu
set_option maxRecDepth 100000 in
set_option maxHeartbeats 4000000 in
theorem v_X2_make_0 {G : sG} {d : Nat} {vs0 : List Value} {σ0 : sS} {v0 : Nat} {v1 : Int32} {v2 : Int32} {v3 : Int32} {σ : sS} {z : sZ Int32} {r : Int32 × sS} (hf : T_X2_make_0 v0 v1 v2 v3 σ = some z) (k : s_K G (d + 3) M_X2_make vs0 σ0 Y_X2_make e_I z r) : s_V G (d + 3) M_X2_make vs0 σ0 Y_X2_make (0, [.ref v0, .int v1, .int v2, .int v3], σ) (e_I r) := by
  have le0 : s_le σ (e_I r).2 := s_lek hem_I (l_X2_make_0 hf) k
  refine ⟨le0, ?_⟩
  intro p e s m below meth c H locs cells slots ls X I hn1 hn2 hl
  have hn : cells + σ0.2.1 ≤ σ.2.1 ∧ slots + σ0.2.2.1 ≤ σ.2.2.1 := ⟨hn1, hn2⟩
  have hl : lv_has ls 8 [(0, .ref v0), (1, .int v1), (2, .int v2), (3, .int v3)] := hl
  have hx := X.1
  have hb : c.code = cX2_make := X.2.1
  have hown : s.vm.findClass RX2 = some m.cls := X.2.2.2.2.2.1
  have hts := X.2.2.2.2.2.2.1
  refine W.eq (g2 := F0 m 0 ls []) rfl ?_
  unfold T_X2_make_0 at hf
  obtain ⟨x1, h1, hf⟩ := s_bind hf
  obtain ⟨x2, h2, hf⟩ := s_bind hf
  cases hf
  have k : s_V G (d + 3) M_X2_make vs0 σ0 Y_X2_make (28, [.ref v0, .int v1, .int v2, .int v3, .int (((((v1 * 31) + v2) * 31) + v3) &&& 127), .int x2, .int 0], σ) (e_I r) := k
  refine lv_iload_n hx hb dX2_make_0 rfl (lv_at hl 1 rfl) ?_
  refine lv_bipush (v := 31) hx hb dX2_make_1 (by decide) ?_
  refine lv_imul hx hb dX2_make_3 ?_
  refine lv_iload_n hx hb dX2_make_4 rfl (lv_at hl 2 rfl) ?_
  refine lv_iadd hx hb dX2_make_5 ?_
  refine lv_bipush (v := 31) hx hb dX2_make_6 (by decide) ?_
  refine lv_imul hx hb dX2_make_8 ?_
  refine lv_iload_n hx hb dX2_make_9 rfl (lv_at hl 3 rfl) ?_
  refine lv_iadd hx hb dX2_make_10 ?_
  refine lv_bipush (v := 127) hx hb dX2_make_11 (by decide) ?_
  refine lv_iand hx hb dX2_make_13 ?_
  refine lv_istore (lv' := [(4, .int (((((v1 * 31) + v2) * 31) + v3) &&& 127)), (0, .ref v0), (1, .int v1), (2, .int v2), (3, .int v3)]) hx hb dX2_make_14 hl (by decide) rfl (fun ls hl => ?_)
  refine lv_aload_n hx hb dX2_make_16 rfl (lv_at hl 1 rfl) ?_
  refine r_gr X I fl_X2_30 h1 dX2_make_17 ?_
  refine lv_iload hx hb dX2_make_20 (lv_at hl 0 rfl) ?_
  refine r_iald X I h2 dX2_make_22 ?_
  refine lv_istore (lv' := [(5, .int x2), (4, .int (((((v1 * 31) + v2) * 31) + v3) &&& 127)), (0, .ref v0), (1, .int v1), (2, .int v2), (3, .int v3)]) hx hb dX2_make_23 hl (by decide) rfl (fun ls hl => ?_)
  refine lv_iconst (v := 0) hx hb dX2_make_25 (by decide) ?_
  refine lv_istore (lv' := [(6, .int 0), (5, .int x2), (4, .int (((((v1 * 31) + v2) * 31) + v3) &&& 127)), (0, .ref v0), (1, .int v1), (2, .int v2), (3, .int v3)]) hx hb dX2_make_26 hl (by decide) rfl (fun ls hl => ?_)
  exact k.2 p e s m below meth c _ _ _ _ _ X I hn.1 hn.2 (lv_sub hl [3, 4, 5, 6, 2, 1, 0] rfl)
set_option maxRecDepth 100000 in
set_option maxHeartbeats 4000000 in
theorem v_X2_make_28 {G : sG} {d : Nat} {vs0 : List Value} {σ0 : sS} {v0 : Nat} {v1 : Int32} {v2 : Int32} {v3 : Int32} {v4 : Int32} {v5 : Int32} {v6 : Int32} {σ : sS} {z : sZ Int32} {r : Int32 × sS} (hf : T_X2_make_28 v0 v1 v2 v3 v4 v5 v6 σ = some z) (k : s_K G (d + 3) M_X2_make vs0 σ0 Y_X2_make e_I z r) : s_V G (d + 3) M_X2_make vs0 σ0 Y_X2_make (28, [.ref v0, .int v1, .int v2, .int v3, .int v4, .int v5, .int v6], σ) (e_I r) := by
  have le0 : s_le σ (e_I r).2 := s_lek hem_I (l_X2_make_28 hf) k
  refine ⟨le0, ?_⟩
  intro p e s m below meth c H locs cells slots ls X I hn1 hn2 hl
  have hn : cells + σ0.2.1 ≤ σ.2.1 ∧ slots + σ0.2.2.1 ≤ σ.2.2.1 := ⟨hn1, hn2⟩
  have hl : lv_has ls 8 [(0, .ref v0), (1, .int v1), (2, .int v2), (3, .int v3), (4, .int v4), (5, .int v5), (6, .int v6)] := hl
  have hx := X.1
  have hb : c.code = cX2_make := X.2.1
  have hown : s.vm.findClass RX2 = some m.cls := X.2.2.2.2.2.1
  have hts := X.2.2.2.2.2.2.1
  refine W.eq (g2 := F0 m 28 ls []) rfl ?_
  unfold T_X2_make_28 at hf
  obtain ⟨x1, h1, hf⟩ := s_bind hf
  refine lv_iload hx hb dX2_make_28 (lv_at hl 6 rfl) ?_
  refine lv_aload_n hx hb dX2_make_30 rfl (lv_at hl 0 rfl) ?_
  refine r_gi X I fl_X2_39 h1 dX2_make_31 ?_
  rcases s_ite hf with ⟨c2, hf⟩ | ⟨c2, hf⟩
  · refine lv_icmp_ge (tgt := 81) hx hb dX2_make_34 (by decide) (fun _ => ?_) (fun n => absurd c2 n)
    cases hf
    have k : s_V G (d + 3) M_X2_make vs0 σ0 Y_X2_make (81, [.ref v0, .int v1, .int v2, .int v3, .int v4], σ) (e_I r) := k
    exact k.2 p e s m below meth c _ _ _ _ _ X I hn.1 hn.2 (lv_sub hl [0, 1, 2, 3, 4] rfl)
  · refine lv_icmp_ge (tgt := 81) hx hb dX2_make_34 (by decide) (fun n => absurd n c2) (fun _ => ?_)
    refine lv_iload hx hb dX2_make_37 (lv_at hl 5 rfl) ?_
    rcases s_ite hf with ⟨c3, hf⟩ | ⟨c3, hf⟩
    · refine lv_if_lt (tgt := 81) hx hb dX2_make_39 (by decide) (fun _ => ?_) (fun n => absurd c3 n)
      cases hf
      have k : s_V G (d + 3) M_X2_make vs0 σ0 Y_X2_make (81, [.ref v0, .int v1, .int v2, .int v3, .int v4], σ) (e_I r) := k
      exact k.2 p e s m below meth c _ _ _ _ _ X I hn.1 hn.2 (lv_sub hl [0, 1, 2, 3, 4] rfl)
    · refine lv_if_lt (tgt := 81) hx hb dX2_make_39 (by decide) (fun n => absurd n c3) (fun _ => ?_)
      obtain ⟨x2, h4, hf⟩ := s_bind hf
      refine lv_iload hx hb dX2_make_42 (lv_at hl 5 rfl) ?_
      refine lv_aload_n hx hb dX2_make_44 rfl (lv_at hl 0 rfl) ?_
      refine r_gi X I fl_X2_39 h4 dX2_make_45 ?_
      rcases s_ite hf with ⟨c5, hf⟩ | ⟨c5, hf⟩
      · refine lv_icmp_ge (tgt := 81) hx hb dX2_make_48 (by decide) (fun _ => ?_) (fun n => absurd c5 n)
        cases hf
        have k : s_V G (d + 3) M_X2_make vs0 σ0 Y_X2_make (81, [.ref v0, .int v1, .int v2, .int v3, .int v4], σ) (e_I r) := k
        exact k.2 p e s m below meth c _ _ _ _ _ X I hn.1 hn.2 (lv_sub hl [0, 1, 2, 3, 4] rfl)
      · refine lv_icmp_ge (tgt := 81) hx hb dX2_make_48 (by decide) (fun n => absurd n c5) (fun _ => ?_)
        obtain ⟨q3, h6, hf⟩ := s_bind hf
        have le7 : s_le q3.2 (e_I r).2 := by
          refine s_lek hem_I ?_ k
          rcases s_ite hf with ⟨-, hf⟩ | ⟨-, hf⟩
          · obtain ⟨x4, -, hf⟩ := s_bind hf
            obtain ⟨x5, -, hf⟩ := s_bind hf
            cases hf
            exact s_le.rf
          · cases hf
            exact s_le.rf
        refine lv_aload_n hx hb dX2_make_51 rfl (lv_at hl 0 rfl) ?_
        refine lv_iload hx hb dX2_make_52 (lv_at hl 5 rfl) ?_
        refine lv_iload_n hx hb dX2_make_54 rfl (lv_at hl 1 rfl) ?_
        refine lv_iload_n hx hb dX2_make_55 rfl (lv_at hl 2 rfl) ?_
        refine lv_iload_n hx hb dX2_make_56 rfl (lv_at hl 3 rfl) ?_
        refine r_callV (Y := M_X2_isMade) (v := some (.int q3.1)) X I w_749 my_X2_isMade (by omega) (t_X2_isMade (G := G) (d := d + 1) h6) (b_X2_isMade h6) rfl rfl hl.1 rfl (Nat.le_of_ble_eq_true rfl) hn le7 dX2_make_57 (fun H locs cells slots I hn1 hn2 => ?_)
        have I : s_I G q3.2 s H locs := I
        have hn : cells + σ0.2.1 ≤ q3.2.2.1 ∧ slots + σ0.2.2.1 ≤ q3.2.2.2.1 := ⟨hn1, hn2⟩
        rcases s_ite hf with ⟨c8, hf⟩ | ⟨c8, hf⟩
        · refine lv_if_eq (tgt := 66) hx hb dX2_make_60 (by decide) (fun _ => ?_) (fun n => absurd c8 n)
          obtain ⟨x4, h9, hf⟩ := s_bind hf
          obtain ⟨x5, h10, hf⟩ := s_bind hf
          cases hf
          have k : s_V G (d + 3) M_X2_make vs0 σ0 Y_X2_make (28, [.ref v0, .int v1, .int v2, .int v3, .int v4, .int x5, .int (v6 + 1)], q3.2) (e_I r) := k
          refine lv_aload_n hx hb dX2_make_66 rfl (lv_at hl 0 rfl) ?_
          refine r_gr X I fl_X2_24 h9 dX2_make_67 ?_
          refine lv_iload hx hb dX2_make_70 (lv_at hl 5 rfl) ?_
          refine r_iald X I h10 dX2_make_72 ?_
          refine lv_istore (lv' := [(5, .int x5), (0, .ref v0), (1, .int v1), (2, .int v2), (3, .int v3), (4, .int v4), (6, .int v6)]) hx hb dX2_make_73 hl (by decide) rfl (fun ls hl => ?_)
          refine lv_iinc (v := (v6 + 1)) (lv' := [(6, .int (v6 + 1)), (5, .int x5), (0, .ref v0), (1, .int v1), (2, .int v2), (3, .int v3), (4, .int v4)]) hx hb dX2_make_75 hl (k := 6) rfl rfl (by decide) rfl (fun ls hl => ?_)
          refine lv_goto (tgt := 28) hx hb dX2_make_78 (by decide) ?_
          exact k.2 p e s m below meth c _ _ _ _ _ X I hn.1 hn.2 (lv_sub hl [2, 3, 4, 5, 6, 1, 0] rfl)
        · refine lv_if_eq (tgt := 66) hx hb dX2_make_60 (by decide) (fun n => absurd n c8) (fun _ => ?_)
          cases hf
          have k : _ = r := k
          subst k
          refine lv_iload hx hb dX2_make_63 (lv_at hl 5 rfl) ?_
          exact r_iret X I rfl rfl rfl hn dX2_make_65
set_option maxRecDepth 100000 in
set_option maxHeartbeats 4000000 in
theorem v_X2_make_81 {G : sG} {d : Nat} {vs0 : List Value} {σ0 : sS} {v0 : Nat} {v1 : Int32} {v2 : Int32} {v3 : Int32} {v4 : Int32} {σ : sS} {z : sZ Int32} {r : Int32 × sS} (hf : T_X2_make_81 v0 v1 v2 v3 v4 σ = some z) (k : s_K G (d + 3) M_X2_make vs0 σ0 Y_X2_make e_I z r) : s_V G (d + 3) M_X2_make vs0 σ0 Y_X2_make (81, [.ref v0, .int v1, .int v2, .int v3, .int v4], σ) (e_I r) := by
  have le0 : s_le σ (e_I r).2 := s_lek hem_I (l_X2_make_81 hf) k
  refine ⟨le0, ?_⟩
  intro p e s m below meth c H locs cells slots ls X I hn1 hn2 hl
  have hn : cells + σ0.2.1 ≤ σ.2.1 ∧ slots + σ0.2.2.1 ≤ σ.2.2.1 := ⟨hn1, hn2⟩
  have hl : lv_has ls 8 [(0, .ref v0), (1, .int v1), (2, .int v2), (3, .int v3), (4, .int v4)] := hl
  have hx := X.1
  have hb : c.code = cX2_make := X.2.1
  have hown : s.vm.findClass RX2 = some m.cls := X.2.2.2.2.2.1
  have hts := X.2.2.2.2.2.2.1
  refine W.eq (g2 := F0 m 81 ls []) rfl ?_
  unfold T_X2_make_81 at hf
  obtain ⟨q1, h1, hf⟩ := s_bind hf
  have le2 : s_le q1.2 (e_I r).2 := by
    refine s_lek hem_I ?_ k
    rcases s_ite hf with ⟨-, hf⟩ | ⟨-, hf⟩
    · cases hf
      exact s_le.rf
    · obtain ⟨x2, -, hf⟩ := s_bind hf
      obtain ⟨x3, -, hf⟩ := s_bind hf
      obtain ⟨σ4, hh, hf⟩ := s_bind hf
      refine s_lz.tr (s_le2 (s_si_2 hh)) ?_
      obtain ⟨x5, -, hf⟩ := s_bind hf
      obtain ⟨σ6, hh, hf⟩ := s_bind hf
      refine s_lz.tr (s_le2 (s_si_2 hh)) ?_
      obtain ⟨x7, -, hf⟩ := s_bind hf
      obtain ⟨σ8, hh, hf⟩ := s_bind hf
      refine s_lz.tr (s_le2 (s_si_2 hh)) ?_
      obtain ⟨x9, -, hf⟩ := s_bind hf
      rcases s_ite hf with ⟨-, hf⟩ | ⟨-, hf⟩
      · cases hf
        exact s_le.rf
      · obtain ⟨q10, hh, hf⟩ := s_bind hf
        refine s_lz.tr (l_X2_signsOf hh) ?_
        obtain ⟨q11, hh, hf⟩ := s_bind hf
        refine s_lz.tr (l_X2_signsOf hh) ?_
        cases hf
        exact s_le.rf
  refine lv_aload_n hx hb dX2_make_81 rfl (lv_at hl 0 rfl) ?_
  refine r_callV (Y := M_X2_hasRoom) (v := some (.int q1.1)) X I w_750 my_X2_hasRoom (by omega) (t_X2_hasRoom (G := G) (d := d + 0) h1) (b_X2_hasRoom h1) rfl rfl hl.1 rfl (Nat.le_of_ble_eq_true rfl) hn le2 dX2_make_82 (fun H locs cells slots I hn1 hn2 => ?_)
  have I : s_I G q1.2 s H locs := I
  have hn : cells + σ0.2.1 ≤ q1.2.2.1 ∧ slots + σ0.2.2.1 ≤ q1.2.2.2.1 := ⟨hn1, hn2⟩
  rcases s_ite hf with ⟨c3, hf⟩ | ⟨c3, hf⟩
  · refine lv_if_ne (tgt := 90) hx hb dX2_make_85 (by decide) (fun n => absurd c3 n) (fun _ => ?_)
    cases hf
    have k : _ = r := k
    subst k
    refine lv_iconst (v := (-1)) hx hb dX2_make_88 (by decide) ?_
    exact r_iret X I rfl rfl rfl hn dX2_make_89
  · refine lv_if_ne (tgt := 90) hx hb dX2_make_85 (by decide) (fun _ => ?_) (fun n => absurd n c3)
    obtain ⟨x2, h4, hf⟩ := s_bind hf
    obtain ⟨x3, h5, hf⟩ := s_bind hf
    obtain ⟨σ4, h6, hf⟩ := s_bind hf
    obtain ⟨x5, h7, hf⟩ := s_bind hf
    obtain ⟨σ6, h8, hf⟩ := s_bind hf
    obtain ⟨x7, h9, hf⟩ := s_bind hf
    obtain ⟨σ8, h10, hf⟩ := s_bind hf
    obtain ⟨x9, h11, hf⟩ := s_bind hf
    have le12 : s_le σ8 (e_I r).2 := by
      refine s_lek hem_I ?_ k
      rcases s_ite hf with ⟨-, hf⟩ | ⟨-, hf⟩
      · cases hf
        exact s_le.rf
      · obtain ⟨q10, hh, hf⟩ := s_bind hf
        refine s_lz.tr (l_X2_signsOf hh) ?_
        obtain ⟨q11, hh, hf⟩ := s_bind hf
        refine s_lz.tr (l_X2_signsOf hh) ?_
        cases hf
        exact s_le.rf
    have le13 := s_le.tr (s_le2 (s_si_2 h10)) le12
    have le14 := s_le.tr (s_le2 (s_si_2 h8)) le13
    refine lv_aload_n hx hb dX2_make_90 rfl (lv_at hl 0 rfl) ?_
    refine r_gi X I fl_X2_39 h4 dX2_make_91 ?_
    refine lv_istore (lv' := [(6, .int x2), (0, .ref v0), (1, .int v1), (2, .int v2), (3, .int v3), (4, .int v4)]) hx hb dX2_make_94 hl (by decide) rfl (fun ls hl => ?_)
    refine lv_aload_n hx hb dX2_make_96 rfl (lv_at hl 1 rfl) ?_
    refine r_gr X I fl_X2_11 h5 dX2_make_97 ?_
    refine lv_iload hx hb dX2_make_100 (lv_at hl 0 rfl) ?_
    refine lv_iload_n hx hb dX2_make_102 rfl (lv_at hl 2 rfl) ?_
    refine r_iast X I h6 dX2_make_103 (fun H locs I => ?_)
    have hn := s_k2 (s_si_2 h6) hn
    refine lv_aload_n hx hb dX2_make_104 rfl (lv_at hl 1 rfl) ?_
    refine r_gr X I fl_X2_15 h7 dX2_make_105 ?_
    refine lv_iload hx hb dX2_make_108 (lv_at hl 0 rfl) ?_
    refine lv_iload_n hx hb dX2_make_110 rfl (lv_at hl 3 rfl) ?_
    refine r_iast X I h8 dX2_make_111 (fun H locs I => ?_)
    have hn := s_k2 (s_si_2 h8) hn
    refine lv_aload_n hx hb dX2_make_112 rfl (lv_at hl 1 rfl) ?_
    refine r_gr X I fl_X2_18 h9 dX2_make_113 ?_
    refine lv_iload hx hb dX2_make_116 (lv_at hl 0 rfl) ?_
    refine lv_iload_n hx hb dX2_make_118 rfl (lv_at hl 4 rfl) ?_
    refine r_iast X I h10 dX2_make_119 (fun H locs I => ?_)
    have hn := s_k2 (s_si_2 h10) hn
    refine lv_aload_n hx hb dX2_make_120 rfl (lv_at hl 1 rfl) ?_
    refine r_gr X I fl_X2_21 h11 dX2_make_121 ?_
    refine lv_iload hx hb dX2_make_124 (lv_at hl 0 rfl) ?_
    refine lv_iload_n hx hb dX2_make_126 rfl (lv_at hl 2 rfl) ?_
    rcases s_ite hf with ⟨c15, hf⟩ | ⟨c15, hf⟩
    · refine lv_if_ne (tgt := 134) hx hb dX2_make_127 (by decide) (fun n => absurd c15 n) (fun _ => ?_)
      cases hf
      have k : s_V G (d + 3) M_X2_make vs0 σ0 Y_X2_make (147, [.ref v0, .int v4, .int x2, .int 1, .int x2, .ref x9], σ8) (e_I r) := k
      refine lv_iconst (v := 1) hx hb dX2_make_130 (by decide) ?_
      refine lv_goto (tgt := 147) hx hb dX2_make_131 (by decide) ?_
      exact k.2 p e s m below meth c _ _ _ _ _ X I hn.1 hn.2 (lv_sub hl [1, 5, 0] rfl)
    · refine lv_if_ne (tgt := 134) hx hb dX2_make_127 (by decide) (fun _ => ?_) (fun n => absurd n c15)
      obtain ⟨q10, h16, hf⟩ := s_bind hf
      obtain ⟨q11, h17, hf⟩ := s_bind hf
      cases hf
      have k : s_V G (d + 3) M_X2_make vs0 σ0 Y_X2_make (147, [.ref v0, .int v4, .int x2, .int ((1 + q10.1) + q11.1), .int x2, .ref x9], q11.2) (e_I r) := k
      have le18 : s_le q11.2 (e_I r).2 := k.1
      have le19 := s_le.tr (l_X2_signsOf h17) le18
      refine lv_iconst (v := 1) hx hb dX2_make_134 (by decide) ?_
      refine lv_aload_n hx hb dX2_make_135 rfl (lv_at hl 1 rfl) ?_
      refine lv_iload_n hx hb dX2_make_136 rfl (lv_at hl 3 rfl) ?_
      refine r_callV (Y := M_X2_signsOf) (v := some (.int q10.1)) X I w_768 my_X2_signsOf (by omega) (t_X2_signsOf (G := G) (d := d + 1) h16) (b_X2_signsOf h16) rfl rfl hl.1 rfl (Nat.le_of_ble_eq_true rfl) hn le19 dX2_make_137 (fun H locs cells slots I hn1 hn2 => ?_)
      have I : s_I G q10.2 s H locs := I
      have hn : cells + σ0.2.1 ≤ q10.2.2.1 ∧ slots + σ0.2.2.1 ≤ q10.2.2.2.1 := ⟨hn1, hn2⟩
      refine lv_iadd hx hb dX2_make_140 ?_
      refine lv_aload_n hx hb dX2_make_141 rfl (lv_at hl 1 rfl) ?_
      refine lv_iload_n hx hb dX2_make_142 rfl (lv_at hl 4 rfl) ?_
      refine r_callV (Y := M_X2_signsOf) (v := some (.int q11.1)) X I w_768 my_X2_signsOf (by omega) (t_X2_signsOf (G := G) (d := d + 1) h17) (b_X2_signsOf h17) rfl rfl hl.1 rfl (Nat.le_of_ble_eq_true rfl) hn le18 dX2_make_143 (fun H locs cells slots I hn1 hn2 => ?_)
      have I : s_I G q11.2 s H locs := I
      have hn : cells + σ0.2.1 ≤ q11.2.2.1 ∧ slots + σ0.2.2.1 ≤ q11.2.2.2.1 := ⟨hn1, hn2⟩
      refine lv_iadd hx hb dX2_make_146 ?_
      exact k.2 p e s m below meth c _ _ _ _ _ X I hn.1 hn.2 (lv_sub hl [1, 5, 0] rfl)
set_option maxRecDepth 100000 in
set_option maxHeartbeats 4000000 in
theorem v_X2_make_147 {G : sG} {d : Nat} {vs0 : List Value} {σ0 : sS} {v0 : Nat} {v4 : Int32} {v6 : Int32} {w0 : Int32} {w1 : Int32} {w2 : Nat} {σ : sS} {z : sZ Int32} {r : Int32 × sS} (hf : T_X2_make_147 v0 v4 v6 w0 w1 w2 σ = some z) (k : s_K G (d + 3) M_X2_make vs0 σ0 Y_X2_make e_I z r) : s_V G (d + 3) M_X2_make vs0 σ0 Y_X2_make (147, [.ref v0, .int v4, .int v6, .int w0, .int w1, .ref w2], σ) (e_I r) := by
  have le0 : s_le σ (e_I r).2 := s_lek hem_I (l_X2_make_147 hf) k
  refine ⟨le0, ?_⟩
  intro p e s m below meth c H locs cells slots ls X I hn1 hn2 hl
  have hn : cells + σ0.2.1 ≤ σ.2.1 ∧ slots + σ0.2.2.1 ≤ σ.2.2.1 := ⟨hn1, hn2⟩
  have hl : lv_has ls 8 [(0, .ref v0), (4, .int v4), (6, .int v6)] := hl
  have hx := X.1
  have hb : c.code = cX2_make := X.2.1
  have hown : s.vm.findClass RX2 = some m.cls := X.2.2.2.2.2.1
  have hts := X.2.2.2.2.2.2.1
  refine W.eq (g2 := F0 m 147 ls [.int w0, .int w1, .ref w2]) rfl ?_
  unfold T_X2_make_147 at hf
  obtain ⟨σ1, h1, hf⟩ := s_bind hf
  obtain ⟨x2, h2, hf⟩ := s_bind hf
  obtain ⟨x3, h3, hf⟩ := s_bind hf
  obtain ⟨x4, h4, hf⟩ := s_bind hf
  obtain ⟨σ5, h5, hf⟩ := s_bind hf
  obtain ⟨x6, h6, hf⟩ := s_bind hf
  obtain ⟨σ7, h7, hf⟩ := s_bind hf
  cases hf
  have k : s_V G (d + 3) M_X2_make vs0 σ0 Y_X2_make (174, [.ref v0, .int v6, .int 0], σ7) (e_I r) := k
  have le8 : s_le σ7 (e_I r).2 := k.1
  have le9 := s_le.tr (s_le2 (s_si_2 h7)) le8
  have le10 := s_le.tr (s_le2 (s_si_2 h5)) le9
  refine r_iast X I h1 dX2_make_147 (fun H locs I => ?_)
  have hn := s_k2 (s_si_2 h1) hn
  refine lv_aload_n hx hb dX2_make_148 rfl (lv_at hl 0 rfl) ?_
  refine r_gr X I fl_X2_24 h2 dX2_make_149 ?_
  refine lv_iload hx hb dX2_make_152 (lv_at hl 2 rfl) ?_
  refine lv_aload_n hx hb dX2_make_154 rfl (lv_at hl 0 rfl) ?_
  refine r_gr X I fl_X2_30 h3 dX2_make_155 ?_
  refine lv_iload hx hb dX2_make_158 (lv_at hl 1 rfl) ?_
  refine r_iald X I h4 dX2_make_160 ?_
  refine r_iast X I h5 dX2_make_161 (fun H locs I => ?_)
  have hn := s_k2 (s_si_2 h5) hn
  refine lv_aload_n hx hb dX2_make_162 rfl (lv_at hl 0 rfl) ?_
  refine r_gr X I fl_X2_30 h6 dX2_make_163 ?_
  refine lv_iload hx hb dX2_make_166 (lv_at hl 1 rfl) ?_
  refine lv_iload hx hb dX2_make_168 (lv_at hl 2 rfl) ?_
  refine r_iast X I h7 dX2_make_170 (fun H locs I => ?_)
  have hn := s_k2 (s_si_2 h7) hn
  refine lv_iconst (v := 0) hx hb dX2_make_171 (by decide) ?_
  refine lv_istore (lv' := [(7, .int 0), (0, .ref v0), (4, .int v4), (6, .int v6)]) hx hb dX2_make_172 hl (by decide) rfl (fun ls hl => ?_)
  exact k.2 p e s m below meth c _ _ _ _ _ X I hn.1 hn.2 (lv_sub hl [1, 3, 0] rfl)
set_option maxRecDepth 100000 in
set_option maxHeartbeats 4000000 in
theorem v_X2_make_174 {G : sG} {d : Nat} {vs0 : List Value} {σ0 : sS} {v0 : Nat} {v6 : Int32} {v7 : Int32} {σ : sS} {z : sZ Int32} {r : Int32 × sS} (hf : T_X2_make_174 v0 v6 v7 σ = some z) (k : s_K G (d + 3) M_X2_make vs0 σ0 Y_X2_make e_I z r) : s_V G (d + 3) M_X2_make vs0 σ0 Y_X2_make (174, [.ref v0, .int v6, .int v7], σ) (e_I r) := by
  have le0 : s_le σ (e_I r).2 := s_lek hem_I (l_X2_make_174 hf) k
  refine ⟨le0, ?_⟩
  intro p e s m below meth c H locs cells slots ls X I hn1 hn2 hl
  have hn : cells + σ0.2.1 ≤ σ.2.1 ∧ slots + σ0.2.2.1 ≤ σ.2.2.1 := ⟨hn1, hn2⟩
  have hl : lv_has ls 8 [(0, .ref v0), (6, .int v6), (7, .int v7)] := hl
  have hx := X.1
  have hb : c.code = cX2_make := X.2.1
  have hown : s.vm.findClass RX2 = some m.cls := X.2.2.2.2.2.1
  have hts := X.2.2.2.2.2.2.1
  refine W.eq (g2 := F0 m 174 ls []) rfl ?_
  unfold T_X2_make_174 at hf
  refine lv_iload hx hb dX2_make_174 (lv_at hl 2 rfl) ?_
  refine lv_iconst (v := 3) hx hb dX2_make_176 (by decide) ?_
  rcases s_ite hf with ⟨c1, hf⟩ | ⟨c1, hf⟩
  · refine lv_icmp_ge (tgt := 199) hx hb dX2_make_177 (by decide) (fun _ => ?_) (fun n => absurd c1 n)
    obtain ⟨x1, h2, hf⟩ := s_bind hf
    obtain ⟨σ2, h3, hf⟩ := s_bind hf
    cases hf
    have k : _ = r := k
    subst k
    have le4 : s_le σ2 σ2 := s_le.rf
    refine lv_aload_n hx hb dX2_make_199 rfl (lv_at hl 0 rfl) ?_
    refine lv_dup hx hb dX2_make_200 rfl ?_
    refine r_gi X I fl_X2_39 h2 dX2_make_201 ?_
    refine lv_iconst (v := 1) hx hb dX2_make_204 (by decide) ?_
    refine lv_iadd hx hb dX2_make_205 ?_
    refine r_put X I fp_X2_39 (fun h => by cases h) h3 rfl rfl dX2_make_206 (fun H locs I => ?_)
    have hn := s_k2 (s_pf_2 h3) hn
    refine lv_iload hx hb dX2_make_209 (lv_at hl 1 rfl) ?_
    exact r_iret X I rfl rfl rfl hn dX2_make_211
  · refine lv_icmp_ge (tgt := 199) hx hb dX2_make_177 (by decide) (fun n => absurd n c1) (fun _ => ?_)
    obtain ⟨x3, h5, hf⟩ := s_bind hf
    obtain ⟨σ4, h6, hf⟩ := s_bind hf
    cases hf
    have k : s_V G (d + 3) M_X2_make vs0 σ0 Y_X2_make (174, [.ref v0, .int v6, .int (v7 + 1)], σ4) (e_I r) := k
    have le7 : s_le σ4 (e_I r).2 := k.1
    refine lv_aload_n hx hb dX2_make_180 rfl (lv_at hl 0 rfl) ?_
    refine r_gr X I fl_X2_27 h5 dX2_make_181 ?_
    refine lv_iload hx hb dX2_make_184 (lv_at hl 1 rfl) ?_
    refine lv_iconst (v := 3) hx hb dX2_make_186 (by decide) ?_
    refine lv_imul hx hb dX2_make_187 ?_
    refine lv_iload hx hb dX2_make_188 (lv_at hl 2 rfl) ?_
    refine lv_iadd hx hb dX2_make_190 ?_
    refine lv_iconst (v := (-1)) hx hb dX2_make_191 (by decide) ?_
    refine r_iast X I h6 dX2_make_192 (fun H locs I => ?_)
    have hn := s_k2 (s_si_2 h6) hn
    refine lv_iinc (v := (v7 + 1)) (lv' := [(7, .int (v7 + 1)), (0, .ref v0), (6, .int v6)]) hx hb dX2_make_193 hl (k := 2) rfl rfl (by decide) rfl (fun ls hl => ?_)
    refine lv_goto (tgt := 174) hx hb dX2_make_196 (by decide) ?_
    exact k.2 p e s m below meth c _ _ _ _ _ X I hn.1 hn.2 (lv_sub hl [1, 2, 0] rfl)
theorem v_X2_make {G : sG} {d : Nat} {vs0 : List Value} {σ0 : sS} {x : sL} {z : sZ Int32} {r : Int32 × sS} (hs : S_X2_make x = some z) (k : s_K G (d + 3) M_X2_make vs0 σ0 Y_X2_make e_I z r) : s_V G (d + 3) M_X2_make vs0 σ0 Y_X2_make x (e_I r) := by
  obtain ⟨pc, vs, σ⟩ := x
  unfold S_X2_make at hs
  dsimp only at hs
  rcases s_ite hs with ⟨c, hs⟩ | ⟨-, hs⟩
  · subst c
    unfold U_X2_make_0 at hs
    obtain ⟨a0, g0, hs⟩ := s_bind hs
    obtain ⟨a1, g1, hs⟩ := s_bind hs
    obtain ⟨a2, g2, hs⟩ := s_bind hs
    obtain ⟨a3, g3, hs⟩ := s_bind hs
    obtain ⟨u9, ge, hs⟩ := s_bind hs
    rw [g_r_to g0, g_i_to g1, g_i_to g2, g_i_to g3, g_e_to ge]
    exact v_X2_make_0 hs k
  rcases s_ite hs with ⟨c, hs⟩ | ⟨-, hs⟩
  · subst c
    unfold U_X2_make_28 at hs
    obtain ⟨a0, g0, hs⟩ := s_bind hs
    obtain ⟨a1, g1, hs⟩ := s_bind hs
    obtain ⟨a2, g2, hs⟩ := s_bind hs
    obtain ⟨a3, g3, hs⟩ := s_bind hs
    obtain ⟨a4, g4, hs⟩ := s_bind hs
    obtain ⟨a5, g5, hs⟩ := s_bind hs
    obtain ⟨a6, g6, hs⟩ := s_bind hs
    obtain ⟨u9, ge, hs⟩ := s_bind hs
    rw [g_r_to g0, g_i_to g1, g_i_to g2, g_i_to g3, g_i_to g4, g_i_to g5, g_i_to g6, g_e_to ge]
    exact v_X2_make_28 hs k
  rcases s_ite hs with ⟨c, hs⟩ | ⟨-, hs⟩
  · subst c
    unfold U_X2_make_81 at hs
    obtain ⟨a0, g0, hs⟩ := s_bind hs
    obtain ⟨a1, g1, hs⟩ := s_bind hs
    obtain ⟨a2, g2, hs⟩ := s_bind hs
    obtain ⟨a3, g3, hs⟩ := s_bind hs
    obtain ⟨a4, g4, hs⟩ := s_bind hs
    obtain ⟨u9, ge, hs⟩ := s_bind hs
    rw [g_r_to g0, g_i_to g1, g_i_to g2, g_i_to g3, g_i_to g4, g_e_to ge]
    exact v_X2_make_81 hs k
  rcases s_ite hs with ⟨c, hs⟩ | ⟨-, hs⟩
  · subst c
    unfold U_X2_make_147 at hs
    obtain ⟨a0, g0, hs⟩ := s_bind hs
    obtain ⟨a1, g1, hs⟩ := s_bind hs
    obtain ⟨a2, g2, hs⟩ := s_bind hs
    obtain ⟨a3, g3, hs⟩ := s_bind hs
    obtain ⟨a4, g4, hs⟩ := s_bind hs
    obtain ⟨a5, g5, hs⟩ := s_bind hs
    obtain ⟨u9, ge, hs⟩ := s_bind hs
    rw [g_r_to g0, g_i_to g1, g_i_to g2, g_i_to g3, g_i_to g4, g_r_to g5, g_e_to ge]
    exact v_X2_make_147 hs k
  rcases s_ite hs with ⟨c, hs⟩ | ⟨-, hs⟩
  · subst c
    unfold U_X2_make_174 at hs
    obtain ⟨a0, g0, hs⟩ := s_bind hs
    obtain ⟨a1, g1, hs⟩ := s_bind hs
    obtain ⟨a2, g2, hs⟩ := s_bind hs
    obtain ⟨u9, ge, hs⟩ := s_bind hs
    rw [g_r_to g0, g_i_to g1, g_i_to g2, g_e_to ge]
    exact v_X2_make_174 hs k
  cases hs
theorem t_X2_make {G : sG} {d : Nat} {v0 : Nat} {v1 : Int32} {v2 : Int32} {v3 : Int32} {σ : sS} {q : Int32 × sS} (h : F_X2_make v0 v1 v2 v3 σ = some q) : s_T G (d + 3) M_X2_make [.ref v0, .int v1, .int v2, .int v3] σ (e_I q) := by
  unfold F_X2_make at h
  obtain ⟨-, -, h⟩ := s_bind h
  exact s_ofV rfl (by decide) (Nat.le_of_ble_eq_true rfl) rfl rfl (s_run_ind (V := fun x r => s_V G (d + 3) M_X2_make [.ref v0, .int v1, .int v2, .int v3] σ Y_X2_make x (e_I r)) (fun x z r hs hk => v_X2_make hs (by cases z <;> exact hk)) h)
/-! X5_join -/
noncomputable def T_X5_join_0 (v0 : Nat) (v1 : Int32) (v2 : Int32) (v3 : Int32) (σ : sS) : Option (sZ Int32) :=
  (s_fi σ v0 5 1).bind fun x1 =>
  if x1 = (-1) then ((s_fr σ v0 5 2).bind fun x2 =>
  (F_X2_make x2 v1 v2 v3 σ).bind fun q3 =>
  some (.inr (q3.1, q3.2)))
  else (some (.inr ((-1), σ)))
noncomputable def U_X5_join_0 (vs : List Value) (σ : sS) : Option (sZ Int32) := (g_r vs).bind fun a0 => (g_i a0.2).bind fun a1 => (g_i a1.2).bind fun a2 => (g_i a2.2).bind fun a3 => (g_e a3.2).bind fun _ => T_X5_join_0 a0.1 a1.1 a2.1 a3.1 σ
noncomputable def S_X5_join (x : sL) : Option (sZ Int32) := if x.1 = 0 then U_X5_join_0 x.2.1 x.2.2 else none
def Y_X5_join (pc : Nat) : List Nat := if pc = 0 then [0, 1, 2, 3] else []
noncomputable def F_X5_join (v0 : Nat) (v1 : Int32) (v2 : Int32) (v3 : Int32) (σ : sS) : Option (Int32 × sS) := (s_is σ v0 5).bind fun _ => s_run S_X5_join (0, [.ref v0, .int v1, .int v2, .int v3], σ)
theorem l_X5_join_0 {v0 : Nat} {v1 : Int32} {v2 : Int32} {v3 : Int32} {σ : sS} {z : sZ Int32} (hf : T_X5_join_0 v0 v1 v2 v3 σ = some z) : s_lz σ z := by
  unfold T_X5_join_0 at hf
  obtain ⟨x1, -, hf⟩ := s_bind hf
  rcases s_ite hf with ⟨-, hf⟩ | ⟨-, hf⟩
  · obtain ⟨x2, -, hf⟩ := s_bind hf
    obtain ⟨q3, hh, hf⟩ := s_bind hf
    refine s_lz.tr (l_X2_make hh) ?_
    cases hf
    exact s_le.rf
  · cases hf
    exact s_le.rf
theorem l_X5_join_s {x : sL} {z : sZ Int32} (hs : S_X5_join x = some z) : s_lz x.2.2 z := by
  obtain ⟨pc, vs, σ⟩ := x
  unfold S_X5_join at hs
  dsimp only at hs ⊢
  rcases s_ite hs with ⟨c, hs⟩ | ⟨-, hs⟩
  · subst c
    unfold U_X5_join_0 at hs
    obtain ⟨a0, g0, hs⟩ := s_bind hs
    obtain ⟨a1, g1, hs⟩ := s_bind hs
    obtain ⟨a2, g2, hs⟩ := s_bind hs
    obtain ⟨a3, g3, hs⟩ := s_bind hs
    obtain ⟨u9, ge, hs⟩ := s_bind hs
    exact l_X5_join_0 hs
  cases hs
theorem l_X5_join {v0 : Nat} {v1 : Int32} {v2 : Int32} {v3 : Int32} {σ : sS} {q : Int32 × sS} (h : F_X5_join v0 v1 v2 v3 σ = some q) : s_le σ q.2 := by
  unfold F_X5_join at h
  obtain ⟨-, -, h⟩ := s_bind h
  exact s_run_ind (V := fun x r => s_le x.2.2 r.2) (fun x z r hs hk => by
    have h9 := l_X5_join_s hs
    cases z with
    | inl y => exact s_le.tr h9 hk
    | inr q => cases hk; exact h9) h
theorem b_X5_join {v0 : Nat} {v1 : Int32} {v2 : Int32} {v3 : Int32} {σ : sS} {q : Int32 × sS} (h : F_X5_join v0 v1 v2 v3 σ = some q) : ∃ fs, σ.1 v0 = some (.inr (5, fs)) := by
  unfold F_X5_join at h
  obtain ⟨u, hu, -⟩ := s_bind h
  exact s_is_to hu
set_option maxRecDepth 100000 in
set_option maxHeartbeats 4000000 in
theorem v_X5_join_0 {G : sG} {d : Nat} {vs0 : List Value} {σ0 : sS} {v0 : Nat} {v1 : Int32} {v2 : Int32} {v3 : Int32} {σ : sS} {z : sZ Int32} {r : Int32 × sS} (hf : T_X5_join_0 v0 v1 v2 v3 σ = some z) (k : s_K G (d + 4) M_X5_join vs0 σ0 Y_X5_join e_I z r) : s_V G (d + 4) M_X5_join vs0 σ0 Y_X5_join (0, [.ref v0, .int v1, .int v2, .int v3], σ) (e_I r) := by
  have le0 : s_le σ (e_I r).2 := s_lek hem_I (l_X5_join_0 hf) k
  refine ⟨le0, ?_⟩
  intro p e s m below meth c H locs cells slots ls X I hn1 hn2 hl
  have hn : cells + σ0.2.1 ≤ σ.2.1 ∧ slots + σ0.2.2.1 ≤ σ.2.2.1 := ⟨hn1, hn2⟩
  have hl : lv_has ls 4 [(0, .ref v0), (1, .int v1), (2, .int v2), (3, .int v3)] := hl
  have hx := X.1
  have hb : c.code = cX5_join := X.2.1
  have hown : s.vm.findClass RX5 = some m.cls := X.2.2.2.2.2.1
  have hts := X.2.2.2.2.2.2.1
  refine W.eq (g2 := F0 m 0 ls []) rfl ?_
  unfold T_X5_join_0 at hf
  obtain ⟨x1, h1, hf⟩ := s_bind hf
  refine lv_aload_n hx hb dX5_join_0 rfl (lv_at hl 0 rfl) ?_
  refine r_gi X I fl_X5_9 h1 dX5_join_1 ?_
  refine lv_iconst (v := (-1)) hx hb dX5_join_4 (by decide) ?_
  rcases s_ite hf with ⟨c2, hf⟩ | ⟨c2, hf⟩
  · refine lv_icmp_ne (tgt := 21) hx hb dX5_join_5 (by decide) (fun n => absurd c2 n) (fun _ => ?_)
    obtain ⟨x2, h3, hf⟩ := s_bind hf
    obtain ⟨q3, h4, hf⟩ := s_bind hf
    cases hf
    have k : _ = r := k
    subst k
    have le5 : s_le q3.2 q3.2 := s_le.rf
    refine lv_aload_n hx hb dX5_join_8 rfl (lv_at hl 0 rfl) ?_
    refine r_gr X I fl_X5_19 h3 dX5_join_9 ?_
    refine lv_iload_n hx hb dX5_join_12 rfl (lv_at hl 1 rfl) ?_
    refine lv_iload_n hx hb dX5_join_13 rfl (lv_at hl 2 rfl) ?_
    refine lv_iload_n hx hb dX5_join_14 rfl (lv_at hl 3 rfl) ?_
    refine r_callV (Y := M_X2_make) (v := some (.int q3.1)) X I w_745 my_X2_make (by omega) (t_X2_make (G := G) (d := d + 0) h4) (b_X2_make h4) rfl rfl hl.1 rfl (Nat.le_of_ble_eq_true rfl) hn le5 dX5_join_15 (fun H locs cells slots I hn1 hn2 => ?_)
    have I : s_I G q3.2 s H locs := I
    have hn : cells + σ0.2.1 ≤ q3.2.2.1 ∧ slots + σ0.2.2.1 ≤ q3.2.2.2.1 := ⟨hn1, hn2⟩
    refine lv_goto (tgt := 22) hx hb dX5_join_18 (by decide) ?_
    exact r_iret X I rfl rfl rfl hn dX5_join_22
  · refine lv_icmp_ne (tgt := 21) hx hb dX5_join_5 (by decide) (fun _ => ?_) (fun n => absurd n c2)
    cases hf
    have k : _ = r := k
    subst k
    refine lv_iconst (v := (-1)) hx hb dX5_join_21 (by decide) ?_
    exact r_iret X I rfl rfl rfl hn dX5_join_22
theorem v_X5_join {G : sG} {d : Nat} {vs0 : List Value} {σ0 : sS} {x : sL} {z : sZ Int32} {r : Int32 × sS} (hs : S_X5_join x = some z) (k : s_K G (d + 4) M_X5_join vs0 σ0 Y_X5_join e_I z r) : s_V G (d + 4) M_X5_join vs0 σ0 Y_X5_join x (e_I r) := by
  obtain ⟨pc, vs, σ⟩ := x
  unfold S_X5_join at hs
  dsimp only at hs
  rcases s_ite hs with ⟨c, hs⟩ | ⟨-, hs⟩
  · subst c
    unfold U_X5_join_0 at hs
    obtain ⟨a0, g0, hs⟩ := s_bind hs
    obtain ⟨a1, g1, hs⟩ := s_bind hs
    obtain ⟨a2, g2, hs⟩ := s_bind hs
    obtain ⟨a3, g3, hs⟩ := s_bind hs
    obtain ⟨u9, ge, hs⟩ := s_bind hs
    rw [g_r_to g0, g_i_to g1, g_i_to g2, g_i_to g3, g_e_to ge]
    exact v_X5_join_0 hs k
  cases hs
theorem t_X5_join {G : sG} {d : Nat} {v0 : Nat} {v1 : Int32} {v2 : Int32} {v3 : Int32} {σ : sS} {q : Int32 × sS} (h : F_X5_join v0 v1 v2 v3 σ = some q) : s_T G (d + 4) M_X5_join [.ref v0, .int v1, .int v2, .int v3] σ (e_I q) := by
  unfold F_X5_join at h
  obtain ⟨-, -, h⟩ := s_bind h
  exact s_ofV rfl (by decide) (Nat.le_of_ble_eq_true rfl) rfl rfl (s_run_ind (V := fun x r => s_V G (d + 4) M_X5_join [.ref v0, .int v1, .int v2, .int v3] σ Y_X5_join x (e_I r)) (fun x z r hs hk => v_X5_join hs (by cases z <;> exact hk)) h)
