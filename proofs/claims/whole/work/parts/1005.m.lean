/-! X4_listSteps -/
noncomputable def T_X4_listSteps_0 (v0 : Nat) (v1 : Int32) (σ : sS) : Option (sZ Unit) :=
  (s_fr σ v0 4 2).bind fun x1 =>
  (s_ai σ x1 v1).bind fun x2 =>
  (s_fr σ v0 4 0).bind fun x3 =>
  (F_X2_firstOf x3 x2 σ).bind fun q4 =>
  (F_X4_placeOf v0 q4.1 q4.2).bind fun q5 =>
  (s_fr q5.2 v0 4 0).bind fun x6 =>
  (F_X2_secondOf x6 x2 q5.2).bind fun q7 =>
  (F_X4_placeOf v0 q7.1 q7.2).bind fun q8 =>
  (s_fr q8.2 v0 4 0).bind fun x9 =>
  (F_X2_kindOf x9 x2 q8.2).bind fun q10 =>
  if q10.1 = 1 then ((s_fr q10.2 v0 4 0).bind fun x11 =>
  (F_X2_firstOf x11 x2 q10.2).bind fun q12 =>
  (s_fr q12.2 v0 4 0).bind fun x13 =>
  (F_X2_kindOf x13 q12.1 q12.2).bind fun q14 =>
  if q14.1 = 1 then ((s_fr q14.2 v0 4 0).bind fun x15 =>
  (F_X2_firstOf x15 q12.1 q14.2).bind fun q16 =>
  (F_X4_placeOf v0 q16.1 q16.2).bind fun q17 =>
  (F_X4_addStep v0 8 q17.1 v1 (-1) (-1) q17.2).bind fun q18 =>
  some (.inr ((), q18.2)))
  else (some (.inr ((), q14.2))))
  else if q10.1 = 2 then ((F_X4_listAndSteps v0 v1 q5.1 q8.1 q10.2).bind fun q19 =>
  some (.inr ((), q19.2)))
  else if q10.1 = 3 then ((F_X4_listOrSteps v0 v1 q5.1 q8.1 q10.2).bind fun q20 =>
  some (.inr ((), q20.2)))
  else if q10.1 = 4 then ((F_X4_listIfSteps v0 v1 q5.1 q8.1 q10.2).bind fun q21 =>
  some (.inr ((), q21.2)))
  else if q10.1 = 5 then ((F_X4_listAllSteps v0 v1 q10.2).bind fun q22 =>
  some (.inr ((), q22.2)))
  else if q10.1 = 6 then ((F_X4_listSomeSteps v0 v1 q10.2).bind fun q23 =>
  some (.inr ((), q23.2)))
  else (some (.inr ((), q10.2)))
noncomputable def U_X4_listSteps_0 (vs : List Value) (σ : sS) : Option (sZ Unit) := (g_r vs).bind fun a0 => (g_i a0.2).bind fun a1 => (g_e a1.2).bind fun _ => T_X4_listSteps_0 a0.1 a1.1 σ
noncomputable def S_X4_listSteps (x : sL) : Option (sZ Unit) := if x.1 = 0 then U_X4_listSteps_0 x.2.1 x.2.2 else none
def Y_X4_listSteps (pc : Nat) : List Nat := if pc = 0 then [0, 1] else []
noncomputable def F_X4_listSteps (v0 : Nat) (v1 : Int32) (σ : sS) : Option (Unit × sS) := (s_is σ v0 4).bind fun _ => s_run S_X4_listSteps (0, [.ref v0, .int v1], σ)
theorem l_X4_listSteps_0 {v0 : Nat} {v1 : Int32} {σ : sS} {z : sZ Unit} (hf : T_X4_listSteps_0 v0 v1 σ = some z) : s_lz σ z := by
  unfold T_X4_listSteps_0 at hf
  obtain ⟨x1, -, hf⟩ := s_bind hf
  obtain ⟨x2, -, hf⟩ := s_bind hf
  obtain ⟨x3, -, hf⟩ := s_bind hf
  obtain ⟨q4, hh, hf⟩ := s_bind hf
  refine s_lz.tr (l_X2_firstOf hh) ?_
  obtain ⟨q5, hh, hf⟩ := s_bind hf
  refine s_lz.tr (l_X4_placeOf hh) ?_
  obtain ⟨x6, -, hf⟩ := s_bind hf
  obtain ⟨q7, hh, hf⟩ := s_bind hf
  refine s_lz.tr (l_X2_secondOf hh) ?_
  obtain ⟨q8, hh, hf⟩ := s_bind hf
  refine s_lz.tr (l_X4_placeOf hh) ?_
  obtain ⟨x9, -, hf⟩ := s_bind hf
  obtain ⟨q10, hh, hf⟩ := s_bind hf
  refine s_lz.tr (l_X2_kindOf hh) ?_
  rcases s_ite hf with ⟨-, hf⟩ | ⟨-, hf⟩
  · obtain ⟨x11, -, hf⟩ := s_bind hf
    obtain ⟨q12, hh, hf⟩ := s_bind hf
    refine s_lz.tr (l_X2_firstOf hh) ?_
    obtain ⟨x13, -, hf⟩ := s_bind hf
    obtain ⟨q14, hh, hf⟩ := s_bind hf
    refine s_lz.tr (l_X2_kindOf hh) ?_
    rcases s_ite hf with ⟨-, hf⟩ | ⟨-, hf⟩
    · obtain ⟨x15, -, hf⟩ := s_bind hf
      obtain ⟨q16, hh, hf⟩ := s_bind hf
      refine s_lz.tr (l_X2_firstOf hh) ?_
      obtain ⟨q17, hh, hf⟩ := s_bind hf
      refine s_lz.tr (l_X4_placeOf hh) ?_
      obtain ⟨q18, hh, hf⟩ := s_bind hf
      refine s_lz.tr (l_X4_addStep hh) ?_
      cases hf
      exact s_le.rf
    · cases hf
      exact s_le.rf
  rcases s_ite hf with ⟨-, hf⟩ | ⟨-, hf⟩
  · obtain ⟨q19, hh, hf⟩ := s_bind hf
    refine s_lz.tr (l_X4_listAndSteps hh) ?_
    cases hf
    exact s_le.rf
  rcases s_ite hf with ⟨-, hf⟩ | ⟨-, hf⟩
  · obtain ⟨q20, hh, hf⟩ := s_bind hf
    refine s_lz.tr (l_X4_listOrSteps hh) ?_
    cases hf
    exact s_le.rf
  rcases s_ite hf with ⟨-, hf⟩ | ⟨-, hf⟩
  · obtain ⟨q21, hh, hf⟩ := s_bind hf
    refine s_lz.tr (l_X4_listIfSteps hh) ?_
    cases hf
    exact s_le.rf
  rcases s_ite hf with ⟨-, hf⟩ | ⟨-, hf⟩
  · obtain ⟨q22, hh, hf⟩ := s_bind hf
    refine s_lz.tr (l_X4_listAllSteps hh) ?_
    cases hf
    exact s_le.rf
  rcases s_ite hf with ⟨-, hf⟩ | ⟨-, hf⟩
  · obtain ⟨q23, hh, hf⟩ := s_bind hf
    refine s_lz.tr (l_X4_listSomeSteps hh) ?_
    cases hf
    exact s_le.rf
  cases hf
  exact s_le.rf
theorem l_X4_listSteps_s {x : sL} {z : sZ Unit} (hs : S_X4_listSteps x = some z) : s_lz x.2.2 z := by
  obtain ⟨pc, vs, σ⟩ := x
  unfold S_X4_listSteps at hs
  dsimp only at hs ⊢
  rcases s_ite hs with ⟨c, hs⟩ | ⟨-, hs⟩
  · subst c
    unfold U_X4_listSteps_0 at hs
    obtain ⟨a0, g0, hs⟩ := s_bind hs
    obtain ⟨a1, g1, hs⟩ := s_bind hs
    obtain ⟨u9, ge, hs⟩ := s_bind hs
    exact l_X4_listSteps_0 hs
  cases hs
theorem l_X4_listSteps {v0 : Nat} {v1 : Int32} {σ : sS} {q : Unit × sS} (h : F_X4_listSteps v0 v1 σ = some q) : s_le σ q.2 := by
  unfold F_X4_listSteps at h
  obtain ⟨-, -, h⟩ := s_bind h
  exact s_run_ind (V := fun x r => s_le x.2.2 r.2) (fun x z r hs hk => by
    have h9 := l_X4_listSteps_s hs
    cases z with
    | inl y => exact s_le.tr h9 hk
    | inr q => cases hk; exact h9) h
theorem b_X4_listSteps {v0 : Nat} {v1 : Int32} {σ : sS} {q : Unit × sS} (h : F_X4_listSteps v0 v1 σ = some q) : ∃ fs, σ.1 v0 = some (.inr (4, fs)) := by
  unfold F_X4_listSteps at h
  obtain ⟨u, hu, -⟩ := s_bind h
  exact s_is_to hu
set_option maxRecDepth 100000 in
set_option maxHeartbeats 4000000 in
theorem v_X4_listSteps_0 {G : sG} {d : Nat} {vs0 : List Value} {σ0 : sS} {v0 : Nat} {v1 : Int32} {σ : sS} {z : sZ Unit} {r : Unit × sS} (hf : T_X4_listSteps_0 v0 v1 σ = some z) (k : s_K G (d + 4) M_X4_listSteps vs0 σ0 Y_X4_listSteps e_V z r) : s_V G (d + 4) M_X4_listSteps vs0 σ0 Y_X4_listSteps (0, [.ref v0, .int v1], σ) (e_V r) := by
  have le0 : s_le σ (e_V r).2 := s_lek hem_V (l_X4_listSteps_0 hf) k
  refine ⟨le0, ?_⟩
  intro p e s m below meth c H locs cells slots ls X I hn1 hn2 hl
  have hn : cells + σ0.2.1 ≤ σ.2.1 ∧ slots + σ0.2.2.1 ≤ σ.2.2.1 := ⟨hn1, hn2⟩
  have hl : lv_has ls 6 [(0, .ref v0), (1, .int v1)] := hl
  have hx := X.1
  have hb : c.code = cX4_listSteps := X.2.1
  have hown : s.vm.findClass RX4 = some m.cls := X.2.2.2.2.2.1
  have hts := X.2.2.2.2.2.2.1
  refine W.eq (g2 := F0 m 0 ls []) rfl ?_
  unfold T_X4_listSteps_0 at hf
  obtain ⟨x1, h1, hf⟩ := s_bind hf
  obtain ⟨x2, h2, hf⟩ := s_bind hf
  obtain ⟨x3, h3, hf⟩ := s_bind hf
  obtain ⟨q4, h4, hf⟩ := s_bind hf
  obtain ⟨q5, h5, hf⟩ := s_bind hf
  obtain ⟨x6, h6, hf⟩ := s_bind hf
  obtain ⟨q7, h7, hf⟩ := s_bind hf
  obtain ⟨q8, h8, hf⟩ := s_bind hf
  obtain ⟨x9, h9, hf⟩ := s_bind hf
  obtain ⟨q10, h10, hf⟩ := s_bind hf
  have le11 : s_le q10.2 (e_V r).2 := by
    refine s_lek hem_V ?_ k
    rcases s_ite hf with ⟨-, hf⟩ | ⟨-, hf⟩
    · obtain ⟨x11, -, hf⟩ := s_bind hf
      obtain ⟨q12, hh, hf⟩ := s_bind hf
      refine s_lz.tr (l_X2_firstOf hh) ?_
      obtain ⟨x13, -, hf⟩ := s_bind hf
      obtain ⟨q14, hh, hf⟩ := s_bind hf
      refine s_lz.tr (l_X2_kindOf hh) ?_
      rcases s_ite hf with ⟨-, hf⟩ | ⟨-, hf⟩
      · obtain ⟨x15, -, hf⟩ := s_bind hf
        obtain ⟨q16, hh, hf⟩ := s_bind hf
        refine s_lz.tr (l_X2_firstOf hh) ?_
        obtain ⟨q17, hh, hf⟩ := s_bind hf
        refine s_lz.tr (l_X4_placeOf hh) ?_
        obtain ⟨q18, hh, hf⟩ := s_bind hf
        refine s_lz.tr (l_X4_addStep hh) ?_
        cases hf
        exact s_le.rf
      · cases hf
        exact s_le.rf
    rcases s_ite hf with ⟨-, hf⟩ | ⟨-, hf⟩
    · obtain ⟨q19, hh, hf⟩ := s_bind hf
      refine s_lz.tr (l_X4_listAndSteps hh) ?_
      cases hf
      exact s_le.rf
    rcases s_ite hf with ⟨-, hf⟩ | ⟨-, hf⟩
    · obtain ⟨q20, hh, hf⟩ := s_bind hf
      refine s_lz.tr (l_X4_listOrSteps hh) ?_
      cases hf
      exact s_le.rf
    rcases s_ite hf with ⟨-, hf⟩ | ⟨-, hf⟩
    · obtain ⟨q21, hh, hf⟩ := s_bind hf
      refine s_lz.tr (l_X4_listIfSteps hh) ?_
      cases hf
      exact s_le.rf
    rcases s_ite hf with ⟨-, hf⟩ | ⟨-, hf⟩
    · obtain ⟨q22, hh, hf⟩ := s_bind hf
      refine s_lz.tr (l_X4_listAllSteps hh) ?_
      cases hf
      exact s_le.rf
    rcases s_ite hf with ⟨-, hf⟩ | ⟨-, hf⟩
    · obtain ⟨q23, hh, hf⟩ := s_bind hf
      refine s_lz.tr (l_X4_listSomeSteps hh) ?_
      cases hf
      exact s_le.rf
    cases hf
    exact s_le.rf
  have le12 := s_le.tr (l_X2_kindOf h10) le11
  have le13 := s_le.tr (l_X4_placeOf h8) le12
  have le14 := s_le.tr (l_X2_secondOf h7) le13
  have le15 := s_le.tr (l_X4_placeOf h5) le14
  refine lv_aload_n hx hb dX4_listSteps_0 rfl (lv_at hl 0 rfl) ?_
  refine r_gr X I fl_X4_11 h1 dX4_listSteps_1 ?_
  refine lv_iload_n hx hb dX4_listSteps_4 rfl (lv_at hl 1 rfl) ?_
  refine r_iald X I h2 dX4_listSteps_5 ?_
  refine lv_istore_n (lv' := [(2, .int x2), (0, .ref v0), (1, .int v1)]) hx hb dX4_listSteps_6 rfl hl (by decide) rfl (fun ls hl => ?_)
  refine lv_aload_n hx hb dX4_listSteps_7 rfl (lv_at hl 1 rfl) ?_
  refine lv_aload_n hx hb dX4_listSteps_8 rfl (lv_at hl 1 rfl) ?_
  refine r_gr X I fl_X4_30 h3 dX4_listSteps_9 ?_
  refine lv_iload_n hx hb dX4_listSteps_12 rfl (lv_at hl 0 rfl) ?_
  refine r_callV (Y := M_X2_firstOf) (v := some (.int q4.1)) X I w_1299 my_X2_firstOf (by omega) (t_X2_firstOf (G := G) (d := d + 2) h4) (b_X2_firstOf h4) rfl rfl hl.1 rfl (Nat.le_of_ble_eq_true rfl) hn le15 dX4_listSteps_13 (fun H locs cells slots I hn1 hn2 => ?_)
  have I : s_I G q4.2 s H locs := I
  have hn : cells + σ0.2.1 ≤ q4.2.2.1 ∧ slots + σ0.2.2.1 ≤ q4.2.2.2.1 := ⟨hn1, hn2⟩
  refine r_callV (Y := M_X4_placeOf) (v := some (.int q5.1)) X I w_1292 my_X4_placeOf (by omega) (t_X4_placeOf (G := G) (d := d + 2) h5) (b_X4_placeOf h5) rfl rfl hl.1 rfl (Nat.le_of_ble_eq_true rfl) hn le14 dX4_listSteps_16 (fun H locs cells slots I hn1 hn2 => ?_)
  have I : s_I G q5.2 s H locs := I
  have hn : cells + σ0.2.1 ≤ q5.2.2.1 ∧ slots + σ0.2.2.1 ≤ q5.2.2.2.1 := ⟨hn1, hn2⟩
  refine lv_istore_n (lv' := [(3, .int q5.1), (2, .int x2), (0, .ref v0), (1, .int v1)]) hx hb dX4_listSteps_19 rfl hl (by decide) rfl (fun ls hl => ?_)
  refine lv_aload_n hx hb dX4_listSteps_20 rfl (lv_at hl 2 rfl) ?_
  refine lv_aload_n hx hb dX4_listSteps_21 rfl (lv_at hl 2 rfl) ?_
  refine r_gr X I fl_X4_30 h6 dX4_listSteps_22 ?_
  refine lv_iload_n hx hb dX4_listSteps_25 rfl (lv_at hl 1 rfl) ?_
  refine r_callV (Y := M_X2_secondOf) (v := some (.int q7.1)) X I w_1300 my_X2_secondOf (by omega) (t_X2_secondOf (G := G) (d := d + 2) h7) (b_X2_secondOf h7) rfl rfl hl.1 rfl (Nat.le_of_ble_eq_true rfl) hn le13 dX4_listSteps_26 (fun H locs cells slots I hn1 hn2 => ?_)
  have I : s_I G q7.2 s H locs := I
  have hn : cells + σ0.2.1 ≤ q7.2.2.1 ∧ slots + σ0.2.2.1 ≤ q7.2.2.2.1 := ⟨hn1, hn2⟩
  refine r_callV (Y := M_X4_placeOf) (v := some (.int q8.1)) X I w_1292 my_X4_placeOf (by omega) (t_X4_placeOf (G := G) (d := d + 2) h8) (b_X4_placeOf h8) rfl rfl hl.1 rfl (Nat.le_of_ble_eq_true rfl) hn le12 dX4_listSteps_29 (fun H locs cells slots I hn1 hn2 => ?_)
  have I : s_I G q8.2 s H locs := I
  have hn : cells + σ0.2.1 ≤ q8.2.2.1 ∧ slots + σ0.2.2.1 ≤ q8.2.2.2.1 := ⟨hn1, hn2⟩
  refine lv_istore (lv' := [(4, .int q8.1), (3, .int q5.1), (2, .int x2), (0, .ref v0), (1, .int v1)]) hx hb dX4_listSteps_32 hl (by decide) rfl (fun ls hl => ?_)
  refine lv_aload_n hx hb dX4_listSteps_34 rfl (lv_at hl 3 rfl) ?_
  refine r_gr X I fl_X4_30 h9 dX4_listSteps_35 ?_
  refine lv_iload_n hx hb dX4_listSteps_38 rfl (lv_at hl 2 rfl) ?_
  refine r_callV (Y := M_X2_kindOf) (v := some (.int q10.1)) X I w_1297 my_X2_kindOf (by omega) (t_X2_kindOf (G := G) (d := d + 2) h10) (b_X2_kindOf h10) rfl rfl hl.1 rfl (Nat.le_of_ble_eq_true rfl) hn le11 dX4_listSteps_39 (fun H locs cells slots I hn1 hn2 => ?_)
  have I : s_I G q10.2 s H locs := I
  have hn : cells + σ0.2.1 ≤ q10.2.2.1 ∧ slots + σ0.2.2.1 ≤ q10.2.2.2.1 := ⟨hn1, hn2⟩
  rcases s_ite hf with ⟨c16, hf⟩ | ⟨c16, hf⟩
  · refine lv_tableIn (tgt := 80) (off := 38) hx hb dX4_listSteps_42 (by rw [c16]; decide) (by rw [c16]; decide) (by rw [c16]; rfl) (by decide) ?_
    obtain ⟨x11, h17, hf⟩ := s_bind hf
    obtain ⟨q12, h18, hf⟩ := s_bind hf
    obtain ⟨x13, h19, hf⟩ := s_bind hf
    obtain ⟨q14, h20, hf⟩ := s_bind hf
    have le21 : s_le q14.2 (e_V r).2 := by
      refine s_lek hem_V ?_ k
      rcases s_ite hf with ⟨-, hf⟩ | ⟨-, hf⟩
      · obtain ⟨x15, -, hf⟩ := s_bind hf
        obtain ⟨q16, hh, hf⟩ := s_bind hf
        refine s_lz.tr (l_X2_firstOf hh) ?_
        obtain ⟨q17, hh, hf⟩ := s_bind hf
        refine s_lz.tr (l_X4_placeOf hh) ?_
        obtain ⟨q18, hh, hf⟩ := s_bind hf
        refine s_lz.tr (l_X4_addStep hh) ?_
        cases hf
        exact s_le.rf
      · cases hf
        exact s_le.rf
    have le22 := s_le.tr (l_X2_kindOf h20) le21
    refine lv_aload_n hx hb dX4_listSteps_80 rfl (lv_at hl 3 rfl) ?_
    refine r_gr X I fl_X4_30 h17 dX4_listSteps_81 ?_
    refine lv_iload_n hx hb dX4_listSteps_84 rfl (lv_at hl 2 rfl) ?_
    refine r_callV (Y := M_X2_firstOf) (v := some (.int q12.1)) X I w_1299 my_X2_firstOf (by omega) (t_X2_firstOf (G := G) (d := d + 2) h18) (b_X2_firstOf h18) rfl rfl hl.1 rfl (Nat.le_of_ble_eq_true rfl) hn le22 dX4_listSteps_85 (fun H locs cells slots I hn1 hn2 => ?_)
    have I : s_I G q12.2 s H locs := I
    have hn : cells + σ0.2.1 ≤ q12.2.2.1 ∧ slots + σ0.2.2.1 ≤ q12.2.2.2.1 := ⟨hn1, hn2⟩
    refine lv_istore (lv' := [(5, .int q12.1), (4, .int q8.1), (3, .int q5.1), (2, .int x2), (0, .ref v0), (1, .int v1)]) hx hb dX4_listSteps_88 hl (by decide) rfl (fun ls hl => ?_)
    refine lv_aload_n hx hb dX4_listSteps_90 rfl (lv_at hl 4 rfl) ?_
    refine r_gr X I fl_X4_30 h19 dX4_listSteps_91 ?_
    refine lv_iload hx hb dX4_listSteps_94 (lv_at hl 0 rfl) ?_
    refine r_callV (Y := M_X2_kindOf) (v := some (.int q14.1)) X I w_1297 my_X2_kindOf (by omega) (t_X2_kindOf (G := G) (d := d + 2) h20) (b_X2_kindOf h20) rfl rfl hl.1 rfl (Nat.le_of_ble_eq_true rfl) hn le21 dX4_listSteps_96 (fun H locs cells slots I hn1 hn2 => ?_)
    have I : s_I G q14.2 s H locs := I
    have hn : cells + σ0.2.1 ≤ q14.2.2.1 ∧ slots + σ0.2.2.1 ≤ q14.2.2.2.1 := ⟨hn1, hn2⟩
    refine lv_iconst (v := 1) hx hb dX4_listSteps_99 (by decide) ?_
    rcases s_ite hf with ⟨c23, hf⟩ | ⟨c23, hf⟩
    · refine lv_icmp_ne (tgt := 177) hx hb dX4_listSteps_100 (by decide) (fun n => absurd c23 n) (fun _ => ?_)
      obtain ⟨x15, h24, hf⟩ := s_bind hf
      obtain ⟨q16, h25, hf⟩ := s_bind hf
      obtain ⟨q17, h26, hf⟩ := s_bind hf
      obtain ⟨q18, h27, hf⟩ := s_bind hf
      cases hf
      have k : _ = r := k
      subst k
      have le28 : s_le q18.2 q18.2 := s_le.rf
      have le29 := s_le.tr (l_X4_addStep h27) le28
      have le30 := s_le.tr (l_X4_placeOf h26) le29
      refine lv_aload_n hx hb dX4_listSteps_103 rfl (lv_at hl 4 rfl) ?_
      refine lv_bipush (v := 8) hx hb dX4_listSteps_104 (by decide) ?_
      refine lv_aload_n hx hb dX4_listSteps_106 rfl (lv_at hl 4 rfl) ?_
      refine lv_aload_n hx hb dX4_listSteps_107 rfl (lv_at hl 4 rfl) ?_
      refine r_gr X I fl_X4_30 h24 dX4_listSteps_108 ?_
      refine lv_iload hx hb dX4_listSteps_111 (lv_at hl 0 rfl) ?_
      refine r_callV (Y := M_X2_firstOf) (v := some (.int q16.1)) X I w_1299 my_X2_firstOf (by omega) (t_X2_firstOf (G := G) (d := d + 2) h25) (b_X2_firstOf h25) rfl rfl hl.1 rfl (Nat.le_of_ble_eq_true rfl) hn le30 dX4_listSteps_113 (fun H locs cells slots I hn1 hn2 => ?_)
      have I : s_I G q16.2 s H locs := I
      have hn : cells + σ0.2.1 ≤ q16.2.2.1 ∧ slots + σ0.2.2.1 ≤ q16.2.2.2.1 := ⟨hn1, hn2⟩
      refine r_callV (Y := M_X4_placeOf) (v := some (.int q17.1)) X I w_1292 my_X4_placeOf (by omega) (t_X4_placeOf (G := G) (d := d + 2) h26) (b_X4_placeOf h26) rfl rfl hl.1 rfl (Nat.le_of_ble_eq_true rfl) hn le29 dX4_listSteps_116 (fun H locs cells slots I hn1 hn2 => ?_)
      have I : s_I G q17.2 s H locs := I
      have hn : cells + σ0.2.1 ≤ q17.2.2.1 ∧ slots + σ0.2.2.1 ≤ q17.2.2.2.1 := ⟨hn1, hn2⟩
      refine lv_iload_n hx hb dX4_listSteps_119 rfl (lv_at hl 5 rfl) ?_
      refine lv_iconst (v := (-1)) hx hb dX4_listSteps_120 (by decide) ?_
      refine lv_iconst (v := (-1)) hx hb dX4_listSteps_121 (by decide) ?_
      refine r_callV (Y := M_X4_addStep) (v := none) X I w_1314 my_X4_addStep (by omega) (t_X4_addStep (G := G) (d := d + 2) h27) (b_X4_addStep h27) rfl rfl hl.1 rfl (Nat.le_of_ble_eq_true rfl) hn le28 dX4_listSteps_122 (fun H locs cells slots I hn1 hn2 => ?_)
      have I : s_I G q18.2 s H locs := I
      have hn : cells + σ0.2.1 ≤ q18.2.2.1 ∧ slots + σ0.2.2.1 ≤ q18.2.2.2.1 := ⟨hn1, hn2⟩
      refine lv_goto (tgt := 177) hx hb dX4_listSteps_125 (by decide) ?_
      exact r_vret X I rfl rfl hn dX4_listSteps_177
    · refine lv_icmp_ne (tgt := 177) hx hb dX4_listSteps_100 (by decide) (fun _ => ?_) (fun n => absurd n c23)
      cases hf
      have k : _ = r := k
      subst k
      exact r_vret X I rfl rfl hn dX4_listSteps_177
  rcases s_ite hf with ⟨c31, hf⟩ | ⟨c31, hf⟩
  · refine lv_tableIn (tgt := 128) (off := 86) hx hb dX4_listSteps_42 (by rw [c31]; decide) (by rw [c31]; decide) (by rw [c31]; rfl) (by decide) ?_
    obtain ⟨q19, h32, hf⟩ := s_bind hf
    cases hf
    have k : _ = r := k
    subst k
    have le33 : s_le q19.2 q19.2 := s_le.rf
    refine lv_aload_n hx hb dX4_listSteps_128 rfl (lv_at hl 3 rfl) ?_
    refine lv_iload_n hx hb dX4_listSteps_129 rfl (lv_at hl 4 rfl) ?_
    refine lv_iload_n hx hb dX4_listSteps_130 rfl (lv_at hl 1 rfl) ?_
    refine lv_iload hx hb dX4_listSteps_131 (lv_at hl 0 rfl) ?_
    refine r_callV (Y := M_X4_listAndSteps) (v := none) X I w_1318 my_X4_listAndSteps (by omega) (t_X4_listAndSteps (G := G) (d := d + 1) h32) (b_X4_listAndSteps h32) rfl rfl hl.1 rfl (Nat.le_of_ble_eq_true rfl) hn le33 dX4_listSteps_133 (fun H locs cells slots I hn1 hn2 => ?_)
    have I : s_I G q19.2 s H locs := I
    have hn : cells + σ0.2.1 ≤ q19.2.2.1 ∧ slots + σ0.2.2.1 ≤ q19.2.2.2.1 := ⟨hn1, hn2⟩
    refine lv_goto (tgt := 177) hx hb dX4_listSteps_136 (by decide) ?_
    exact r_vret X I rfl rfl hn dX4_listSteps_177
  rcases s_ite hf with ⟨c34, hf⟩ | ⟨c34, hf⟩
  · refine lv_tableIn (tgt := 139) (off := 97) hx hb dX4_listSteps_42 (by rw [c34]; decide) (by rw [c34]; decide) (by rw [c34]; rfl) (by decide) ?_
    obtain ⟨q20, h35, hf⟩ := s_bind hf
    cases hf
    have k : _ = r := k
    subst k
    have le36 : s_le q20.2 q20.2 := s_le.rf
    refine lv_aload_n hx hb dX4_listSteps_139 rfl (lv_at hl 3 rfl) ?_
    refine lv_iload_n hx hb dX4_listSteps_140 rfl (lv_at hl 4 rfl) ?_
    refine lv_iload_n hx hb dX4_listSteps_141 rfl (lv_at hl 1 rfl) ?_
    refine lv_iload hx hb dX4_listSteps_142 (lv_at hl 0 rfl) ?_
    refine r_callV (Y := M_X4_listOrSteps) (v := none) X I w_1322 my_X4_listOrSteps (by omega) (t_X4_listOrSteps (G := G) (d := d + 0) h35) (b_X4_listOrSteps h35) rfl rfl hl.1 rfl (Nat.le_of_ble_eq_true rfl) hn le36 dX4_listSteps_144 (fun H locs cells slots I hn1 hn2 => ?_)
    have I : s_I G q20.2 s H locs := I
    have hn : cells + σ0.2.1 ≤ q20.2.2.1 ∧ slots + σ0.2.2.1 ≤ q20.2.2.2.1 := ⟨hn1, hn2⟩
    refine lv_goto (tgt := 177) hx hb dX4_listSteps_147 (by decide) ?_
    exact r_vret X I rfl rfl hn dX4_listSteps_177
  rcases s_ite hf with ⟨c37, hf⟩ | ⟨c37, hf⟩
  · refine lv_tableIn (tgt := 150) (off := 108) hx hb dX4_listSteps_42 (by rw [c37]; decide) (by rw [c37]; decide) (by rw [c37]; rfl) (by decide) ?_
    obtain ⟨q21, h38, hf⟩ := s_bind hf
    cases hf
    have k : _ = r := k
    subst k
    have le39 : s_le q21.2 q21.2 := s_le.rf
    refine lv_aload_n hx hb dX4_listSteps_150 rfl (lv_at hl 3 rfl) ?_
    refine lv_iload_n hx hb dX4_listSteps_151 rfl (lv_at hl 4 rfl) ?_
    refine lv_iload_n hx hb dX4_listSteps_152 rfl (lv_at hl 1 rfl) ?_
    refine lv_iload hx hb dX4_listSteps_153 (lv_at hl 0 rfl) ?_
    refine r_callV (Y := M_X4_listIfSteps) (v := none) X I w_1331 my_X4_listIfSteps (by omega) (t_X4_listIfSteps (G := G) (d := d + 1) h38) (b_X4_listIfSteps h38) rfl rfl hl.1 rfl (Nat.le_of_ble_eq_true rfl) hn le39 dX4_listSteps_155 (fun H locs cells slots I hn1 hn2 => ?_)
    have I : s_I G q21.2 s H locs := I
    have hn : cells + σ0.2.1 ≤ q21.2.2.1 ∧ slots + σ0.2.2.1 ≤ q21.2.2.2.1 := ⟨hn1, hn2⟩
    refine lv_goto (tgt := 177) hx hb dX4_listSteps_158 (by decide) ?_
    exact r_vret X I rfl rfl hn dX4_listSteps_177
  rcases s_ite hf with ⟨c40, hf⟩ | ⟨c40, hf⟩
  · refine lv_tableIn (tgt := 161) (off := 119) hx hb dX4_listSteps_42 (by rw [c40]; decide) (by rw [c40]; decide) (by rw [c40]; rfl) (by decide) ?_
    obtain ⟨q22, h41, hf⟩ := s_bind hf
    cases hf
    have k : _ = r := k
    subst k
    have le42 : s_le q22.2 q22.2 := s_le.rf
    refine lv_aload_n hx hb dX4_listSteps_161 rfl (lv_at hl 3 rfl) ?_
    refine lv_iload_n hx hb dX4_listSteps_162 rfl (lv_at hl 4 rfl) ?_
    refine r_callV (Y := M_X4_listAllSteps) (v := none) X I w_1335 my_X4_listAllSteps (by omega) (t_X4_listAllSteps (G := G) (d := d + 1) h41) (b_X4_listAllSteps h41) rfl rfl hl.1 rfl (Nat.le_of_ble_eq_true rfl) hn le42 dX4_listSteps_163 (fun H locs cells slots I hn1 hn2 => ?_)
    have I : s_I G q22.2 s H locs := I
    have hn : cells + σ0.2.1 ≤ q22.2.2.1 ∧ slots + σ0.2.2.1 ≤ q22.2.2.2.1 := ⟨hn1, hn2⟩
    refine lv_goto (tgt := 177) hx hb dX4_listSteps_166 (by decide) ?_
    exact r_vret X I rfl rfl hn dX4_listSteps_177
  rcases s_ite hf with ⟨c43, hf⟩ | ⟨c43, hf⟩
  · refine lv_tableIn (tgt := 169) (off := 127) hx hb dX4_listSteps_42 (by rw [c43]; decide) (by rw [c43]; decide) (by rw [c43]; rfl) (by decide) ?_
    obtain ⟨q23, h44, hf⟩ := s_bind hf
    cases hf
    have k : _ = r := k
    subst k
    have le45 : s_le q23.2 q23.2 := s_le.rf
    refine lv_aload_n hx hb dX4_listSteps_169 rfl (lv_at hl 3 rfl) ?_
    refine lv_iload_n hx hb dX4_listSteps_170 rfl (lv_at hl 4 rfl) ?_
    refine r_callV (Y := M_X4_listSomeSteps) (v := none) X I w_1339 my_X4_listSomeSteps (by omega) (t_X4_listSomeSteps (G := G) (d := d + 1) h44) (b_X4_listSomeSteps h44) rfl rfl hl.1 rfl (Nat.le_of_ble_eq_true rfl) hn le45 dX4_listSteps_171 (fun H locs cells slots I hn1 hn2 => ?_)
    have I : s_I G q23.2 s H locs := I
    have hn : cells + σ0.2.1 ≤ q23.2.2.1 ∧ slots + σ0.2.2.1 ≤ q23.2.2.2.1 := ⟨hn1, hn2⟩
    refine lv_goto (tgt := 177) hx hb dX4_listSteps_174 (by decide) ?_
    exact r_vret X I rfl rfl hn dX4_listSteps_177
  refine lv_tableOut (tgt := 177) hx hb dX4_listSteps_42 (by
      have tc16 := lv_neT (a := 1) c16 (by decide)
      have tc31 := lv_neT (a := 2) c31 (by decide)
      have tc34 := lv_neT (a := 3) c34 (by decide)
      have tc37 := lv_neT (a := 4) c37 (by decide)
      have tc40 := lv_neT (a := 5) c40 (by decide)
      have tc43 := lv_neT (a := 6) c43 (by decide)
      omega) (by decide) ?_
  cases hf
  have k : _ = r := k
  subst k
  exact r_vret X I rfl rfl hn dX4_listSteps_177
theorem v_X4_listSteps {G : sG} {d : Nat} {vs0 : List Value} {σ0 : sS} {x : sL} {z : sZ Unit} {r : Unit × sS} (hs : S_X4_listSteps x = some z) (k : s_K G (d + 4) M_X4_listSteps vs0 σ0 Y_X4_listSteps e_V z r) : s_V G (d + 4) M_X4_listSteps vs0 σ0 Y_X4_listSteps x (e_V r) := by
  obtain ⟨pc, vs, σ⟩ := x
  unfold S_X4_listSteps at hs
  dsimp only at hs
  rcases s_ite hs with ⟨c, hs⟩ | ⟨-, hs⟩
  · subst c
    unfold U_X4_listSteps_0 at hs
    obtain ⟨a0, g0, hs⟩ := s_bind hs
    obtain ⟨a1, g1, hs⟩ := s_bind hs
    obtain ⟨u9, ge, hs⟩ := s_bind hs
    rw [g_r_to g0, g_i_to g1, g_e_to ge]
    exact v_X4_listSteps_0 hs k
  cases hs
theorem t_X4_listSteps {G : sG} {d : Nat} {v0 : Nat} {v1 : Int32} {σ : sS} {q : Unit × sS} (h : F_X4_listSteps v0 v1 σ = some q) : s_T G (d + 4) M_X4_listSteps [.ref v0, .int v1] σ (e_V q) := by
  unfold F_X4_listSteps at h
  obtain ⟨-, -, h⟩ := s_bind h
  exact s_ofV rfl (by decide) (Nat.le_of_ble_eq_true rfl) rfl rfl (s_run_ind (V := fun x r => s_V G (d + 4) M_X4_listSteps [.ref v0, .int v1] σ Y_X4_listSteps x (e_V r)) (fun x z r hs hk => v_X4_listSteps hs (by cases z <;> exact hk)) h)
/-! X4_prepare -/
noncomputable def T_X4_prepare_0 (v0 : Nat) (v1 : Int32) (v2 : Int32) (σ : sS) : Option (sZ Unit) :=
  (s_fr σ v0 4 1).bind fun x1 =>
  (F_X1_toldTo x1 v1 σ).bind fun q2 =>
  (s_pf q2.2 v0 4 11 (.int q2.1)).bind fun σ3 =>
  (s_pf σ3 v0 4 8 (.int 0)).bind fun σ4 =>
  (s_pf σ4 v0 4 9 (.int 0)).bind fun σ5 =>
  (s_pf σ5 v0 4 10 (.int 0)).bind fun σ6 =>
  (F_X4_lookAt 64 v0 v2 0 σ6).bind fun q7 =>
  some (.inl (35, [.ref v0, .int 0], q7.2))
noncomputable def U_X4_prepare_0 (vs : List Value) (σ : sS) : Option (sZ Unit) := (g_r vs).bind fun a0 => (g_i a0.2).bind fun a1 => (g_i a1.2).bind fun a2 => (g_e a2.2).bind fun _ => T_X4_prepare_0 a0.1 a1.1 a2.1 σ
noncomputable def T_X4_prepare_35 (v0 : Nat) (v3 : Int32) (σ : sS) : Option (sZ Unit) :=
  (s_fr σ v0 4 1).bind fun x1 =>
  (s_fi σ x1 1 2).bind fun x2 =>
  if x2 ≤ v3 then (some (.inl (78, [.ref v0, .int 0], σ)))
  else ((s_fi σ v0 4 11).bind fun x3 =>
  if ((x3 >>> (v3 &&& 31)) &&& 1) = 0 then (some (.inl (70, [.ref v0, .int v3], σ)))
  else ((s_fr σ v0 4 1).bind fun x4 =>
  (F_X1_nodeOf x4 v3 σ).bind fun q5 =>
  (F_X4_lookAt 64 v0 q5.1 0 q5.2).bind fun q6 =>
  some (.inl (70, [.ref v0, .int v3], q6.2))))
noncomputable def U_X4_prepare_35 (vs : List Value) (σ : sS) : Option (sZ Unit) := (g_r vs).bind fun a0 => (g_i a0.2).bind fun a1 => (g_e a1.2).bind fun _ => T_X4_prepare_35 a0.1 a1.1 σ
noncomputable def T_X4_prepare_70 (v0 : Nat) (v3 : Int32) (σ : sS) : Option (sZ Unit) :=
  some (.inl (35, [.ref v0, .int (v3 + 1)], σ))
noncomputable def U_X4_prepare_70 (vs : List Value) (σ : sS) : Option (sZ Unit) := (g_r vs).bind fun a0 => (g_i a0.2).bind fun a1 => (g_e a1.2).bind fun _ => T_X4_prepare_70 a0.1 a1.1 σ
noncomputable def T_X4_prepare_78 (v0 : Nat) (v3 : Int32) (σ : sS) : Option (sZ Unit) :=
  (s_fi σ v0 4 8).bind fun x1 =>
  if x1 ≤ v3 then (some (.inl (104, [.ref v0, .int 0], σ)))
  else ((s_fr σ v0 4 2).bind fun x2 =>
  (s_ai σ x2 v3).bind fun x3 =>
  (F_X4_listAssumed v0 x3 σ).bind fun q4 =>
  some (.inl (78, [.ref v0, .int (v3 + 1)], q4.2)))
noncomputable def U_X4_prepare_78 (vs : List Value) (σ : sS) : Option (sZ Unit) := (g_r vs).bind fun a0 => (g_i a0.2).bind fun a1 => (g_e a1.2).bind fun _ => T_X4_prepare_78 a0.1 a1.1 σ
noncomputable def T_X4_prepare_104 (v0 : Nat) (v3 : Int32) (σ : sS) : Option (sZ Unit) :=
  (s_fi σ v0 4 8).bind fun x1 =>
  if x1 ≤ v3 then (some (.inr ((), σ)))
  else ((F_X4_listSteps v0 v3 σ).bind fun q2 =>
  some (.inl (104, [.ref v0, .int (v3 + 1)], q2.2)))
noncomputable def U_X4_prepare_104 (vs : List Value) (σ : sS) : Option (sZ Unit) := (g_r vs).bind fun a0 => (g_i a0.2).bind fun a1 => (g_e a1.2).bind fun _ => T_X4_prepare_104 a0.1 a1.1 σ
noncomputable def S_X4_prepare (x : sL) : Option (sZ Unit) := if x.1 = 0 then U_X4_prepare_0 x.2.1 x.2.2 else if x.1 = 35 then U_X4_prepare_35 x.2.1 x.2.2 else if x.1 = 70 then U_X4_prepare_70 x.2.1 x.2.2 else if x.1 = 78 then U_X4_prepare_78 x.2.1 x.2.2 else if x.1 = 104 then U_X4_prepare_104 x.2.1 x.2.2 else none
def Y_X4_prepare (pc : Nat) : List Nat := if pc = 0 then [0, 1, 2] else if pc = 35 then [0, 3] else if pc = 70 then [0, 3] else if pc = 78 then [0, 3] else if pc = 104 then [0, 3] else []
noncomputable def F_X4_prepare (v0 : Nat) (v1 : Int32) (v2 : Int32) (σ : sS) : Option (Unit × sS) := (s_is σ v0 4).bind fun _ => s_run S_X4_prepare (0, [.ref v0, .int v1, .int v2], σ)
theorem l_X4_prepare_0 {v0 : Nat} {v1 : Int32} {v2 : Int32} {σ : sS} {z : sZ Unit} (hf : T_X4_prepare_0 v0 v1 v2 σ = some z) : s_lz σ z := by
  unfold T_X4_prepare_0 at hf
  obtain ⟨x1, -, hf⟩ := s_bind hf
  obtain ⟨q2, hh, hf⟩ := s_bind hf
  refine s_lz.tr (l_X1_toldTo hh) ?_
  obtain ⟨σ3, hh, hf⟩ := s_bind hf
  refine s_lz.tr (s_le2 (s_pf_2 hh)) ?_
  obtain ⟨σ4, hh, hf⟩ := s_bind hf
  refine s_lz.tr (s_le2 (s_pf_2 hh)) ?_
  obtain ⟨σ5, hh, hf⟩ := s_bind hf
  refine s_lz.tr (s_le2 (s_pf_2 hh)) ?_
  obtain ⟨σ6, hh, hf⟩ := s_bind hf
  refine s_lz.tr (s_le2 (s_pf_2 hh)) ?_
  obtain ⟨q7, hh, hf⟩ := s_bind hf
  refine s_lz.tr (l_X4_lookAt hh) ?_
  cases hf
  exact s_le.rf
theorem l_X4_prepare_35 {v0 : Nat} {v3 : Int32} {σ : sS} {z : sZ Unit} (hf : T_X4_prepare_35 v0 v3 σ = some z) : s_lz σ z := by
  unfold T_X4_prepare_35 at hf
  obtain ⟨x1, -, hf⟩ := s_bind hf
  obtain ⟨x2, -, hf⟩ := s_bind hf
  rcases s_ite hf with ⟨-, hf⟩ | ⟨-, hf⟩
  · cases hf
    exact s_le.rf
  · obtain ⟨x3, -, hf⟩ := s_bind hf
    rcases s_ite hf with ⟨-, hf⟩ | ⟨-, hf⟩
    · cases hf
      exact s_le.rf
    · obtain ⟨x4, -, hf⟩ := s_bind hf
      obtain ⟨q5, hh, hf⟩ := s_bind hf
      refine s_lz.tr (l_X1_nodeOf hh) ?_
      obtain ⟨q6, hh, hf⟩ := s_bind hf
      refine s_lz.tr (l_X4_lookAt hh) ?_
      cases hf
      exact s_le.rf
theorem l_X4_prepare_70 {v0 : Nat} {v3 : Int32} {σ : sS} {z : sZ Unit} (hf : T_X4_prepare_70 v0 v3 σ = some z) : s_lz σ z := by
  unfold T_X4_prepare_70 at hf
  cases hf
  exact s_le.rf
theorem l_X4_prepare_78 {v0 : Nat} {v3 : Int32} {σ : sS} {z : sZ Unit} (hf : T_X4_prepare_78 v0 v3 σ = some z) : s_lz σ z := by
  unfold T_X4_prepare_78 at hf
  obtain ⟨x1, -, hf⟩ := s_bind hf
  rcases s_ite hf with ⟨-, hf⟩ | ⟨-, hf⟩
  · cases hf
    exact s_le.rf
  · obtain ⟨x2, -, hf⟩ := s_bind hf
    obtain ⟨x3, -, hf⟩ := s_bind hf
    obtain ⟨q4, hh, hf⟩ := s_bind hf
    refine s_lz.tr (l_X4_listAssumed hh) ?_
    cases hf
    exact s_le.rf
theorem l_X4_prepare_104 {v0 : Nat} {v3 : Int32} {σ : sS} {z : sZ Unit} (hf : T_X4_prepare_104 v0 v3 σ = some z) : s_lz σ z := by
  unfold T_X4_prepare_104 at hf
  obtain ⟨x1, -, hf⟩ := s_bind hf
  rcases s_ite hf with ⟨-, hf⟩ | ⟨-, hf⟩
  · cases hf
    exact s_le.rf
  · obtain ⟨q2, hh, hf⟩ := s_bind hf
    refine s_lz.tr (l_X4_listSteps hh) ?_
    cases hf
    exact s_le.rf
theorem l_X4_prepare_s {x : sL} {z : sZ Unit} (hs : S_X4_prepare x = some z) : s_lz x.2.2 z := by
  obtain ⟨pc, vs, σ⟩ := x
  unfold S_X4_prepare at hs
  dsimp only at hs ⊢
  rcases s_ite hs with ⟨c, hs⟩ | ⟨-, hs⟩
  · subst c
    unfold U_X4_prepare_0 at hs
    obtain ⟨a0, g0, hs⟩ := s_bind hs
    obtain ⟨a1, g1, hs⟩ := s_bind hs
    obtain ⟨a2, g2, hs⟩ := s_bind hs
    obtain ⟨u9, ge, hs⟩ := s_bind hs
    exact l_X4_prepare_0 hs
  rcases s_ite hs with ⟨c, hs⟩ | ⟨-, hs⟩
  · subst c
    unfold U_X4_prepare_35 at hs
    obtain ⟨a0, g0, hs⟩ := s_bind hs
    obtain ⟨a1, g1, hs⟩ := s_bind hs
    obtain ⟨u9, ge, hs⟩ := s_bind hs
    exact l_X4_prepare_35 hs
  rcases s_ite hs with ⟨c, hs⟩ | ⟨-, hs⟩
  · subst c
    unfold U_X4_prepare_70 at hs
    obtain ⟨a0, g0, hs⟩ := s_bind hs
    obtain ⟨a1, g1, hs⟩ := s_bind hs
    obtain ⟨u9, ge, hs⟩ := s_bind hs
    exact l_X4_prepare_70 hs
  rcases s_ite hs with ⟨c, hs⟩ | ⟨-, hs⟩
  · subst c
    unfold U_X4_prepare_78 at hs
    obtain ⟨a0, g0, hs⟩ := s_bind hs
    obtain ⟨a1, g1, hs⟩ := s_bind hs
    obtain ⟨u9, ge, hs⟩ := s_bind hs
    exact l_X4_prepare_78 hs
  rcases s_ite hs with ⟨c, hs⟩ | ⟨-, hs⟩
  · subst c
    unfold U_X4_prepare_104 at hs
    obtain ⟨a0, g0, hs⟩ := s_bind hs
    obtain ⟨a1, g1, hs⟩ := s_bind hs
    obtain ⟨u9, ge, hs⟩ := s_bind hs
    exact l_X4_prepare_104 hs
  cases hs
theorem l_X4_prepare {v0 : Nat} {v1 : Int32} {v2 : Int32} {σ : sS} {q : Unit × sS} (h : F_X4_prepare v0 v1 v2 σ = some q) : s_le σ q.2 := by
  unfold F_X4_prepare at h
  obtain ⟨-, -, h⟩ := s_bind h
  exact s_run_ind (V := fun x r => s_le x.2.2 r.2) (fun x z r hs hk => by
    have h9 := l_X4_prepare_s hs
    cases z with
    | inl y => exact s_le.tr h9 hk
    | inr q => cases hk; exact h9) h
theorem b_X4_prepare {v0 : Nat} {v1 : Int32} {v2 : Int32} {σ : sS} {q : Unit × sS} (h : F_X4_prepare v0 v1 v2 σ = some q) : ∃ fs, σ.1 v0 = some (.inr (4, fs)) := by
  unfold F_X4_prepare at h
  obtain ⟨u, hu, -⟩ := s_bind h
  exact s_is_to hu
set_option maxRecDepth 100000 in
set_option maxHeartbeats 4000000 in
theorem v_X4_prepare_0 {G : sG} {d : Nat} {vs0 : List Value} {σ0 : sS} {v0 : Nat} {v1 : Int32} {v2 : Int32} {σ : sS} {z : sZ Unit} {r : Unit × sS} (hf : T_X4_prepare_0 v0 v1 v2 σ = some z) (k : s_K G (d + 67) M_X4_prepare vs0 σ0 Y_X4_prepare e_V z r) : s_V G (d + 67) M_X4_prepare vs0 σ0 Y_X4_prepare (0, [.ref v0, .int v1, .int v2], σ) (e_V r) := by
  have le0 : s_le σ (e_V r).2 := s_lek hem_V (l_X4_prepare_0 hf) k
  refine ⟨le0, ?_⟩
  intro p e s m below meth c H locs cells slots ls X I hn1 hn2 hl
  have hn : cells + σ0.2.1 ≤ σ.2.1 ∧ slots + σ0.2.2.1 ≤ σ.2.2.1 := ⟨hn1, hn2⟩
  have hl : lv_has ls 4 [(0, .ref v0), (1, .int v1), (2, .int v2)] := hl
  have hx := X.1
  have hb : c.code = cX4_prepare := X.2.1
  have hown : s.vm.findClass RX4 = some m.cls := X.2.2.2.2.2.1
  have hts := X.2.2.2.2.2.2.1
  refine W.eq (g2 := F0 m 0 ls []) rfl ?_
  unfold T_X4_prepare_0 at hf
  obtain ⟨x1, h1, hf⟩ := s_bind hf
  obtain ⟨q2, h2, hf⟩ := s_bind hf
  obtain ⟨σ3, h3, hf⟩ := s_bind hf
  obtain ⟨σ4, h4, hf⟩ := s_bind hf
  obtain ⟨σ5, h5, hf⟩ := s_bind hf
  obtain ⟨σ6, h6, hf⟩ := s_bind hf
  obtain ⟨q7, h7, hf⟩ := s_bind hf
  cases hf
  have k : s_V G (d + 67) M_X4_prepare vs0 σ0 Y_X4_prepare (35, [.ref v0, .int 0], q7.2) (e_V r) := k
  have le8 : s_le q7.2 (e_V r).2 := k.1
  have le9 := s_le.tr (l_X4_lookAt h7) le8
  have le10 := s_le.tr (s_le2 (s_pf_2 h6)) le9
  have le11 := s_le.tr (s_le2 (s_pf_2 h5)) le10
  have le12 := s_le.tr (s_le2 (s_pf_2 h4)) le11
  have le13 := s_le.tr (s_le2 (s_pf_2 h3)) le12
  refine lv_aload_n hx hb dX4_prepare_0 rfl (lv_at hl 0 rfl) ?_
  refine lv_aload_n hx hb dX4_prepare_1 rfl (lv_at hl 0 rfl) ?_
  refine r_gr X I fl_X4_34 h1 dX4_prepare_2 ?_
  refine lv_iload_n hx hb dX4_prepare_5 rfl (lv_at hl 1 rfl) ?_
  refine r_callV (Y := M_X1_toldTo) (v := some (.int q2.1)) X I w_1287 my_X1_toldTo (by omega) (t_X1_toldTo (G := G) (d := d + 65) h2) (b_X1_toldTo h2) rfl rfl hl.1 rfl (Nat.le_of_ble_eq_true rfl) hn le13 dX4_prepare_6 (fun H locs cells slots I hn1 hn2 => ?_)
  have I : s_I G q2.2 s H locs := I
  have hn : cells + σ0.2.1 ≤ q2.2.2.1 ∧ slots + σ0.2.2.1 ≤ q2.2.2.2.1 := ⟨hn1, hn2⟩
  refine r_put X I fp_X4_44 (fun h => by cases h) h3 rfl rfl dX4_prepare_9 (fun H locs I => ?_)
  have hn := s_k2 (s_pf_2 h3) hn
  refine lv_aload_n hx hb dX4_prepare_12 rfl (lv_at hl 0 rfl) ?_
  refine lv_iconst (v := 0) hx hb dX4_prepare_13 (by decide) ?_
  refine r_put X I fp_X4_48 (fun h => by cases h) h4 rfl rfl dX4_prepare_14 (fun H locs I => ?_)
  have hn := s_k2 (s_pf_2 h4) hn
  refine lv_aload_n hx hb dX4_prepare_17 rfl (lv_at hl 0 rfl) ?_
  refine lv_iconst (v := 0) hx hb dX4_prepare_18 (by decide) ?_
  refine r_put X I fp_X4_51 (fun h => by cases h) h5 rfl rfl dX4_prepare_19 (fun H locs I => ?_)
  have hn := s_k2 (s_pf_2 h5) hn
  refine lv_aload_n hx hb dX4_prepare_22 rfl (lv_at hl 0 rfl) ?_
  refine lv_iconst (v := 0) hx hb dX4_prepare_23 (by decide) ?_
  refine r_put X I fp_X4_54 (fun h => by cases h) h6 rfl rfl dX4_prepare_24 (fun H locs I => ?_)
  have hn := s_k2 (s_pf_2 h6) hn
  refine lv_aload_n hx hb dX4_prepare_27 rfl (lv_at hl 0 rfl) ?_
  refine lv_iload_n hx hb dX4_prepare_28 rfl (lv_at hl 2 rfl) ?_
  refine lv_iconst (v := 0) hx hb dX4_prepare_29 (by decide) ?_
  refine r_callV (Y := M_X4_lookAt) (v := none) X I w_1288 my_X4_lookAt (by omega) (t_X4_lookAt (G := G) (d := d + 0) h7) (b_X4_lookAt h7) rfl rfl hl.1 rfl (Nat.le_of_ble_eq_true rfl) hn le8 dX4_prepare_30 (fun H locs cells slots I hn1 hn2 => ?_)
  have I : s_I G q7.2 s H locs := I
  have hn : cells + σ0.2.1 ≤ q7.2.2.1 ∧ slots + σ0.2.2.1 ≤ q7.2.2.2.1 := ⟨hn1, hn2⟩
  refine lv_iconst (v := 0) hx hb dX4_prepare_33 (by decide) ?_
  refine lv_istore_n (lv' := [(3, .int 0), (0, .ref v0), (1, .int v1), (2, .int v2)]) hx hb dX4_prepare_34 rfl hl (by decide) rfl (fun ls hl => ?_)
  exact k.2 p e s m below meth c _ _ _ _ _ X I hn.1 hn.2 (lv_sub hl [1, 0] rfl)
set_option maxRecDepth 100000 in
set_option maxHeartbeats 4000000 in
theorem v_X4_prepare_35 {G : sG} {d : Nat} {vs0 : List Value} {σ0 : sS} {v0 : Nat} {v3 : Int32} {σ : sS} {z : sZ Unit} {r : Unit × sS} (hf : T_X4_prepare_35 v0 v3 σ = some z) (k : s_K G (d + 67) M_X4_prepare vs0 σ0 Y_X4_prepare e_V z r) : s_V G (d + 67) M_X4_prepare vs0 σ0 Y_X4_prepare (35, [.ref v0, .int v3], σ) (e_V r) := by
  have le0 : s_le σ (e_V r).2 := s_lek hem_V (l_X4_prepare_35 hf) k
  refine ⟨le0, ?_⟩
  intro p e s m below meth c H locs cells slots ls X I hn1 hn2 hl
  have hn : cells + σ0.2.1 ≤ σ.2.1 ∧ slots + σ0.2.2.1 ≤ σ.2.2.1 := ⟨hn1, hn2⟩
  have hl : lv_has ls 4 [(0, .ref v0), (3, .int v3)] := hl
  have hx := X.1
  have hb : c.code = cX4_prepare := X.2.1
  have hown : s.vm.findClass RX4 = some m.cls := X.2.2.2.2.2.1
  have hts := X.2.2.2.2.2.2.1
  refine W.eq (g2 := F0 m 35 ls []) rfl ?_
  unfold T_X4_prepare_35 at hf
  obtain ⟨x1, h1, hf⟩ := s_bind hf
  obtain ⟨x2, h2, hf⟩ := s_bind hf
  refine lv_iload_n hx hb dX4_prepare_35 rfl (lv_at hl 1 rfl) ?_
  refine lv_aload_n hx hb dX4_prepare_36 rfl (lv_at hl 0 rfl) ?_
  refine r_gr X I fl_X4_34 h1 dX4_prepare_37 ?_
  refine r_gi X I fl_X4_61 h2 dX4_prepare_40 ?_
  rcases s_ite hf with ⟨c3, hf⟩ | ⟨c3, hf⟩
  · refine lv_icmp_ge (tgt := 76) hx hb dX4_prepare_43 (by decide) (fun _ => ?_) (fun n => absurd c3 n)
    cases hf
    have k : s_V G (d + 67) M_X4_prepare vs0 σ0 Y_X4_prepare (78, [.ref v0, .int 0], σ) (e_V r) := k
    refine lv_iconst (v := 0) hx hb dX4_prepare_76 (by decide) ?_
    refine lv_istore_n (lv' := [(3, .int 0), (0, .ref v0)]) hx hb dX4_prepare_77 rfl hl (by decide) rfl (fun ls hl => ?_)
    exact k.2 p e s m below meth c _ _ _ _ _ X I hn.1 hn.2 (lv_sub hl [1, 0] rfl)
  · refine lv_icmp_ge (tgt := 76) hx hb dX4_prepare_43 (by decide) (fun n => absurd n c3) (fun _ => ?_)
    obtain ⟨x3, h4, hf⟩ := s_bind hf
    refine lv_aload_n hx hb dX4_prepare_46 rfl (lv_at hl 0 rfl) ?_
    refine r_gi X I fl_X4_44 h4 dX4_prepare_47 ?_
    refine lv_iload_n hx hb dX4_prepare_50 rfl (lv_at hl 1 rfl) ?_
    refine lv_ishr hx hb dX4_prepare_51 ?_
    refine lv_iconst (v := 1) hx hb dX4_prepare_52 (by decide) ?_
    refine lv_iand hx hb dX4_prepare_53 ?_
    rcases s_ite hf with ⟨c5, hf⟩ | ⟨c5, hf⟩
    · refine lv_if_eq (tgt := 70) hx hb dX4_prepare_54 (by decide) (fun _ => ?_) (fun n => absurd c5 n)
      cases hf
      have k : s_V G (d + 67) M_X4_prepare vs0 σ0 Y_X4_prepare (70, [.ref v0, .int v3], σ) (e_V r) := k
      exact k.2 p e s m below meth c _ _ _ _ _ X I hn.1 hn.2 (lv_sub hl [0, 1] rfl)
    · refine lv_if_eq (tgt := 70) hx hb dX4_prepare_54 (by decide) (fun n => absurd n c5) (fun _ => ?_)
      obtain ⟨x4, h6, hf⟩ := s_bind hf
      obtain ⟨q5, h7, hf⟩ := s_bind hf
      obtain ⟨q6, h8, hf⟩ := s_bind hf
      cases hf
      have k : s_V G (d + 67) M_X4_prepare vs0 σ0 Y_X4_prepare (70, [.ref v0, .int v3], q6.2) (e_V r) := k
      have le9 : s_le q6.2 (e_V r).2 := k.1
      have le10 := s_le.tr (l_X4_lookAt h8) le9
      refine lv_aload_n hx hb dX4_prepare_57 rfl (lv_at hl 0 rfl) ?_
      refine lv_aload_n hx hb dX4_prepare_58 rfl (lv_at hl 0 rfl) ?_
      refine r_gr X I fl_X4_34 h6 dX4_prepare_59 ?_
      refine lv_iload_n hx hb dX4_prepare_62 rfl (lv_at hl 1 rfl) ?_
      refine r_callV (Y := M_X1_nodeOf) (v := some (.int q5.1)) X I w_1301 my_X1_nodeOf (by omega) (t_X1_nodeOf (G := G) (d := d + 65) h7) (b_X1_nodeOf h7) rfl rfl hl.1 rfl (Nat.le_of_ble_eq_true rfl) hn le10 dX4_prepare_63 (fun H locs cells slots I hn1 hn2 => ?_)
      have I : s_I G q5.2 s H locs := I
      have hn : cells + σ0.2.1 ≤ q5.2.2.1 ∧ slots + σ0.2.2.1 ≤ q5.2.2.2.1 := ⟨hn1, hn2⟩
      refine lv_iconst (v := 0) hx hb dX4_prepare_66 (by decide) ?_
      refine r_callV (Y := M_X4_lookAt) (v := none) X I w_1288 my_X4_lookAt (by omega) (t_X4_lookAt (G := G) (d := d + 0) h8) (b_X4_lookAt h8) rfl rfl hl.1 rfl (Nat.le_of_ble_eq_true rfl) hn le9 dX4_prepare_67 (fun H locs cells slots I hn1 hn2 => ?_)
      have I : s_I G q6.2 s H locs := I
      have hn : cells + σ0.2.1 ≤ q6.2.2.1 ∧ slots + σ0.2.2.1 ≤ q6.2.2.2.1 := ⟨hn1, hn2⟩
      exact k.2 p e s m below meth c _ _ _ _ _ X I hn.1 hn.2 (lv_sub hl [0, 1] rfl)
set_option maxRecDepth 100000 in
set_option maxHeartbeats 4000000 in
theorem v_X4_prepare_70 {G : sG} {d : Nat} {vs0 : List Value} {σ0 : sS} {v0 : Nat} {v3 : Int32} {σ : sS} {z : sZ Unit} {r : Unit × sS} (hf : T_X4_prepare_70 v0 v3 σ = some z) (k : s_K G (d + 67) M_X4_prepare vs0 σ0 Y_X4_prepare e_V z r) : s_V G (d + 67) M_X4_prepare vs0 σ0 Y_X4_prepare (70, [.ref v0, .int v3], σ) (e_V r) := by
  have le0 : s_le σ (e_V r).2 := s_lek hem_V (l_X4_prepare_70 hf) k
  refine ⟨le0, ?_⟩
  intro p e s m below meth c H locs cells slots ls X I hn1 hn2 hl
  have hn : cells + σ0.2.1 ≤ σ.2.1 ∧ slots + σ0.2.2.1 ≤ σ.2.2.1 := ⟨hn1, hn2⟩
  have hl : lv_has ls 4 [(0, .ref v0), (3, .int v3)] := hl
  have hx := X.1
  have hb : c.code = cX4_prepare := X.2.1
  have hown : s.vm.findClass RX4 = some m.cls := X.2.2.2.2.2.1
  have hts := X.2.2.2.2.2.2.1
  refine W.eq (g2 := F0 m 70 ls []) rfl ?_
  unfold T_X4_prepare_70 at hf
  cases hf
  have k : s_V G (d + 67) M_X4_prepare vs0 σ0 Y_X4_prepare (35, [.ref v0, .int (v3 + 1)], σ) (e_V r) := k
  refine lv_iinc (v := (v3 + 1)) (lv' := [(3, .int (v3 + 1)), (0, .ref v0)]) hx hb dX4_prepare_70 hl (k := 1) rfl rfl (by decide) rfl (fun ls hl => ?_)
  refine lv_goto (tgt := 35) hx hb dX4_prepare_73 (by decide) ?_
  exact k.2 p e s m below meth c _ _ _ _ _ X I hn.1 hn.2 (lv_sub hl [1, 0] rfl)
set_option maxRecDepth 100000 in
set_option maxHeartbeats 4000000 in
theorem v_X4_prepare_78 {G : sG} {d : Nat} {vs0 : List Value} {σ0 : sS} {v0 : Nat} {v3 : Int32} {σ : sS} {z : sZ Unit} {r : Unit × sS} (hf : T_X4_prepare_78 v0 v3 σ = some z) (k : s_K G (d + 67) M_X4_prepare vs0 σ0 Y_X4_prepare e_V z r) : s_V G (d + 67) M_X4_prepare vs0 σ0 Y_X4_prepare (78, [.ref v0, .int v3], σ) (e_V r) := by
  have le0 : s_le σ (e_V r).2 := s_lek hem_V (l_X4_prepare_78 hf) k
  refine ⟨le0, ?_⟩
  intro p e s m below meth c H locs cells slots ls X I hn1 hn2 hl
  have hn : cells + σ0.2.1 ≤ σ.2.1 ∧ slots + σ0.2.2.1 ≤ σ.2.2.1 := ⟨hn1, hn2⟩
  have hl : lv_has ls 4 [(0, .ref v0), (3, .int v3)] := hl
  have hx := X.1
  have hb : c.code = cX4_prepare := X.2.1
  have hown : s.vm.findClass RX4 = some m.cls := X.2.2.2.2.2.1
  have hts := X.2.2.2.2.2.2.1
  refine W.eq (g2 := F0 m 78 ls []) rfl ?_
  unfold T_X4_prepare_78 at hf
  obtain ⟨x1, h1, hf⟩ := s_bind hf
  refine lv_iload_n hx hb dX4_prepare_78 rfl (lv_at hl 1 rfl) ?_
  refine lv_aload_n hx hb dX4_prepare_79 rfl (lv_at hl 0 rfl) ?_
  refine r_gi X I fl_X4_48 h1 dX4_prepare_80 ?_
  rcases s_ite hf with ⟨c2, hf⟩ | ⟨c2, hf⟩
  · refine lv_icmp_ge (tgt := 102) hx hb dX4_prepare_83 (by decide) (fun _ => ?_) (fun n => absurd c2 n)
    cases hf
    have k : s_V G (d + 67) M_X4_prepare vs0 σ0 Y_X4_prepare (104, [.ref v0, .int 0], σ) (e_V r) := k
    refine lv_iconst (v := 0) hx hb dX4_prepare_102 (by decide) ?_
    refine lv_istore_n (lv' := [(3, .int 0), (0, .ref v0)]) hx hb dX4_prepare_103 rfl hl (by decide) rfl (fun ls hl => ?_)
    exact k.2 p e s m below meth c _ _ _ _ _ X I hn.1 hn.2 (lv_sub hl [1, 0] rfl)
  · refine lv_icmp_ge (tgt := 102) hx hb dX4_prepare_83 (by decide) (fun n => absurd n c2) (fun _ => ?_)
    obtain ⟨x2, h3, hf⟩ := s_bind hf
    obtain ⟨x3, h4, hf⟩ := s_bind hf
    obtain ⟨q4, h5, hf⟩ := s_bind hf
    cases hf
    have k : s_V G (d + 67) M_X4_prepare vs0 σ0 Y_X4_prepare (78, [.ref v0, .int (v3 + 1)], q4.2) (e_V r) := k
    have le6 : s_le q4.2 (e_V r).2 := k.1
    refine lv_aload_n hx hb dX4_prepare_86 rfl (lv_at hl 0 rfl) ?_
    refine lv_aload_n hx hb dX4_prepare_87 rfl (lv_at hl 0 rfl) ?_
    refine r_gr X I fl_X4_11 h3 dX4_prepare_88 ?_
    refine lv_iload_n hx hb dX4_prepare_91 rfl (lv_at hl 1 rfl) ?_
    refine r_iald X I h4 dX4_prepare_92 ?_
    refine r_callV (Y := M_X4_listAssumed) (v := none) X I w_1302 my_X4_listAssumed (by omega) (t_X4_listAssumed (G := G) (d := d + 64) h5) (b_X4_listAssumed h5) rfl rfl hl.1 rfl (Nat.le_of_ble_eq_true rfl) hn le6 dX4_prepare_93 (fun H locs cells slots I hn1 hn2 => ?_)
    have I : s_I G q4.2 s H locs := I
    have hn : cells + σ0.2.1 ≤ q4.2.2.1 ∧ slots + σ0.2.2.1 ≤ q4.2.2.2.1 := ⟨hn1, hn2⟩
    refine lv_iinc (v := (v3 + 1)) (lv' := [(3, .int (v3 + 1)), (0, .ref v0)]) hx hb dX4_prepare_96 hl (k := 1) rfl rfl (by decide) rfl (fun ls hl => ?_)
    refine lv_goto (tgt := 78) hx hb dX4_prepare_99 (by decide) ?_
    exact k.2 p e s m below meth c _ _ _ _ _ X I hn.1 hn.2 (lv_sub hl [1, 0] rfl)
set_option maxRecDepth 100000 in
set_option maxHeartbeats 4000000 in
theorem v_X4_prepare_104 {G : sG} {d : Nat} {vs0 : List Value} {σ0 : sS} {v0 : Nat} {v3 : Int32} {σ : sS} {z : sZ Unit} {r : Unit × sS} (hf : T_X4_prepare_104 v0 v3 σ = some z) (k : s_K G (d + 67) M_X4_prepare vs0 σ0 Y_X4_prepare e_V z r) : s_V G (d + 67) M_X4_prepare vs0 σ0 Y_X4_prepare (104, [.ref v0, .int v3], σ) (e_V r) := by
  have le0 : s_le σ (e_V r).2 := s_lek hem_V (l_X4_prepare_104 hf) k
  refine ⟨le0, ?_⟩
  intro p e s m below meth c H locs cells slots ls X I hn1 hn2 hl
  have hn : cells + σ0.2.1 ≤ σ.2.1 ∧ slots + σ0.2.2.1 ≤ σ.2.2.1 := ⟨hn1, hn2⟩
  have hl : lv_has ls 4 [(0, .ref v0), (3, .int v3)] := hl
  have hx := X.1
  have hb : c.code = cX4_prepare := X.2.1
  have hown : s.vm.findClass RX4 = some m.cls := X.2.2.2.2.2.1
  have hts := X.2.2.2.2.2.2.1
  refine W.eq (g2 := F0 m 104 ls []) rfl ?_
  unfold T_X4_prepare_104 at hf
  obtain ⟨x1, h1, hf⟩ := s_bind hf
  refine lv_iload_n hx hb dX4_prepare_104 rfl (lv_at hl 1 rfl) ?_
  refine lv_aload_n hx hb dX4_prepare_105 rfl (lv_at hl 0 rfl) ?_
  refine r_gi X I fl_X4_48 h1 dX4_prepare_106 ?_
  rcases s_ite hf with ⟨c2, hf⟩ | ⟨c2, hf⟩
  · refine lv_icmp_ge (tgt := 123) hx hb dX4_prepare_109 (by decide) (fun _ => ?_) (fun n => absurd c2 n)
    cases hf
    have k : _ = r := k
    subst k
    exact r_vret X I rfl rfl hn dX4_prepare_123
  · refine lv_icmp_ge (tgt := 123) hx hb dX4_prepare_109 (by decide) (fun n => absurd n c2) (fun _ => ?_)
    obtain ⟨q2, h3, hf⟩ := s_bind hf
    cases hf
    have k : s_V G (d + 67) M_X4_prepare vs0 σ0 Y_X4_prepare (104, [.ref v0, .int (v3 + 1)], q2.2) (e_V r) := k
    have le4 : s_le q2.2 (e_V r).2 := k.1
    refine lv_aload_n hx hb dX4_prepare_112 rfl (lv_at hl 0 rfl) ?_
    refine lv_iload_n hx hb dX4_prepare_113 rfl (lv_at hl 1 rfl) ?_
    refine r_callV (Y := M_X4_listSteps) (v := none) X I w_1310 my_X4_listSteps (by omega) (t_X4_listSteps (G := G) (d := d + 62) h3) (b_X4_listSteps h3) rfl rfl hl.1 rfl (Nat.le_of_ble_eq_true rfl) hn le4 dX4_prepare_114 (fun H locs cells slots I hn1 hn2 => ?_)
    have I : s_I G q2.2 s H locs := I
    have hn : cells + σ0.2.1 ≤ q2.2.2.1 ∧ slots + σ0.2.2.1 ≤ q2.2.2.2.1 := ⟨hn1, hn2⟩
    refine lv_iinc (v := (v3 + 1)) (lv' := [(3, .int (v3 + 1)), (0, .ref v0)]) hx hb dX4_prepare_117 hl (k := 1) rfl rfl (by decide) rfl (fun ls hl => ?_)
    refine lv_goto (tgt := 104) hx hb dX4_prepare_120 (by decide) ?_
    exact k.2 p e s m below meth c _ _ _ _ _ X I hn.1 hn.2 (lv_sub hl [1, 0] rfl)
theorem v_X4_prepare {G : sG} {d : Nat} {vs0 : List Value} {σ0 : sS} {x : sL} {z : sZ Unit} {r : Unit × sS} (hs : S_X4_prepare x = some z) (k : s_K G (d + 67) M_X4_prepare vs0 σ0 Y_X4_prepare e_V z r) : s_V G (d + 67) M_X4_prepare vs0 σ0 Y_X4_prepare x (e_V r) := by
  obtain ⟨pc, vs, σ⟩ := x
  unfold S_X4_prepare at hs
  dsimp only at hs
  rcases s_ite hs with ⟨c, hs⟩ | ⟨-, hs⟩
  · subst c
    unfold U_X4_prepare_0 at hs
    obtain ⟨a0, g0, hs⟩ := s_bind hs
    obtain ⟨a1, g1, hs⟩ := s_bind hs
    obtain ⟨a2, g2, hs⟩ := s_bind hs
    obtain ⟨u9, ge, hs⟩ := s_bind hs
    rw [g_r_to g0, g_i_to g1, g_i_to g2, g_e_to ge]
    exact v_X4_prepare_0 hs k
  rcases s_ite hs with ⟨c, hs⟩ | ⟨-, hs⟩
  · subst c
    unfold U_X4_prepare_35 at hs
    obtain ⟨a0, g0, hs⟩ := s_bind hs
    obtain ⟨a1, g1, hs⟩ := s_bind hs
    obtain ⟨u9, ge, hs⟩ := s_bind hs
    rw [g_r_to g0, g_i_to g1, g_e_to ge]
    exact v_X4_prepare_35 hs k
  rcases s_ite hs with ⟨c, hs⟩ | ⟨-, hs⟩
  · subst c
    unfold U_X4_prepare_70 at hs
    obtain ⟨a0, g0, hs⟩ := s_bind hs
    obtain ⟨a1, g1, hs⟩ := s_bind hs
    obtain ⟨u9, ge, hs⟩ := s_bind hs
    rw [g_r_to g0, g_i_to g1, g_e_to ge]
    exact v_X4_prepare_70 hs k
  rcases s_ite hs with ⟨c, hs⟩ | ⟨-, hs⟩
  · subst c
    unfold U_X4_prepare_78 at hs
    obtain ⟨a0, g0, hs⟩ := s_bind hs
    obtain ⟨a1, g1, hs⟩ := s_bind hs
    obtain ⟨u9, ge, hs⟩ := s_bind hs
    rw [g_r_to g0, g_i_to g1, g_e_to ge]
    exact v_X4_prepare_78 hs k
  rcases s_ite hs with ⟨c, hs⟩ | ⟨-, hs⟩
  · subst c
    unfold U_X4_prepare_104 at hs
    obtain ⟨a0, g0, hs⟩ := s_bind hs
    obtain ⟨a1, g1, hs⟩ := s_bind hs
    obtain ⟨u9, ge, hs⟩ := s_bind hs
    rw [g_r_to g0, g_i_to g1, g_e_to ge]
    exact v_X4_prepare_104 hs k
  cases hs
theorem t_X4_prepare {G : sG} {d : Nat} {v0 : Nat} {v1 : Int32} {v2 : Int32} {σ : sS} {q : Unit × sS} (h : F_X4_prepare v0 v1 v2 σ = some q) : s_T G (d + 67) M_X4_prepare [.ref v0, .int v1, .int v2] σ (e_V q) := by
  unfold F_X4_prepare at h
  obtain ⟨-, -, h⟩ := s_bind h
  exact s_ofV rfl (by decide) (Nat.le_of_ble_eq_true rfl) rfl rfl (s_run_ind (V := fun x r => s_V G (d + 67) M_X4_prepare [.ref v0, .int v1, .int v2] σ Y_X4_prepare x (e_V r)) (fun x z r hs hk => v_X4_prepare hs (by cases z <;> exact hk)) h)
/-! X7_needProof -/
noncomputable def T_X7_needProof_0 (v0 : Nat) (v1 : Int32) (v2 : Int32) (v3 : Int32) (σ : sS) : Option (sZ (Unit ⊕ String)) :=
  (F_X7_needHouse v0 v1 σ).bind fun q1 => s_sum q1.1 (fun x2 => (F_X7_needCustomer v0 v2 q1.2).bind fun q4 => s_sum q4.1 (fun x5 => (F_X7_needFormula v0 v3 q4.2).bind fun q7 => s_sum q7.1 (fun x8 => (s_fr q7.2 v0 7 6).bind fun x10 =>
  (s_fr q7.2 v0 7 1).bind fun x11 =>
  (F_X1_nodeOf x11 v3 q7.2).bind fun q12 =>
  (F_X4_prepare x10 v2 q12.1 q12.2).bind fun q13 =>
  some (.inr (.inl (), q13.2))) (fun E9 => some (.inr (.inr E9, q7.2)))) (fun E6 => some (.inr (.inr E6, q4.2)))) (fun E3 => some (.inr (.inr E3, q1.2)))
noncomputable def U_X7_needProof_0 (vs : List Value) (σ : sS) : Option (sZ (Unit ⊕ String)) := (g_r vs).bind fun a0 => (g_i a0.2).bind fun a1 => (g_i a1.2).bind fun a2 => (g_i a2.2).bind fun a3 => (g_e a3.2).bind fun _ => T_X7_needProof_0 a0.1 a1.1 a2.1 a3.1 σ
noncomputable def S_X7_needProof (x : sL) : Option (sZ (Unit ⊕ String)) := if x.1 = 0 then U_X7_needProof_0 x.2.1 x.2.2 else none
def Y_X7_needProof (pc : Nat) : List Nat := if pc = 0 then [0, 1, 2, 3] else []
noncomputable def F_X7_needProof (v0 : Nat) (v1 : Int32) (v2 : Int32) (v3 : Int32) (σ : sS) : Option ((Unit ⊕ String) × sS) := (s_is σ v0 7).bind fun _ => s_run S_X7_needProof (0, [.ref v0, .int v1, .int v2, .int v3], σ)
theorem l_X7_needProof_0 {v0 : Nat} {v1 : Int32} {v2 : Int32} {v3 : Int32} {σ : sS} {z : sZ (Unit ⊕ String)} (hf : T_X7_needProof_0 v0 v1 v2 v3 σ = some z) : s_lz σ z := by
  unfold T_X7_needProof_0 at hf
  obtain ⟨q1, hh, hf⟩ := s_bind hf
  refine s_lz.tr (l_X7_needHouse hh) ?_
  rcases s_sum_some hf with ⟨x2, -, hf⟩ | ⟨E3, -, hf⟩
  · obtain ⟨q4, hh, hf⟩ := s_bind hf
    refine s_lz.tr (l_X7_needCustomer hh) ?_
    rcases s_sum_some hf with ⟨x5, -, hf⟩ | ⟨E6, -, hf⟩
    · obtain ⟨q7, hh, hf⟩ := s_bind hf
      refine s_lz.tr (l_X7_needFormula hh) ?_
      rcases s_sum_some hf with ⟨x8, -, hf⟩ | ⟨E9, -, hf⟩
      · obtain ⟨x10, -, hf⟩ := s_bind hf
        obtain ⟨x11, -, hf⟩ := s_bind hf
        obtain ⟨q12, hh, hf⟩ := s_bind hf
        refine s_lz.tr (l_X1_nodeOf hh) ?_
        obtain ⟨q13, hh, hf⟩ := s_bind hf
        refine s_lz.tr (l_X4_prepare hh) ?_
        cases hf
        exact s_le.rf
      · cases hf
        exact s_le.rf
    · cases hf
      exact s_le.rf
  · cases hf
    exact s_le.rf
theorem l_X7_needProof_s {x : sL} {z : sZ (Unit ⊕ String)} (hs : S_X7_needProof x = some z) : s_lz x.2.2 z := by
  obtain ⟨pc, vs, σ⟩ := x
  unfold S_X7_needProof at hs
  dsimp only at hs ⊢
  rcases s_ite hs with ⟨c, hs⟩ | ⟨-, hs⟩
  · subst c
    unfold U_X7_needProof_0 at hs
    obtain ⟨a0, g0, hs⟩ := s_bind hs
    obtain ⟨a1, g1, hs⟩ := s_bind hs
    obtain ⟨a2, g2, hs⟩ := s_bind hs
    obtain ⟨a3, g3, hs⟩ := s_bind hs
    obtain ⟨u9, ge, hs⟩ := s_bind hs
    exact l_X7_needProof_0 hs
  cases hs
theorem l_X7_needProof {v0 : Nat} {v1 : Int32} {v2 : Int32} {v3 : Int32} {σ : sS} {q : (Unit ⊕ String) × sS} (h : F_X7_needProof v0 v1 v2 v3 σ = some q) : s_le σ q.2 := by
  unfold F_X7_needProof at h
  obtain ⟨-, -, h⟩ := s_bind h
  exact s_run_ind (V := fun x r => s_le x.2.2 r.2) (fun x z r hs hk => by
    have h9 := l_X7_needProof_s hs
    cases z with
    | inl y => exact s_le.tr h9 hk
    | inr q => cases hk; exact h9) h
theorem b_X7_needProof {v0 : Nat} {v1 : Int32} {v2 : Int32} {v3 : Int32} {σ : sS} {q : (Unit ⊕ String) × sS} (h : F_X7_needProof v0 v1 v2 v3 σ = some q) : ∃ fs, σ.1 v0 = some (.inr (7, fs)) := by
  unfold F_X7_needProof at h
  obtain ⟨u, hu, -⟩ := s_bind h
  exact s_is_to hu
set_option maxRecDepth 100000 in
set_option maxHeartbeats 4000000 in
theorem v_X7_needProof_0 {G : sG} {d : Nat} {vs0 : List Value} {σ0 : sS} {v0 : Nat} {v1 : Int32} {v2 : Int32} {v3 : Int32} {σ : sS} {z : sZ (Unit ⊕ String)} {r : (Unit ⊕ String) × sS} (hf : T_X7_needProof_0 v0 v1 v2 v3 σ = some z) (k : s_K G (d + 68) M_X7_needProof vs0 σ0 Y_X7_needProof e_VX z r) : s_V G (d + 68) M_X7_needProof vs0 σ0 Y_X7_needProof (0, [.ref v0, .int v1, .int v2, .int v3], σ) (e_VX r) := by
  have le0 : s_le σ (e_VX r).2 := s_lek hem_VX (l_X7_needProof_0 hf) k
  refine ⟨le0, ?_⟩
  intro p e s m below meth c H locs cells slots ls X I hn1 hn2 hl
  have hn : cells + σ0.2.1 ≤ σ.2.1 ∧ slots + σ0.2.2.1 ≤ σ.2.2.1 := ⟨hn1, hn2⟩
  have hl : lv_has ls 4 [(0, .ref v0), (1, .int v1), (2, .int v2), (3, .int v3)] := hl
  have hx := X.1
  have hb : c.code = cX7_needProof := X.2.1
  have hown : s.vm.findClass RX7 = some m.cls := X.2.2.2.2.2.1
  have hts := X.2.2.2.2.2.2.1
  refine W.eq (g2 := F0 m 0 ls []) rfl ?_
  unfold T_X7_needProof_0 at hf
  obtain ⟨q1, h1, hf⟩ := s_bind hf
  refine lv_aload_n hx hb dX7_needProof_0 rfl (lv_at hl 0 rfl) ?_
  refine lv_iload_n hx hb dX7_needProof_1 rfl (lv_at hl 1 rfl) ?_
  rcases s_sum_some hf with ⟨x2, hq2, hf⟩ | ⟨E3, hq2, hf⟩
  · have le3 : s_le q1.2 (e_VX r).2 := by
      refine s_lek hem_VX ?_ k
      obtain ⟨q4, hh, hf⟩ := s_bind hf
      refine s_lz.tr (l_X7_needCustomer hh) ?_
      rcases s_sum_some hf with ⟨x5, -, hf⟩ | ⟨E6, -, hf⟩
      · obtain ⟨q7, hh, hf⟩ := s_bind hf
        refine s_lz.tr (l_X7_needFormula hh) ?_
        rcases s_sum_some hf with ⟨x8, -, hf⟩ | ⟨E9, -, hf⟩
        · obtain ⟨x10, -, hf⟩ := s_bind hf
          obtain ⟨x11, -, hf⟩ := s_bind hf
          obtain ⟨q12, hh, hf⟩ := s_bind hf
          refine s_lz.tr (l_X1_nodeOf hh) ?_
          obtain ⟨q13, hh, hf⟩ := s_bind hf
          refine s_lz.tr (l_X4_prepare hh) ?_
          cases hf
          exact s_le.rf
        · cases hf
          exact s_le.rf
      · cases hf
        exact s_le.rf
    refine r_callV (Y := M_X7_needHouse) (v := none) X I w_1087 my_X7_needHouse (by omega) (t_X7_needHouse (G := G) (d := d + 66) h1) (b_X7_needHouse h1) (e_VX_l hq2) rfl hl.1 rfl (Nat.le_of_ble_eq_true rfl) hn le3 dX7_needProof_2 (fun H locs cells slots I hn1 hn2 => ?_)
    have I : s_I G q1.2 s H locs := I
    have hn : cells + σ0.2.1 ≤ q1.2.2.1 ∧ slots + σ0.2.2.1 ≤ q1.2.2.2.1 := ⟨hn1, hn2⟩
    obtain ⟨q4, h4, hf⟩ := s_bind hf
    refine lv_aload_n hx hb dX7_needProof_5 rfl (lv_at hl 0 rfl) ?_
    refine lv_iload_n hx hb dX7_needProof_6 rfl (lv_at hl 2 rfl) ?_
    rcases s_sum_some hf with ⟨x5, hq5, hf⟩ | ⟨E6, hq5, hf⟩
    · have le6 : s_le q4.2 (e_VX r).2 := by
        refine s_lek hem_VX ?_ k
        obtain ⟨q7, hh, hf⟩ := s_bind hf
        refine s_lz.tr (l_X7_needFormula hh) ?_
        rcases s_sum_some hf with ⟨x8, -, hf⟩ | ⟨E9, -, hf⟩
        · obtain ⟨x10, -, hf⟩ := s_bind hf
          obtain ⟨x11, -, hf⟩ := s_bind hf
          obtain ⟨q12, hh, hf⟩ := s_bind hf
          refine s_lz.tr (l_X1_nodeOf hh) ?_
          obtain ⟨q13, hh, hf⟩ := s_bind hf
          refine s_lz.tr (l_X4_prepare hh) ?_
          cases hf
          exact s_le.rf
        · cases hf
          exact s_le.rf
      refine r_callV (Y := M_X7_needCustomer) (v := none) X I w_1115 my_X7_needCustomer (by omega) (t_X7_needCustomer (G := G) (d := d + 66) h4) (b_X7_needCustomer h4) (e_VX_l hq5) rfl hl.1 rfl (Nat.le_of_ble_eq_true rfl) hn le6 dX7_needProof_7 (fun H locs cells slots I hn1 hn2 => ?_)
      have I : s_I G q4.2 s H locs := I
      have hn : cells + σ0.2.1 ≤ q4.2.2.1 ∧ slots + σ0.2.2.1 ≤ q4.2.2.2.1 := ⟨hn1, hn2⟩
      obtain ⟨q7, h7, hf⟩ := s_bind hf
      refine lv_aload_n hx hb dX7_needProof_10 rfl (lv_at hl 0 rfl) ?_
      refine lv_iload_n hx hb dX7_needProof_11 rfl (lv_at hl 3 rfl) ?_
      rcases s_sum_some hf with ⟨x8, hq8, hf⟩ | ⟨E9, hq8, hf⟩
      · have le9 : s_le q7.2 (e_VX r).2 := by
          refine s_lek hem_VX ?_ k
          obtain ⟨x10, -, hf⟩ := s_bind hf
          obtain ⟨x11, -, hf⟩ := s_bind hf
          obtain ⟨q12, hh, hf⟩ := s_bind hf
          refine s_lz.tr (l_X1_nodeOf hh) ?_
          obtain ⟨q13, hh, hf⟩ := s_bind hf
          refine s_lz.tr (l_X4_prepare hh) ?_
          cases hf
          exact s_le.rf
        refine r_callV (Y := M_X7_needFormula) (v := none) X I w_1016 my_X7_needFormula (by omega) (t_X7_needFormula (G := G) (d := d + 66) h7) (b_X7_needFormula h7) (e_VX_l hq8) rfl hl.1 rfl (Nat.le_of_ble_eq_true rfl) hn le9 dX7_needProof_12 (fun H locs cells slots I hn1 hn2 => ?_)
        have I : s_I G q7.2 s H locs := I
        have hn : cells + σ0.2.1 ≤ q7.2.2.1 ∧ slots + σ0.2.2.1 ≤ q7.2.2.2.1 := ⟨hn1, hn2⟩
        obtain ⟨x10, h10, hf⟩ := s_bind hf
        obtain ⟨x11, h11, hf⟩ := s_bind hf
        obtain ⟨q12, h12, hf⟩ := s_bind hf
        obtain ⟨q13, h13, hf⟩ := s_bind hf
        cases hf
        have k : _ = r := k
        subst k
        have le14 : s_le q13.2 q13.2 := s_le.rf
        have le15 := s_le.tr (l_X4_prepare h13) le14
        refine lv_aload_n hx hb dX7_needProof_15 rfl (lv_at hl 0 rfl) ?_
        refine r_gr X I fl_X7_56 h10 dX7_needProof_16 ?_
        refine lv_iload_n hx hb dX7_needProof_19 rfl (lv_at hl 2 rfl) ?_
        refine lv_aload_n hx hb dX7_needProof_20 rfl (lv_at hl 0 rfl) ?_
        refine r_gr X I fl_X7_19 h11 dX7_needProof_21 ?_
        refine lv_iload_n hx hb dX7_needProof_24 rfl (lv_at hl 3 rfl) ?_
        refine r_callV (Y := M_X1_nodeOf) (v := some (.int q12.1)) X I w_1036 my_X1_nodeOf (by omega) (t_X1_nodeOf (G := G) (d := d + 66) h12) (b_X1_nodeOf h12) rfl rfl hl.1 rfl (Nat.le_of_ble_eq_true rfl) hn le15 dX7_needProof_25 (fun H locs cells slots I hn1 hn2 => ?_)
        have I : s_I G q12.2 s H locs := I
        have hn : cells + σ0.2.1 ≤ q12.2.2.1 ∧ slots + σ0.2.2.1 ≤ q12.2.2.2.1 := ⟨hn1, hn2⟩
        refine r_callV (Y := M_X4_prepare) (v := none) X I w_1283 my_X4_prepare (by omega) (t_X4_prepare (G := G) (d := d + 0) h13) (b_X4_prepare h13) rfl rfl hl.1 rfl (Nat.le_of_ble_eq_true rfl) hn le14 dX7_needProof_28 (fun H locs cells slots I hn1 hn2 => ?_)
        have I : s_I G q13.2 s H locs := I
        have hn : cells + σ0.2.1 ≤ q13.2.2.1 ∧ slots + σ0.2.2.1 ≤ q13.2.2.2.1 := ⟨hn1, hn2⟩
        exact r_vret X I rfl rfl hn dX7_needProof_31
      · cases hf
        have k : _ = r := k
        subst k
        exact r_callVx (Y := M_X7_needFormula) X I rfl w_1016 my_X7_needFormula (by omega) (t_X7_needFormula (G := G) (d := d + 66) h7) (b_X7_needFormula h7) (e_VX_r hq8) rfl hl.1 rfl (Nat.le_of_ble_eq_true rfl) hn rfl dX7_needProof_12
    · cases hf
      have k : _ = r := k
      subst k
      exact r_callVx (Y := M_X7_needCustomer) X I rfl w_1115 my_X7_needCustomer (by omega) (t_X7_needCustomer (G := G) (d := d + 66) h4) (b_X7_needCustomer h4) (e_VX_r hq5) rfl hl.1 rfl (Nat.le_of_ble_eq_true rfl) hn rfl dX7_needProof_7
  · cases hf
    have k : _ = r := k
    subst k
    exact r_callVx (Y := M_X7_needHouse) X I rfl w_1087 my_X7_needHouse (by omega) (t_X7_needHouse (G := G) (d := d + 66) h1) (b_X7_needHouse h1) (e_VX_r hq2) rfl hl.1 rfl (Nat.le_of_ble_eq_true rfl) hn rfl dX7_needProof_2
theorem v_X7_needProof {G : sG} {d : Nat} {vs0 : List Value} {σ0 : sS} {x : sL} {z : sZ (Unit ⊕ String)} {r : (Unit ⊕ String) × sS} (hs : S_X7_needProof x = some z) (k : s_K G (d + 68) M_X7_needProof vs0 σ0 Y_X7_needProof e_VX z r) : s_V G (d + 68) M_X7_needProof vs0 σ0 Y_X7_needProof x (e_VX r) := by
  obtain ⟨pc, vs, σ⟩ := x
  unfold S_X7_needProof at hs
  dsimp only at hs
  rcases s_ite hs with ⟨c, hs⟩ | ⟨-, hs⟩
  · subst c
    unfold U_X7_needProof_0 at hs
    obtain ⟨a0, g0, hs⟩ := s_bind hs
    obtain ⟨a1, g1, hs⟩ := s_bind hs
    obtain ⟨a2, g2, hs⟩ := s_bind hs
    obtain ⟨a3, g3, hs⟩ := s_bind hs
    obtain ⟨u9, ge, hs⟩ := s_bind hs
    rw [g_r_to g0, g_i_to g1, g_i_to g2, g_i_to g3, g_e_to ge]
    exact v_X7_needProof_0 hs k
  cases hs
theorem t_X7_needProof {G : sG} {d : Nat} {v0 : Nat} {v1 : Int32} {v2 : Int32} {v3 : Int32} {σ : sS} {q : (Unit ⊕ String) × sS} (h : F_X7_needProof v0 v1 v2 v3 σ = some q) : s_T G (d + 68) M_X7_needProof [.ref v0, .int v1, .int v2, .int v3] σ (e_VX q) := by
  unfold F_X7_needProof at h
  obtain ⟨-, -, h⟩ := s_bind h
  exact s_ofV rfl (by decide) (Nat.le_of_ble_eq_true rfl) rfl rfl (s_run_ind (V := fun x r => s_V G (d + 68) M_X7_needProof [.ref v0, .int v1, .int v2, .int v3] σ Y_X7_needProof x (e_VX r)) (fun x z r hs hk => v_X7_needProof hs (by cases z <;> exact hk)) h)
/-! X1_hasRule -/
noncomputable def T_X1_hasRule_0 (v0 : Nat) (v1 : Int32) (v2 : Int32) (σ : sS) : Option (sZ Int32) :=
  if v1 < 0 then (some (.inr (0, σ)))
  else (if (3 : Int32) ≤ v1 then (some (.inr (0, σ)))
  else ((s_fr σ v0 1 4).bind fun x1 =>
  (s_ai σ x1 v1).bind fun x2 =>
  if ((x2 >>> (v2 &&& 31)) &&& 1) = 0 then (some (.inr (0, σ)))
  else (some (.inr (1, σ)))))
noncomputable def U_X1_hasRule_0 (vs : List Value) (σ : sS) : Option (sZ Int32) := (g_r vs).bind fun a0 => (g_i a0.2).bind fun a1 => (g_i a1.2).bind fun a2 => (g_e a2.2).bind fun _ => T_X1_hasRule_0 a0.1 a1.1 a2.1 σ
noncomputable def S_X1_hasRule (x : sL) : Option (sZ Int32) := if x.1 = 0 then U_X1_hasRule_0 x.2.1 x.2.2 else none
def Y_X1_hasRule (pc : Nat) : List Nat := if pc = 0 then [0, 1, 2] else []
noncomputable def F_X1_hasRule (v0 : Nat) (v1 : Int32) (v2 : Int32) (σ : sS) : Option (Int32 × sS) := (s_is σ v0 1).bind fun _ => s_run S_X1_hasRule (0, [.ref v0, .int v1, .int v2], σ)
theorem l_X1_hasRule_0 {v0 : Nat} {v1 : Int32} {v2 : Int32} {σ : sS} {z : sZ Int32} (hf : T_X1_hasRule_0 v0 v1 v2 σ = some z) : s_lz σ z := by
  unfold T_X1_hasRule_0 at hf
  rcases s_ite hf with ⟨-, hf⟩ | ⟨-, hf⟩
  · cases hf
    exact s_le.rf
  · rcases s_ite hf with ⟨-, hf⟩ | ⟨-, hf⟩
    · cases hf
      exact s_le.rf
    · obtain ⟨x1, -, hf⟩ := s_bind hf
      obtain ⟨x2, -, hf⟩ := s_bind hf
      rcases s_ite hf with ⟨-, hf⟩ | ⟨-, hf⟩
      · cases hf
        exact s_le.rf
      · cases hf
        exact s_le.rf
theorem l_X1_hasRule_s {x : sL} {z : sZ Int32} (hs : S_X1_hasRule x = some z) : s_lz x.2.2 z := by
  obtain ⟨pc, vs, σ⟩ := x
  unfold S_X1_hasRule at hs
  dsimp only at hs ⊢
  rcases s_ite hs with ⟨c, hs⟩ | ⟨-, hs⟩
  · subst c
    unfold U_X1_hasRule_0 at hs
    obtain ⟨a0, g0, hs⟩ := s_bind hs
    obtain ⟨a1, g1, hs⟩ := s_bind hs
    obtain ⟨a2, g2, hs⟩ := s_bind hs
    obtain ⟨u9, ge, hs⟩ := s_bind hs
    exact l_X1_hasRule_0 hs
  cases hs
theorem l_X1_hasRule {v0 : Nat} {v1 : Int32} {v2 : Int32} {σ : sS} {q : Int32 × sS} (h : F_X1_hasRule v0 v1 v2 σ = some q) : s_le σ q.2 := by
  unfold F_X1_hasRule at h
  obtain ⟨-, -, h⟩ := s_bind h
  exact s_run_ind (V := fun x r => s_le x.2.2 r.2) (fun x z r hs hk => by
    have h9 := l_X1_hasRule_s hs
    cases z with
    | inl y => exact s_le.tr h9 hk
    | inr q => cases hk; exact h9) h
theorem b_X1_hasRule {v0 : Nat} {v1 : Int32} {v2 : Int32} {σ : sS} {q : Int32 × sS} (h : F_X1_hasRule v0 v1 v2 σ = some q) : ∃ fs, σ.1 v0 = some (.inr (1, fs)) := by
  unfold F_X1_hasRule at h
  obtain ⟨u, hu, -⟩ := s_bind h
  exact s_is_to hu
set_option maxRecDepth 100000 in
set_option maxHeartbeats 4000000 in
theorem v_X1_hasRule_0 {G : sG} {d : Nat} {vs0 : List Value} {σ0 : sS} {v0 : Nat} {v1 : Int32} {v2 : Int32} {σ : sS} {z : sZ Int32} {r : Int32 × sS} (hf : T_X1_hasRule_0 v0 v1 v2 σ = some z) (k : s_K G (d + 1) M_X1_hasRule vs0 σ0 Y_X1_hasRule e_I z r) : s_V G (d + 1) M_X1_hasRule vs0 σ0 Y_X1_hasRule (0, [.ref v0, .int v1, .int v2], σ) (e_I r) := by
  have le0 : s_le σ (e_I r).2 := s_lek hem_I (l_X1_hasRule_0 hf) k
  refine ⟨le0, ?_⟩
  intro p e s m below meth c H locs cells slots ls X I hn1 hn2 hl
  have hn : cells + σ0.2.1 ≤ σ.2.1 ∧ slots + σ0.2.2.1 ≤ σ.2.2.1 := ⟨hn1, hn2⟩
  have hl : lv_has ls 3 [(0, .ref v0), (1, .int v1), (2, .int v2)] := hl
  have hx := X.1
  have hb : c.code = cX1_hasRule := X.2.1
  have hown : s.vm.findClass RX1 = some m.cls := X.2.2.2.2.2.1
  have hts := X.2.2.2.2.2.2.1
  refine W.eq (g2 := F0 m 0 ls []) rfl ?_
  unfold T_X1_hasRule_0 at hf
  refine lv_iload_n hx hb dX1_hasRule_0 rfl (lv_at hl 1 rfl) ?_
  rcases s_ite hf with ⟨c1, hf⟩ | ⟨c1, hf⟩
  · refine lv_if_lt (tgt := 26) hx hb dX1_hasRule_1 (by decide) (fun _ => ?_) (fun n => absurd c1 n)
    cases hf
    have k : _ = r := k
    subst k
    refine lv_iconst (v := 0) hx hb dX1_hasRule_26 (by decide) ?_
    exact r_iret X I rfl rfl rfl hn dX1_hasRule_27
  · refine lv_if_lt (tgt := 26) hx hb dX1_hasRule_1 (by decide) (fun n => absurd n c1) (fun _ => ?_)
    refine lv_iload_n hx hb dX1_hasRule_4 rfl (lv_at hl 1 rfl) ?_
    refine lv_iconst (v := 3) hx hb dX1_hasRule_5 (by decide) ?_
    rcases s_ite hf with ⟨c2, hf⟩ | ⟨c2, hf⟩
    · refine lv_icmp_ge (tgt := 26) hx hb dX1_hasRule_6 (by decide) (fun _ => ?_) (fun n => absurd c2 n)
      cases hf
      have k : _ = r := k
      subst k
      refine lv_iconst (v := 0) hx hb dX1_hasRule_26 (by decide) ?_
      exact r_iret X I rfl rfl rfl hn dX1_hasRule_27
    · refine lv_icmp_ge (tgt := 26) hx hb dX1_hasRule_6 (by decide) (fun n => absurd n c2) (fun _ => ?_)
      obtain ⟨x1, h3, hf⟩ := s_bind hf
      obtain ⟨x2, h4, hf⟩ := s_bind hf
      refine lv_aload_n hx hb dX1_hasRule_9 rfl (lv_at hl 0 rfl) ?_
      refine r_gr X I fl_X1_19 h3 dX1_hasRule_10 ?_
      refine lv_iload_n hx hb dX1_hasRule_13 rfl (lv_at hl 1 rfl) ?_
      refine r_iald X I h4 dX1_hasRule_14 ?_
      refine lv_iload_n hx hb dX1_hasRule_15 rfl (lv_at hl 2 rfl) ?_
      refine lv_ishr hx hb dX1_hasRule_16 ?_
      refine lv_iconst (v := 1) hx hb dX1_hasRule_17 (by decide) ?_
      refine lv_iand hx hb dX1_hasRule_18 ?_
      rcases s_ite hf with ⟨c5, hf⟩ | ⟨c5, hf⟩
      · refine lv_if_eq (tgt := 26) hx hb dX1_hasRule_19 (by decide) (fun _ => ?_) (fun n => absurd c5 n)
        cases hf
        have k : _ = r := k
        subst k
        refine lv_iconst (v := 0) hx hb dX1_hasRule_26 (by decide) ?_
        exact r_iret X I rfl rfl rfl hn dX1_hasRule_27
      · refine lv_if_eq (tgt := 26) hx hb dX1_hasRule_19 (by decide) (fun n => absurd n c5) (fun _ => ?_)
        cases hf
        have k : _ = r := k
        subst k
        refine lv_iconst (v := 1) hx hb dX1_hasRule_22 (by decide) ?_
        refine lv_goto (tgt := 27) hx hb dX1_hasRule_23 (by decide) ?_
        exact r_iret X I rfl rfl rfl hn dX1_hasRule_27
theorem v_X1_hasRule {G : sG} {d : Nat} {vs0 : List Value} {σ0 : sS} {x : sL} {z : sZ Int32} {r : Int32 × sS} (hs : S_X1_hasRule x = some z) (k : s_K G (d + 1) M_X1_hasRule vs0 σ0 Y_X1_hasRule e_I z r) : s_V G (d + 1) M_X1_hasRule vs0 σ0 Y_X1_hasRule x (e_I r) := by
  obtain ⟨pc, vs, σ⟩ := x
  unfold S_X1_hasRule at hs
  dsimp only at hs
  rcases s_ite hs with ⟨c, hs⟩ | ⟨-, hs⟩
  · subst c
    unfold U_X1_hasRule_0 at hs
    obtain ⟨a0, g0, hs⟩ := s_bind hs
    obtain ⟨a1, g1, hs⟩ := s_bind hs
    obtain ⟨a2, g2, hs⟩ := s_bind hs
    obtain ⟨u9, ge, hs⟩ := s_bind hs
    rw [g_r_to g0, g_i_to g1, g_i_to g2, g_e_to ge]
    exact v_X1_hasRule_0 hs k
  cases hs
theorem t_X1_hasRule {G : sG} {d : Nat} {v0 : Nat} {v1 : Int32} {v2 : Int32} {σ : sS} {q : Int32 × sS} (h : F_X1_hasRule v0 v1 v2 σ = some q) : s_T G (d + 1) M_X1_hasRule [.ref v0, .int v1, .int v2] σ (e_I q) := by
  unfold F_X1_hasRule at h
  obtain ⟨-, -, h⟩ := s_bind h
  exact s_ofV rfl (by decide) (Nat.le_of_ble_eq_true rfl) rfl rfl (s_run_ind (V := fun x r => s_V G (d + 1) M_X1_hasRule [.ref v0, .int v1, .int v2] σ Y_X1_hasRule x (e_I r)) (fun x z r hs hk => v_X1_hasRule hs (by cases z <;> exact hk)) h)
/-! X1_priceOf -/
noncomputable def T_X1_priceOf_0 (v0 : Nat) (v1 : Int32) (v2 : Int32) (σ : sS) : Option (sZ Int32) :=
  if v1 < 0 then (some (.inl (23, [.ref v0, .int v1, .int v2], σ)))
  else (if (3 : Int32) ≤ v1 then (some (.inl (23, [.ref v0, .int v1, .int v2], σ)))
  else (if v2 < 0 then (some (.inl (23, [.ref v0, .int v1, .int v2], σ)))
  else (if (17 : Int32) ≤ v2 then (some (.inl (23, [.ref v0, .int v1, .int v2], σ)))
  else (some (.inl (24, [.ref v0, .int v1, .int v2, .int 1], σ))))))
noncomputable def U_X1_priceOf_0 (vs : List Value) (σ : sS) : Option (sZ Int32) := (g_r vs).bind fun a0 => (g_i a0.2).bind fun a1 => (g_i a1.2).bind fun a2 => (g_e a2.2).bind fun _ => T_X1_priceOf_0 a0.1 a1.1 a2.1 σ
noncomputable def T_X1_priceOf_23 (v0 : Nat) (v1 : Int32) (v2 : Int32) (σ : sS) : Option (sZ Int32) :=
  some (.inl (24, [.ref v0, .int v1, .int v2, .int 0], σ))
noncomputable def U_X1_priceOf_23 (vs : List Value) (σ : sS) : Option (sZ Int32) := (g_r vs).bind fun a0 => (g_i a0.2).bind fun a1 => (g_i a1.2).bind fun a2 => (g_e a2.2).bind fun _ => T_X1_priceOf_23 a0.1 a1.1 a2.1 σ
noncomputable def T_X1_priceOf_24 (v0 : Nat) (v1 : Int32) (v2 : Int32) (w0 : Int32) (σ : sS) : Option (sZ Int32) :=
  if w0 = 0 then (some (.inr (0, σ)))
  else ((s_fr σ v0 1 12).bind fun x1 =>
  (s_ai σ x1 ((v1 * 17) + v2)).bind fun x2 =>
  some (.inr (x2, σ)))
noncomputable def U_X1_priceOf_24 (vs : List Value) (σ : sS) : Option (sZ Int32) := (g_r vs).bind fun a0 => (g_i a0.2).bind fun a1 => (g_i a1.2).bind fun a2 => (g_i a2.2).bind fun a3 => (g_e a3.2).bind fun _ => T_X1_priceOf_24 a0.1 a1.1 a2.1 a3.1 σ
noncomputable def S_X1_priceOf (x : sL) : Option (sZ Int32) := if x.1 = 0 then U_X1_priceOf_0 x.2.1 x.2.2 else if x.1 = 23 then U_X1_priceOf_23 x.2.1 x.2.2 else if x.1 = 24 then U_X1_priceOf_24 x.2.1 x.2.2 else none
def Y_X1_priceOf (pc : Nat) : List Nat := if pc = 0 then [0, 1, 2] else if pc = 23 then [0, 1, 2] else if pc = 24 then [0, 1, 2] else []
noncomputable def F_X1_priceOf (v0 : Nat) (v1 : Int32) (v2 : Int32) (σ : sS) : Option (Int32 × sS) := (s_is σ v0 1).bind fun _ => s_run S_X1_priceOf (0, [.ref v0, .int v1, .int v2], σ)
theorem l_X1_priceOf_0 {v0 : Nat} {v1 : Int32} {v2 : Int32} {σ : sS} {z : sZ Int32} (hf : T_X1_priceOf_0 v0 v1 v2 σ = some z) : s_lz σ z := by
  unfold T_X1_priceOf_0 at hf
  rcases s_ite hf with ⟨-, hf⟩ | ⟨-, hf⟩
  · cases hf
    exact s_le.rf
  · rcases s_ite hf with ⟨-, hf⟩ | ⟨-, hf⟩
    · cases hf
      exact s_le.rf
    · rcases s_ite hf with ⟨-, hf⟩ | ⟨-, hf⟩
      · cases hf
        exact s_le.rf
      · rcases s_ite hf with ⟨-, hf⟩ | ⟨-, hf⟩
        · cases hf
          exact s_le.rf
        · cases hf
          exact s_le.rf
theorem l_X1_priceOf_23 {v0 : Nat} {v1 : Int32} {v2 : Int32} {σ : sS} {z : sZ Int32} (hf : T_X1_priceOf_23 v0 v1 v2 σ = some z) : s_lz σ z := by
  unfold T_X1_priceOf_23 at hf
  cases hf
  exact s_le.rf
theorem l_X1_priceOf_24 {v0 : Nat} {v1 : Int32} {v2 : Int32} {w0 : Int32} {σ : sS} {z : sZ Int32} (hf : T_X1_priceOf_24 v0 v1 v2 w0 σ = some z) : s_lz σ z := by
  unfold T_X1_priceOf_24 at hf
  rcases s_ite hf with ⟨-, hf⟩ | ⟨-, hf⟩
  · cases hf
    exact s_le.rf
  · obtain ⟨x1, -, hf⟩ := s_bind hf
    obtain ⟨x2, -, hf⟩ := s_bind hf
    cases hf
    exact s_le.rf
theorem l_X1_priceOf_s {x : sL} {z : sZ Int32} (hs : S_X1_priceOf x = some z) : s_lz x.2.2 z := by
  obtain ⟨pc, vs, σ⟩ := x
  unfold S_X1_priceOf at hs
  dsimp only at hs ⊢
  rcases s_ite hs with ⟨c, hs⟩ | ⟨-, hs⟩
  · subst c
    unfold U_X1_priceOf_0 at hs
    obtain ⟨a0, g0, hs⟩ := s_bind hs
    obtain ⟨a1, g1, hs⟩ := s_bind hs
    obtain ⟨a2, g2, hs⟩ := s_bind hs
    obtain ⟨u9, ge, hs⟩ := s_bind hs
    exact l_X1_priceOf_0 hs
  rcases s_ite hs with ⟨c, hs⟩ | ⟨-, hs⟩
  · subst c
    unfold U_X1_priceOf_23 at hs
    obtain ⟨a0, g0, hs⟩ := s_bind hs
    obtain ⟨a1, g1, hs⟩ := s_bind hs
    obtain ⟨a2, g2, hs⟩ := s_bind hs
    obtain ⟨u9, ge, hs⟩ := s_bind hs
    exact l_X1_priceOf_23 hs
  rcases s_ite hs with ⟨c, hs⟩ | ⟨-, hs⟩
  · subst c
    unfold U_X1_priceOf_24 at hs
    obtain ⟨a0, g0, hs⟩ := s_bind hs
    obtain ⟨a1, g1, hs⟩ := s_bind hs
    obtain ⟨a2, g2, hs⟩ := s_bind hs
    obtain ⟨a3, g3, hs⟩ := s_bind hs
    obtain ⟨u9, ge, hs⟩ := s_bind hs
    exact l_X1_priceOf_24 hs
  cases hs
theorem l_X1_priceOf {v0 : Nat} {v1 : Int32} {v2 : Int32} {σ : sS} {q : Int32 × sS} (h : F_X1_priceOf v0 v1 v2 σ = some q) : s_le σ q.2 := by
  unfold F_X1_priceOf at h
  obtain ⟨-, -, h⟩ := s_bind h
  exact s_run_ind (V := fun x r => s_le x.2.2 r.2) (fun x z r hs hk => by
    have h9 := l_X1_priceOf_s hs
    cases z with
    | inl y => exact s_le.tr h9 hk
    | inr q => cases hk; exact h9) h
theorem b_X1_priceOf {v0 : Nat} {v1 : Int32} {v2 : Int32} {σ : sS} {q : Int32 × sS} (h : F_X1_priceOf v0 v1 v2 σ = some q) : ∃ fs, σ.1 v0 = some (.inr (1, fs)) := by
  unfold F_X1_priceOf at h
  obtain ⟨u, hu, -⟩ := s_bind h
  exact s_is_to hu
set_option maxRecDepth 100000 in
set_option maxHeartbeats 4000000 in
theorem v_X1_priceOf_0 {G : sG} {d : Nat} {vs0 : List Value} {σ0 : sS} {v0 : Nat} {v1 : Int32} {v2 : Int32} {σ : sS} {z : sZ Int32} {r : Int32 × sS} (hf : T_X1_priceOf_0 v0 v1 v2 σ = some z) (k : s_K G (d + 1) M_X1_priceOf vs0 σ0 Y_X1_priceOf e_I z r) : s_V G (d + 1) M_X1_priceOf vs0 σ0 Y_X1_priceOf (0, [.ref v0, .int v1, .int v2], σ) (e_I r) := by
  have le0 : s_le σ (e_I r).2 := s_lek hem_I (l_X1_priceOf_0 hf) k
  refine ⟨le0, ?_⟩
  intro p e s m below meth c H locs cells slots ls X I hn1 hn2 hl
  have hn : cells + σ0.2.1 ≤ σ.2.1 ∧ slots + σ0.2.2.1 ≤ σ.2.2.1 := ⟨hn1, hn2⟩
  have hl : lv_has ls 4 [(0, .ref v0), (1, .int v1), (2, .int v2)] := hl
  have hx := X.1
  have hb : c.code = cX1_priceOf := X.2.1
  have hown : s.vm.findClass RX1 = some m.cls := X.2.2.2.2.2.1
  have hts := X.2.2.2.2.2.2.1
  refine W.eq (g2 := F0 m 0 ls []) rfl ?_
  unfold T_X1_priceOf_0 at hf
  refine lv_iload_n hx hb dX1_priceOf_0 rfl (lv_at hl 1 rfl) ?_
  rcases s_ite hf with ⟨c1, hf⟩ | ⟨c1, hf⟩
  · refine lv_if_lt (tgt := 23) hx hb dX1_priceOf_1 (by decide) (fun _ => ?_) (fun n => absurd c1 n)
    cases hf
    have k : s_V G (d + 1) M_X1_priceOf vs0 σ0 Y_X1_priceOf (23, [.ref v0, .int v1, .int v2], σ) (e_I r) := k
    exact k.2 p e s m below meth c _ _ _ _ _ X I hn.1 hn.2 (lv_sub hl [0, 1, 2] rfl)
  · refine lv_if_lt (tgt := 23) hx hb dX1_priceOf_1 (by decide) (fun n => absurd n c1) (fun _ => ?_)
    refine lv_iload_n hx hb dX1_priceOf_4 rfl (lv_at hl 1 rfl) ?_
    refine lv_iconst (v := 3) hx hb dX1_priceOf_5 (by decide) ?_
    rcases s_ite hf with ⟨c2, hf⟩ | ⟨c2, hf⟩
    · refine lv_icmp_ge (tgt := 23) hx hb dX1_priceOf_6 (by decide) (fun _ => ?_) (fun n => absurd c2 n)
      cases hf
      have k : s_V G (d + 1) M_X1_priceOf vs0 σ0 Y_X1_priceOf (23, [.ref v0, .int v1, .int v2], σ) (e_I r) := k
      exact k.2 p e s m below meth c _ _ _ _ _ X I hn.1 hn.2 (lv_sub hl [0, 1, 2] rfl)
    · refine lv_icmp_ge (tgt := 23) hx hb dX1_priceOf_6 (by decide) (fun n => absurd n c2) (fun _ => ?_)
      refine lv_iload_n hx hb dX1_priceOf_9 rfl (lv_at hl 2 rfl) ?_
      rcases s_ite hf with ⟨c3, hf⟩ | ⟨c3, hf⟩
      · refine lv_if_lt (tgt := 23) hx hb dX1_priceOf_10 (by decide) (fun _ => ?_) (fun n => absurd c3 n)
        cases hf
        have k : s_V G (d + 1) M_X1_priceOf vs0 σ0 Y_X1_priceOf (23, [.ref v0, .int v1, .int v2], σ) (e_I r) := k
        exact k.2 p e s m below meth c _ _ _ _ _ X I hn.1 hn.2 (lv_sub hl [0, 1, 2] rfl)
      · refine lv_if_lt (tgt := 23) hx hb dX1_priceOf_10 (by decide) (fun n => absurd n c3) (fun _ => ?_)
        refine lv_iload_n hx hb dX1_priceOf_13 rfl (lv_at hl 2 rfl) ?_
        refine lv_bipush (v := 17) hx hb dX1_priceOf_14 (by decide) ?_
        rcases s_ite hf with ⟨c4, hf⟩ | ⟨c4, hf⟩
        · refine lv_icmp_ge (tgt := 23) hx hb dX1_priceOf_16 (by decide) (fun _ => ?_) (fun n => absurd c4 n)
          cases hf
          have k : s_V G (d + 1) M_X1_priceOf vs0 σ0 Y_X1_priceOf (23, [.ref v0, .int v1, .int v2], σ) (e_I r) := k
          exact k.2 p e s m below meth c _ _ _ _ _ X I hn.1 hn.2 (lv_sub hl [0, 1, 2] rfl)
        · refine lv_icmp_ge (tgt := 23) hx hb dX1_priceOf_16 (by decide) (fun n => absurd n c4) (fun _ => ?_)
          cases hf
          have k : s_V G (d + 1) M_X1_priceOf vs0 σ0 Y_X1_priceOf (24, [.ref v0, .int v1, .int v2, .int 1], σ) (e_I r) := k
          refine lv_iconst (v := 1) hx hb dX1_priceOf_19 (by decide) ?_
          refine lv_goto (tgt := 24) hx hb dX1_priceOf_20 (by decide) ?_
          exact k.2 p e s m below meth c _ _ _ _ _ X I hn.1 hn.2 (lv_sub hl [0, 1, 2] rfl)
set_option maxRecDepth 100000 in
set_option maxHeartbeats 4000000 in
theorem v_X1_priceOf_23 {G : sG} {d : Nat} {vs0 : List Value} {σ0 : sS} {v0 : Nat} {v1 : Int32} {v2 : Int32} {σ : sS} {z : sZ Int32} {r : Int32 × sS} (hf : T_X1_priceOf_23 v0 v1 v2 σ = some z) (k : s_K G (d + 1) M_X1_priceOf vs0 σ0 Y_X1_priceOf e_I z r) : s_V G (d + 1) M_X1_priceOf vs0 σ0 Y_X1_priceOf (23, [.ref v0, .int v1, .int v2], σ) (e_I r) := by
  have le0 : s_le σ (e_I r).2 := s_lek hem_I (l_X1_priceOf_23 hf) k
  refine ⟨le0, ?_⟩
  intro p e s m below meth c H locs cells slots ls X I hn1 hn2 hl
  have hn : cells + σ0.2.1 ≤ σ.2.1 ∧ slots + σ0.2.2.1 ≤ σ.2.2.1 := ⟨hn1, hn2⟩
  have hl : lv_has ls 4 [(0, .ref v0), (1, .int v1), (2, .int v2)] := hl
  have hx := X.1
  have hb : c.code = cX1_priceOf := X.2.1
  have hown : s.vm.findClass RX1 = some m.cls := X.2.2.2.2.2.1
  have hts := X.2.2.2.2.2.2.1
  refine W.eq (g2 := F0 m 23 ls []) rfl ?_
  unfold T_X1_priceOf_23 at hf
  cases hf
  have k : s_V G (d + 1) M_X1_priceOf vs0 σ0 Y_X1_priceOf (24, [.ref v0, .int v1, .int v2, .int 0], σ) (e_I r) := k
  refine lv_iconst (v := 0) hx hb dX1_priceOf_23 (by decide) ?_
  exact k.2 p e s m below meth c _ _ _ _ _ X I hn.1 hn.2 (lv_sub hl [0, 1, 2] rfl)
set_option maxRecDepth 100000 in
set_option maxHeartbeats 4000000 in
theorem v_X1_priceOf_24 {G : sG} {d : Nat} {vs0 : List Value} {σ0 : sS} {v0 : Nat} {v1 : Int32} {v2 : Int32} {w0 : Int32} {σ : sS} {z : sZ Int32} {r : Int32 × sS} (hf : T_X1_priceOf_24 v0 v1 v2 w0 σ = some z) (k : s_K G (d + 1) M_X1_priceOf vs0 σ0 Y_X1_priceOf e_I z r) : s_V G (d + 1) M_X1_priceOf vs0 σ0 Y_X1_priceOf (24, [.ref v0, .int v1, .int v2, .int w0], σ) (e_I r) := by
  have le0 : s_le σ (e_I r).2 := s_lek hem_I (l_X1_priceOf_24 hf) k
  refine ⟨le0, ?_⟩
  intro p e s m below meth c H locs cells slots ls X I hn1 hn2 hl
  have hn : cells + σ0.2.1 ≤ σ.2.1 ∧ slots + σ0.2.2.1 ≤ σ.2.2.1 := ⟨hn1, hn2⟩
  have hl : lv_has ls 4 [(0, .ref v0), (1, .int v1), (2, .int v2)] := hl
  have hx := X.1
  have hb : c.code = cX1_priceOf := X.2.1
  have hown : s.vm.findClass RX1 = some m.cls := X.2.2.2.2.2.1
  have hts := X.2.2.2.2.2.2.1
  refine W.eq (g2 := F0 m 24 ls [.int w0]) rfl ?_
  unfold T_X1_priceOf_24 at hf
  refine lv_istore_n (lv' := [(3, .int w0), (0, .ref v0), (1, .int v1), (2, .int v2)]) hx hb dX1_priceOf_24 rfl hl (by decide) rfl (fun ls hl => ?_)
  refine lv_iload_n hx hb dX1_priceOf_25 rfl (lv_at hl 0 rfl) ?_
  rcases s_ite hf with ⟨c1, hf⟩ | ⟨c1, hf⟩
  · refine lv_if_eq (tgt := 43) hx hb dX1_priceOf_26 (by decide) (fun _ => ?_) (fun n => absurd c1 n)
    cases hf
    have k : _ = r := k
    subst k
    refine lv_iconst (v := 0) hx hb dX1_priceOf_43 (by decide) ?_
    exact r_iret X I rfl rfl rfl hn dX1_priceOf_44
  · refine lv_if_eq (tgt := 43) hx hb dX1_priceOf_26 (by decide) (fun n => absurd n c1) (fun _ => ?_)
    obtain ⟨x1, h2, hf⟩ := s_bind hf
    obtain ⟨x2, h3, hf⟩ := s_bind hf
    cases hf
    have k : _ = r := k
    subst k
    refine lv_aload_n hx hb dX1_priceOf_29 rfl (lv_at hl 1 rfl) ?_
    refine r_gr X I fl_X1_35 h2 dX1_priceOf_30 ?_
    refine lv_iload_n hx hb dX1_priceOf_33 rfl (lv_at hl 2 rfl) ?_
    refine lv_bipush (v := 17) hx hb dX1_priceOf_34 (by decide) ?_
    refine lv_imul hx hb dX1_priceOf_36 ?_
    refine lv_iload_n hx hb dX1_priceOf_37 rfl (lv_at hl 3 rfl) ?_
    refine lv_iadd hx hb dX1_priceOf_38 ?_
    refine r_iald X I h3 dX1_priceOf_39 ?_
    refine lv_goto (tgt := 44) hx hb dX1_priceOf_40 (by decide) ?_
    exact r_iret X I rfl rfl rfl hn dX1_priceOf_44
theorem v_X1_priceOf {G : sG} {d : Nat} {vs0 : List Value} {σ0 : sS} {x : sL} {z : sZ Int32} {r : Int32 × sS} (hs : S_X1_priceOf x = some z) (k : s_K G (d + 1) M_X1_priceOf vs0 σ0 Y_X1_priceOf e_I z r) : s_V G (d + 1) M_X1_priceOf vs0 σ0 Y_X1_priceOf x (e_I r) := by
  obtain ⟨pc, vs, σ⟩ := x
  unfold S_X1_priceOf at hs
  dsimp only at hs
  rcases s_ite hs with ⟨c, hs⟩ | ⟨-, hs⟩
  · subst c
    unfold U_X1_priceOf_0 at hs
    obtain ⟨a0, g0, hs⟩ := s_bind hs
    obtain ⟨a1, g1, hs⟩ := s_bind hs
    obtain ⟨a2, g2, hs⟩ := s_bind hs
    obtain ⟨u9, ge, hs⟩ := s_bind hs
    rw [g_r_to g0, g_i_to g1, g_i_to g2, g_e_to ge]
    exact v_X1_priceOf_0 hs k
  rcases s_ite hs with ⟨c, hs⟩ | ⟨-, hs⟩
  · subst c
    unfold U_X1_priceOf_23 at hs
    obtain ⟨a0, g0, hs⟩ := s_bind hs
    obtain ⟨a1, g1, hs⟩ := s_bind hs
    obtain ⟨a2, g2, hs⟩ := s_bind hs
    obtain ⟨u9, ge, hs⟩ := s_bind hs
    rw [g_r_to g0, g_i_to g1, g_i_to g2, g_e_to ge]
    exact v_X1_priceOf_23 hs k
  rcases s_ite hs with ⟨c, hs⟩ | ⟨-, hs⟩
  · subst c
    unfold U_X1_priceOf_24 at hs
    obtain ⟨a0, g0, hs⟩ := s_bind hs
    obtain ⟨a1, g1, hs⟩ := s_bind hs
    obtain ⟨a2, g2, hs⟩ := s_bind hs
    obtain ⟨a3, g3, hs⟩ := s_bind hs
    obtain ⟨u9, ge, hs⟩ := s_bind hs
    rw [g_r_to g0, g_i_to g1, g_i_to g2, g_i_to g3, g_e_to ge]
    exact v_X1_priceOf_24 hs k
  cases hs
theorem t_X1_priceOf {G : sG} {d : Nat} {v0 : Nat} {v1 : Int32} {v2 : Int32} {σ : sS} {q : Int32 × sS} (h : F_X1_priceOf v0 v1 v2 σ = some q) : s_T G (d + 1) M_X1_priceOf [.ref v0, .int v1, .int v2] σ (e_I q) := by
  unfold F_X1_priceOf at h
  obtain ⟨-, -, h⟩ := s_bind h
  exact s_ofV rfl (by decide) (Nat.le_of_ble_eq_true rfl) rfl rfl (s_run_ind (V := fun x r => s_V G (d + 1) M_X1_priceOf [.ref v0, .int v1, .int v2] σ Y_X1_priceOf x (e_I r)) (fun x z r hs hk => v_X1_priceOf hs (by cases z <;> exact hk)) h)
/-! X1_isAmong -/
noncomputable def T_X1_isAmong_0 (v0 : Nat) (v1 : Int32) (v2 : Int32) (σ : sS) : Option (sZ Int32) :=
  some (.inl (2, [.ref v0, .int v1, .int v2, .int 0], σ))
noncomputable def U_X1_isAmong_0 (vs : List Value) (σ : sS) : Option (sZ Int32) := (g_r vs).bind fun a0 => (g_i a0.2).bind fun a1 => (g_i a1.2).bind fun a2 => (g_e a2.2).bind fun _ => T_X1_isAmong_0 a0.1 a1.1 a2.1 σ
noncomputable def T_X1_isAmong_2 (v0 : Nat) (v1 : Int32) (v2 : Int32) (v3 : Int32) (σ : sS) : Option (sZ Int32) :=
  (s_fi σ v0 1 2).bind fun x1 =>
  if x1 ≤ v3 then (some (.inr (0, σ)))
  else (if ((v1 >>> (v3 &&& 31)) &&& 1) = 0 then (some (.inl (30, [.ref v0, .int v1, .int v2, .int v3], σ)))
  else ((s_fr σ v0 1 11).bind fun x2 =>
  (s_ai σ x2 v3).bind fun x3 =>
  if x3 = v2 then (some (.inr (1, σ)))
  else (some (.inl (30, [.ref v0, .int v1, .int v2, .int v3], σ)))))
noncomputable def U_X1_isAmong_2 (vs : List Value) (σ : sS) : Option (sZ Int32) := (g_r vs).bind fun a0 => (g_i a0.2).bind fun a1 => (g_i a1.2).bind fun a2 => (g_i a2.2).bind fun a3 => (g_e a3.2).bind fun _ => T_X1_isAmong_2 a0.1 a1.1 a2.1 a3.1 σ
noncomputable def T_X1_isAmong_30 (v0 : Nat) (v1 : Int32) (v2 : Int32) (v3 : Int32) (σ : sS) : Option (sZ Int32) :=
  some (.inl (2, [.ref v0, .int v1, .int v2, .int (v3 + 1)], σ))
noncomputable def U_X1_isAmong_30 (vs : List Value) (σ : sS) : Option (sZ Int32) := (g_r vs).bind fun a0 => (g_i a0.2).bind fun a1 => (g_i a1.2).bind fun a2 => (g_i a2.2).bind fun a3 => (g_e a3.2).bind fun _ => T_X1_isAmong_30 a0.1 a1.1 a2.1 a3.1 σ
noncomputable def S_X1_isAmong (x : sL) : Option (sZ Int32) := if x.1 = 0 then U_X1_isAmong_0 x.2.1 x.2.2 else if x.1 = 2 then U_X1_isAmong_2 x.2.1 x.2.2 else if x.1 = 30 then U_X1_isAmong_30 x.2.1 x.2.2 else none
def Y_X1_isAmong (pc : Nat) : List Nat := if pc = 0 then [0, 1, 2] else if pc = 2 then [0, 1, 2, 3] else if pc = 30 then [0, 1, 2, 3] else []
noncomputable def F_X1_isAmong (v0 : Nat) (v1 : Int32) (v2 : Int32) (σ : sS) : Option (Int32 × sS) := (s_is σ v0 1).bind fun _ => s_run S_X1_isAmong (0, [.ref v0, .int v1, .int v2], σ)
theorem l_X1_isAmong_0 {v0 : Nat} {v1 : Int32} {v2 : Int32} {σ : sS} {z : sZ Int32} (hf : T_X1_isAmong_0 v0 v1 v2 σ = some z) : s_lz σ z := by
  unfold T_X1_isAmong_0 at hf
  cases hf
  exact s_le.rf
theorem l_X1_isAmong_2 {v0 : Nat} {v1 : Int32} {v2 : Int32} {v3 : Int32} {σ : sS} {z : sZ Int32} (hf : T_X1_isAmong_2 v0 v1 v2 v3 σ = some z) : s_lz σ z := by
  unfold T_X1_isAmong_2 at hf
  obtain ⟨x1, -, hf⟩ := s_bind hf
  rcases s_ite hf with ⟨-, hf⟩ | ⟨-, hf⟩
  · cases hf
    exact s_le.rf
  · rcases s_ite hf with ⟨-, hf⟩ | ⟨-, hf⟩
    · cases hf
      exact s_le.rf
    · obtain ⟨x2, -, hf⟩ := s_bind hf
      obtain ⟨x3, -, hf⟩ := s_bind hf
      rcases s_ite hf with ⟨-, hf⟩ | ⟨-, hf⟩
      · cases hf
        exact s_le.rf
      · cases hf
        exact s_le.rf
theorem l_X1_isAmong_30 {v0 : Nat} {v1 : Int32} {v2 : Int32} {v3 : Int32} {σ : sS} {z : sZ Int32} (hf : T_X1_isAmong_30 v0 v1 v2 v3 σ = some z) : s_lz σ z := by
  unfold T_X1_isAmong_30 at hf
  cases hf
  exact s_le.rf
theorem l_X1_isAmong_s {x : sL} {z : sZ Int32} (hs : S_X1_isAmong x = some z) : s_lz x.2.2 z := by
  obtain ⟨pc, vs, σ⟩ := x
  unfold S_X1_isAmong at hs
  dsimp only at hs ⊢
  rcases s_ite hs with ⟨c, hs⟩ | ⟨-, hs⟩
  · subst c
    unfold U_X1_isAmong_0 at hs
    obtain ⟨a0, g0, hs⟩ := s_bind hs
    obtain ⟨a1, g1, hs⟩ := s_bind hs
    obtain ⟨a2, g2, hs⟩ := s_bind hs
    obtain ⟨u9, ge, hs⟩ := s_bind hs
    exact l_X1_isAmong_0 hs
  rcases s_ite hs with ⟨c, hs⟩ | ⟨-, hs⟩
  · subst c
    unfold U_X1_isAmong_2 at hs
    obtain ⟨a0, g0, hs⟩ := s_bind hs
    obtain ⟨a1, g1, hs⟩ := s_bind hs
    obtain ⟨a2, g2, hs⟩ := s_bind hs
    obtain ⟨a3, g3, hs⟩ := s_bind hs
    obtain ⟨u9, ge, hs⟩ := s_bind hs
    exact l_X1_isAmong_2 hs
  rcases s_ite hs with ⟨c, hs⟩ | ⟨-, hs⟩
  · subst c
    unfold U_X1_isAmong_30 at hs
    obtain ⟨a0, g0, hs⟩ := s_bind hs
    obtain ⟨a1, g1, hs⟩ := s_bind hs
    obtain ⟨a2, g2, hs⟩ := s_bind hs
    obtain ⟨a3, g3, hs⟩ := s_bind hs
    obtain ⟨u9, ge, hs⟩ := s_bind hs
    exact l_X1_isAmong_30 hs
  cases hs
theorem l_X1_isAmong {v0 : Nat} {v1 : Int32} {v2 : Int32} {σ : sS} {q : Int32 × sS} (h : F_X1_isAmong v0 v1 v2 σ = some q) : s_le σ q.2 := by
  unfold F_X1_isAmong at h
  obtain ⟨-, -, h⟩ := s_bind h
  exact s_run_ind (V := fun x r => s_le x.2.2 r.2) (fun x z r hs hk => by
    have h9 := l_X1_isAmong_s hs
    cases z with
    | inl y => exact s_le.tr h9 hk
    | inr q => cases hk; exact h9) h
theorem b_X1_isAmong {v0 : Nat} {v1 : Int32} {v2 : Int32} {σ : sS} {q : Int32 × sS} (h : F_X1_isAmong v0 v1 v2 σ = some q) : ∃ fs, σ.1 v0 = some (.inr (1, fs)) := by
  unfold F_X1_isAmong at h
  obtain ⟨u, hu, -⟩ := s_bind h
  exact s_is_to hu
set_option maxRecDepth 100000 in
set_option maxHeartbeats 4000000 in
theorem v_X1_isAmong_0 {G : sG} {d : Nat} {vs0 : List Value} {σ0 : sS} {v0 : Nat} {v1 : Int32} {v2 : Int32} {σ : sS} {z : sZ Int32} {r : Int32 × sS} (hf : T_X1_isAmong_0 v0 v1 v2 σ = some z) (k : s_K G (d + 1) M_X1_isAmong vs0 σ0 Y_X1_isAmong e_I z r) : s_V G (d + 1) M_X1_isAmong vs0 σ0 Y_X1_isAmong (0, [.ref v0, .int v1, .int v2], σ) (e_I r) := by
  have le0 : s_le σ (e_I r).2 := s_lek hem_I (l_X1_isAmong_0 hf) k
  refine ⟨le0, ?_⟩
  intro p e s m below meth c H locs cells slots ls X I hn1 hn2 hl
  have hn : cells + σ0.2.1 ≤ σ.2.1 ∧ slots + σ0.2.2.1 ≤ σ.2.2.1 := ⟨hn1, hn2⟩
  have hl : lv_has ls 4 [(0, .ref v0), (1, .int v1), (2, .int v2)] := hl
  have hx := X.1
  have hb : c.code = cX1_isAmong := X.2.1
  have hown : s.vm.findClass RX1 = some m.cls := X.2.2.2.2.2.1
  have hts := X.2.2.2.2.2.2.1
  refine W.eq (g2 := F0 m 0 ls []) rfl ?_
  unfold T_X1_isAmong_0 at hf
  cases hf
  have k : s_V G (d + 1) M_X1_isAmong vs0 σ0 Y_X1_isAmong (2, [.ref v0, .int v1, .int v2, .int 0], σ) (e_I r) := k
  refine lv_iconst (v := 0) hx hb dX1_isAmong_0 (by decide) ?_
  refine lv_istore_n (lv' := [(3, .int 0), (0, .ref v0), (1, .int v1), (2, .int v2)]) hx hb dX1_isAmong_1 rfl hl (by decide) rfl (fun ls hl => ?_)
  exact k.2 p e s m below meth c _ _ _ _ _ X I hn.1 hn.2 (lv_sub hl [1, 2, 3, 0] rfl)
set_option maxRecDepth 100000 in
set_option maxHeartbeats 4000000 in
theorem v_X1_isAmong_2 {G : sG} {d : Nat} {vs0 : List Value} {σ0 : sS} {v0 : Nat} {v1 : Int32} {v2 : Int32} {v3 : Int32} {σ : sS} {z : sZ Int32} {r : Int32 × sS} (hf : T_X1_isAmong_2 v0 v1 v2 v3 σ = some z) (k : s_K G (d + 1) M_X1_isAmong vs0 σ0 Y_X1_isAmong e_I z r) : s_V G (d + 1) M_X1_isAmong vs0 σ0 Y_X1_isAmong (2, [.ref v0, .int v1, .int v2, .int v3], σ) (e_I r) := by
  have le0 : s_le σ (e_I r).2 := s_lek hem_I (l_X1_isAmong_2 hf) k
  refine ⟨le0, ?_⟩
  intro p e s m below meth c H locs cells slots ls X I hn1 hn2 hl
  have hn : cells + σ0.2.1 ≤ σ.2.1 ∧ slots + σ0.2.2.1 ≤ σ.2.2.1 := ⟨hn1, hn2⟩
  have hl : lv_has ls 4 [(0, .ref v0), (1, .int v1), (2, .int v2), (3, .int v3)] := hl
  have hx := X.1
  have hb : c.code = cX1_isAmong := X.2.1
  have hown : s.vm.findClass RX1 = some m.cls := X.2.2.2.2.2.1
  have hts := X.2.2.2.2.2.2.1
  refine W.eq (g2 := F0 m 2 ls []) rfl ?_
  unfold T_X1_isAmong_2 at hf
  obtain ⟨x1, h1, hf⟩ := s_bind hf
  refine lv_iload_n hx hb dX1_isAmong_2 rfl (lv_at hl 3 rfl) ?_
  refine lv_aload_n hx hb dX1_isAmong_3 rfl (lv_at hl 0 rfl) ?_
  refine r_gi X I fl_X1_48 h1 dX1_isAmong_4 ?_
  rcases s_ite hf with ⟨c2, hf⟩ | ⟨c2, hf⟩
  · refine lv_icmp_ge (tgt := 36) hx hb dX1_isAmong_7 (by decide) (fun _ => ?_) (fun n => absurd c2 n)
    cases hf
    have k : _ = r := k
    subst k
    refine lv_iconst (v := 0) hx hb dX1_isAmong_36 (by decide) ?_
    exact r_iret X I rfl rfl rfl hn dX1_isAmong_37
  · refine lv_icmp_ge (tgt := 36) hx hb dX1_isAmong_7 (by decide) (fun n => absurd n c2) (fun _ => ?_)
    refine lv_iload_n hx hb dX1_isAmong_10 rfl (lv_at hl 1 rfl) ?_
    refine lv_iload_n hx hb dX1_isAmong_11 rfl (lv_at hl 3 rfl) ?_
    refine lv_ishr hx hb dX1_isAmong_12 ?_
    refine lv_iconst (v := 1) hx hb dX1_isAmong_13 (by decide) ?_
    refine lv_iand hx hb dX1_isAmong_14 ?_
    rcases s_ite hf with ⟨c3, hf⟩ | ⟨c3, hf⟩
    · refine lv_if_eq (tgt := 30) hx hb dX1_isAmong_15 (by decide) (fun _ => ?_) (fun n => absurd c3 n)
      cases hf
      have k : s_V G (d + 1) M_X1_isAmong vs0 σ0 Y_X1_isAmong (30, [.ref v0, .int v1, .int v2, .int v3], σ) (e_I r) := k
      exact k.2 p e s m below meth c _ _ _ _ _ X I hn.1 hn.2 (lv_sub hl [0, 1, 2, 3] rfl)
    · refine lv_if_eq (tgt := 30) hx hb dX1_isAmong_15 (by decide) (fun n => absurd n c3) (fun _ => ?_)
      obtain ⟨x2, h4, hf⟩ := s_bind hf
      obtain ⟨x3, h5, hf⟩ := s_bind hf
      refine lv_aload_n hx hb dX1_isAmong_18 rfl (lv_at hl 0 rfl) ?_
      refine r_gr X I fl_X1_32 h4 dX1_isAmong_19 ?_
      refine lv_iload_n hx hb dX1_isAmong_22 rfl (lv_at hl 3 rfl) ?_
      refine r_iald X I h5 dX1_isAmong_23 ?_
      refine lv_iload_n hx hb dX1_isAmong_24 rfl (lv_at hl 2 rfl) ?_
      rcases s_ite hf with ⟨c6, hf⟩ | ⟨c6, hf⟩
      · refine lv_icmp_ne (tgt := 30) hx hb dX1_isAmong_25 (by decide) (fun n => absurd c6 n) (fun _ => ?_)
        cases hf
        have k : _ = r := k
        subst k
        refine lv_iconst (v := 1) hx hb dX1_isAmong_28 (by decide) ?_
        exact r_iret X I rfl rfl rfl hn dX1_isAmong_29
      · refine lv_icmp_ne (tgt := 30) hx hb dX1_isAmong_25 (by decide) (fun _ => ?_) (fun n => absurd n c6)
        cases hf
        have k : s_V G (d + 1) M_X1_isAmong vs0 σ0 Y_X1_isAmong (30, [.ref v0, .int v1, .int v2, .int v3], σ) (e_I r) := k
        exact k.2 p e s m below meth c _ _ _ _ _ X I hn.1 hn.2 (lv_sub hl [0, 1, 2, 3] rfl)
set_option maxRecDepth 100000 in
set_option maxHeartbeats 4000000 in
theorem v_X1_isAmong_30 {G : sG} {d : Nat} {vs0 : List Value} {σ0 : sS} {v0 : Nat} {v1 : Int32} {v2 : Int32} {v3 : Int32} {σ : sS} {z : sZ Int32} {r : Int32 × sS} (hf : T_X1_isAmong_30 v0 v1 v2 v3 σ = some z) (k : s_K G (d + 1) M_X1_isAmong vs0 σ0 Y_X1_isAmong e_I z r) : s_V G (d + 1) M_X1_isAmong vs0 σ0 Y_X1_isAmong (30, [.ref v0, .int v1, .int v2, .int v3], σ) (e_I r) := by
  have le0 : s_le σ (e_I r).2 := s_lek hem_I (l_X1_isAmong_30 hf) k
  refine ⟨le0, ?_⟩
  intro p e s m below meth c H locs cells slots ls X I hn1 hn2 hl
  have hn : cells + σ0.2.1 ≤ σ.2.1 ∧ slots + σ0.2.2.1 ≤ σ.2.2.1 := ⟨hn1, hn2⟩
  have hl : lv_has ls 4 [(0, .ref v0), (1, .int v1), (2, .int v2), (3, .int v3)] := hl
  have hx := X.1
  have hb : c.code = cX1_isAmong := X.2.1
  have hown : s.vm.findClass RX1 = some m.cls := X.2.2.2.2.2.1
  have hts := X.2.2.2.2.2.2.1
  refine W.eq (g2 := F0 m 30 ls []) rfl ?_
  unfold T_X1_isAmong_30 at hf
  cases hf
  have k : s_V G (d + 1) M_X1_isAmong vs0 σ0 Y_X1_isAmong (2, [.ref v0, .int v1, .int v2, .int (v3 + 1)], σ) (e_I r) := k
  refine lv_iinc (v := (v3 + 1)) (lv' := [(3, .int (v3 + 1)), (0, .ref v0), (1, .int v1), (2, .int v2)]) hx hb dX1_isAmong_30 hl (k := 3) rfl rfl (by decide) rfl (fun ls hl => ?_)
  refine lv_goto (tgt := 2) hx hb dX1_isAmong_33 (by decide) ?_
  exact k.2 p e s m below meth c _ _ _ _ _ X I hn.1 hn.2 (lv_sub hl [1, 2, 3, 0] rfl)
theorem v_X1_isAmong {G : sG} {d : Nat} {vs0 : List Value} {σ0 : sS} {x : sL} {z : sZ Int32} {r : Int32 × sS} (hs : S_X1_isAmong x = some z) (k : s_K G (d + 1) M_X1_isAmong vs0 σ0 Y_X1_isAmong e_I z r) : s_V G (d + 1) M_X1_isAmong vs0 σ0 Y_X1_isAmong x (e_I r) := by
  obtain ⟨pc, vs, σ⟩ := x
  unfold S_X1_isAmong at hs
  dsimp only at hs
  rcases s_ite hs with ⟨c, hs⟩ | ⟨-, hs⟩
  · subst c
    unfold U_X1_isAmong_0 at hs
    obtain ⟨a0, g0, hs⟩ := s_bind hs
    obtain ⟨a1, g1, hs⟩ := s_bind hs
    obtain ⟨a2, g2, hs⟩ := s_bind hs
    obtain ⟨u9, ge, hs⟩ := s_bind hs
    rw [g_r_to g0, g_i_to g1, g_i_to g2, g_e_to ge]
    exact v_X1_isAmong_0 hs k
  rcases s_ite hs with ⟨c, hs⟩ | ⟨-, hs⟩
  · subst c
    unfold U_X1_isAmong_2 at hs
    obtain ⟨a0, g0, hs⟩ := s_bind hs
    obtain ⟨a1, g1, hs⟩ := s_bind hs
    obtain ⟨a2, g2, hs⟩ := s_bind hs
    obtain ⟨a3, g3, hs⟩ := s_bind hs
    obtain ⟨u9, ge, hs⟩ := s_bind hs
    rw [g_r_to g0, g_i_to g1, g_i_to g2, g_i_to g3, g_e_to ge]
    exact v_X1_isAmong_2 hs k
  rcases s_ite hs with ⟨c, hs⟩ | ⟨-, hs⟩
  · subst c
    unfold U_X1_isAmong_30 at hs
    obtain ⟨a0, g0, hs⟩ := s_bind hs
    obtain ⟨a1, g1, hs⟩ := s_bind hs
    obtain ⟨a2, g2, hs⟩ := s_bind hs
    obtain ⟨a3, g3, hs⟩ := s_bind hs
    obtain ⟨u9, ge, hs⟩ := s_bind hs
    rw [g_r_to g0, g_i_to g1, g_i_to g2, g_i_to g3, g_e_to ge]
    exact v_X1_isAmong_30 hs k
  cases hs
theorem t_X1_isAmong {G : sG} {d : Nat} {v0 : Nat} {v1 : Int32} {v2 : Int32} {σ : sS} {q : Int32 × sS} (h : F_X1_isAmong v0 v1 v2 σ = some q) : s_T G (d + 1) M_X1_isAmong [.ref v0, .int v1, .int v2] σ (e_I q) := by
  unfold F_X1_isAmong at h
  obtain ⟨-, -, h⟩ := s_bind h
  exact s_ofV rfl (by decide) (Nat.le_of_ble_eq_true rfl) rfl rfl (s_run_ind (V := fun x r => s_V G (d + 1) M_X1_isAmong [.ref v0, .int v1, .int v2] σ Y_X1_isAmong x (e_I r)) (fun x z r hs hk => v_X1_isAmong hs (by cases z <;> exact hk)) h)
/-! X4_lineCost -/
noncomputable def T_X4_lineCost_0 (v0 : Nat) (v1 : Int32) (v2 : Int32) (σ : sS) : Option (sZ Int32) :=
  if v1 < 0 then (some (.inl (26, [.ref v0, .int v1, .int v2], σ)))
  else (if (16 : Int32) ≤ v1 then (some (.inl (26, [.ref v0, .int v1, .int v2], σ)))
  else (if v2 < 0 then (some (.inl (26, [.ref v0, .int v1, .int v2], σ)))
  else ((s_fi σ v0 4 8).bind fun x1 =>
  if x1 ≤ v2 then (some (.inl (26, [.ref v0, .int v1, .int v2], σ)))
  else (some (.inl (27, [.ref v0, .int v1, .int v2, .int 1], σ))))))
noncomputable def U_X4_lineCost_0 (vs : List Value) (σ : sS) : Option (sZ Int32) := (g_r vs).bind fun a0 => (g_i a0.2).bind fun a1 => (g_i a1.2).bind fun a2 => (g_e a2.2).bind fun _ => T_X4_lineCost_0 a0.1 a1.1 a2.1 σ
noncomputable def T_X4_lineCost_26 (v0 : Nat) (v1 : Int32) (v2 : Int32) (σ : sS) : Option (sZ Int32) :=
  some (.inl (27, [.ref v0, .int v1, .int v2, .int 0], σ))
noncomputable def U_X4_lineCost_26 (vs : List Value) (σ : sS) : Option (sZ Int32) := (g_r vs).bind fun a0 => (g_i a0.2).bind fun a1 => (g_i a1.2).bind fun a2 => (g_e a2.2).bind fun _ => T_X4_lineCost_26 a0.1 a1.1 a2.1 σ
noncomputable def T_X4_lineCost_27 (v0 : Nat) (v1 : Int32) (v2 : Int32) (w0 : Int32) (σ : sS) : Option (sZ Int32) :=
  if w0 = 0 then (some (.inl (43, [], σ)))
  else ((s_fr σ v0 4 4).bind fun x1 =>
  (s_ai σ x1 v1).bind fun x2 =>
  if x2 = 268435456 then (some (.inl (43, [], σ)))
  else ((s_fr σ v0 4 4).bind fun x3 =>
  (s_ai σ x3 v1).bind fun x4 =>
  (s_fr σ v0 4 3).bind fun x5 =>
  (s_ai σ x5 v2).bind fun x6 =>
  (s_fi σ v0 4 12).bind fun x7 =>
  some (.inr ((x4 + (x6 * x7)), σ))))
noncomputable def U_X4_lineCost_27 (vs : List Value) (σ : sS) : Option (sZ Int32) := (g_r vs).bind fun a0 => (g_i a0.2).bind fun a1 => (g_i a1.2).bind fun a2 => (g_i a2.2).bind fun a3 => (g_e a3.2).bind fun _ => T_X4_lineCost_27 a0.1 a1.1 a2.1 a3.1 σ
noncomputable def T_X4_lineCost_43  (σ : sS) : Option (sZ Int32) :=
  some (.inr (268435456, σ))
noncomputable def U_X4_lineCost_43 (vs : List Value) (σ : sS) : Option (sZ Int32) := (g_e vs).bind fun _ => T_X4_lineCost_43  σ
noncomputable def S_X4_lineCost (x : sL) : Option (sZ Int32) := if x.1 = 0 then U_X4_lineCost_0 x.2.1 x.2.2 else if x.1 = 26 then U_X4_lineCost_26 x.2.1 x.2.2 else if x.1 = 27 then U_X4_lineCost_27 x.2.1 x.2.2 else if x.1 = 43 then U_X4_lineCost_43 x.2.1 x.2.2 else none
def Y_X4_lineCost (pc : Nat) : List Nat := if pc = 0 then [0, 1, 2] else if pc = 26 then [0, 1, 2] else if pc = 27 then [0, 1, 2] else if pc = 43 then [] else []
noncomputable def F_X4_lineCost (v0 : Nat) (v1 : Int32) (v2 : Int32) (σ : sS) : Option (Int32 × sS) := (s_is σ v0 4).bind fun _ => s_run S_X4_lineCost (0, [.ref v0, .int v1, .int v2], σ)
theorem l_X4_lineCost_0 {v0 : Nat} {v1 : Int32} {v2 : Int32} {σ : sS} {z : sZ Int32} (hf : T_X4_lineCost_0 v0 v1 v2 σ = some z) : s_lz σ z := by
  unfold T_X4_lineCost_0 at hf
  rcases s_ite hf with ⟨-, hf⟩ | ⟨-, hf⟩
  · cases hf
    exact s_le.rf
  · rcases s_ite hf with ⟨-, hf⟩ | ⟨-, hf⟩
    · cases hf
      exact s_le.rf
    · rcases s_ite hf with ⟨-, hf⟩ | ⟨-, hf⟩
      · cases hf
        exact s_le.rf
      · obtain ⟨x1, -, hf⟩ := s_bind hf
        rcases s_ite hf with ⟨-, hf⟩ | ⟨-, hf⟩
        · cases hf
          exact s_le.rf
        · cases hf
          exact s_le.rf
theorem l_X4_lineCost_26 {v0 : Nat} {v1 : Int32} {v2 : Int32} {σ : sS} {z : sZ Int32} (hf : T_X4_lineCost_26 v0 v1 v2 σ = some z) : s_lz σ z := by
  unfold T_X4_lineCost_26 at hf
  cases hf
  exact s_le.rf
theorem l_X4_lineCost_27 {v0 : Nat} {v1 : Int32} {v2 : Int32} {w0 : Int32} {σ : sS} {z : sZ Int32} (hf : T_X4_lineCost_27 v0 v1 v2 w0 σ = some z) : s_lz σ z := by
  unfold T_X4_lineCost_27 at hf
  rcases s_ite hf with ⟨-, hf⟩ | ⟨-, hf⟩
  · cases hf
    exact s_le.rf
  · obtain ⟨x1, -, hf⟩ := s_bind hf
    obtain ⟨x2, -, hf⟩ := s_bind hf
    rcases s_ite hf with ⟨-, hf⟩ | ⟨-, hf⟩
    · cases hf
      exact s_le.rf
    · obtain ⟨x3, -, hf⟩ := s_bind hf
      obtain ⟨x4, -, hf⟩ := s_bind hf
      obtain ⟨x5, -, hf⟩ := s_bind hf
      obtain ⟨x6, -, hf⟩ := s_bind hf
      obtain ⟨x7, -, hf⟩ := s_bind hf
      cases hf
      exact s_le.rf
theorem l_X4_lineCost_43  {σ : sS} {z : sZ Int32} (hf : T_X4_lineCost_43  σ = some z) : s_lz σ z := by
  unfold T_X4_lineCost_43 at hf
  cases hf
  exact s_le.rf
theorem l_X4_lineCost_s {x : sL} {z : sZ Int32} (hs : S_X4_lineCost x = some z) : s_lz x.2.2 z := by
  obtain ⟨pc, vs, σ⟩ := x
  unfold S_X4_lineCost at hs
  dsimp only at hs ⊢
  rcases s_ite hs with ⟨c, hs⟩ | ⟨-, hs⟩
  · subst c
    unfold U_X4_lineCost_0 at hs
    obtain ⟨a0, g0, hs⟩ := s_bind hs
    obtain ⟨a1, g1, hs⟩ := s_bind hs
    obtain ⟨a2, g2, hs⟩ := s_bind hs
    obtain ⟨u9, ge, hs⟩ := s_bind hs
    exact l_X4_lineCost_0 hs
  rcases s_ite hs with ⟨c, hs⟩ | ⟨-, hs⟩
  · subst c
    unfold U_X4_lineCost_26 at hs
    obtain ⟨a0, g0, hs⟩ := s_bind hs
    obtain ⟨a1, g1, hs⟩ := s_bind hs
    obtain ⟨a2, g2, hs⟩ := s_bind hs
    obtain ⟨u9, ge, hs⟩ := s_bind hs
    exact l_X4_lineCost_26 hs
  rcases s_ite hs with ⟨c, hs⟩ | ⟨-, hs⟩
  · subst c
    unfold U_X4_lineCost_27 at hs
    obtain ⟨a0, g0, hs⟩ := s_bind hs
    obtain ⟨a1, g1, hs⟩ := s_bind hs
    obtain ⟨a2, g2, hs⟩ := s_bind hs
    obtain ⟨a3, g3, hs⟩ := s_bind hs
    obtain ⟨u9, ge, hs⟩ := s_bind hs
    exact l_X4_lineCost_27 hs
  rcases s_ite hs with ⟨c, hs⟩ | ⟨-, hs⟩
  · subst c
    unfold U_X4_lineCost_43 at hs
    obtain ⟨u9, ge, hs⟩ := s_bind hs
    exact l_X4_lineCost_43 hs
  cases hs
theorem l_X4_lineCost {v0 : Nat} {v1 : Int32} {v2 : Int32} {σ : sS} {q : Int32 × sS} (h : F_X4_lineCost v0 v1 v2 σ = some q) : s_le σ q.2 := by
  unfold F_X4_lineCost at h
  obtain ⟨-, -, h⟩ := s_bind h
  exact s_run_ind (V := fun x r => s_le x.2.2 r.2) (fun x z r hs hk => by
    have h9 := l_X4_lineCost_s hs
    cases z with
    | inl y => exact s_le.tr h9 hk
    | inr q => cases hk; exact h9) h
theorem b_X4_lineCost {v0 : Nat} {v1 : Int32} {v2 : Int32} {σ : sS} {q : Int32 × sS} (h : F_X4_lineCost v0 v1 v2 σ = some q) : ∃ fs, σ.1 v0 = some (.inr (4, fs)) := by
  unfold F_X4_lineCost at h
  obtain ⟨u, hu, -⟩ := s_bind h
  exact s_is_to hu
set_option maxRecDepth 100000 in
set_option maxHeartbeats 4000000 in
theorem v_X4_lineCost_0 {G : sG} {d : Nat} {vs0 : List Value} {σ0 : sS} {v0 : Nat} {v1 : Int32} {v2 : Int32} {σ : sS} {z : sZ Int32} {r : Int32 × sS} (hf : T_X4_lineCost_0 v0 v1 v2 σ = some z) (k : s_K G (d + 1) M_X4_lineCost vs0 σ0 Y_X4_lineCost e_I z r) : s_V G (d + 1) M_X4_lineCost vs0 σ0 Y_X4_lineCost (0, [.ref v0, .int v1, .int v2], σ) (e_I r) := by
  have le0 : s_le σ (e_I r).2 := s_lek hem_I (l_X4_lineCost_0 hf) k
  refine ⟨le0, ?_⟩
  intro p e s m below meth c H locs cells slots ls X I hn1 hn2 hl
  have hn : cells + σ0.2.1 ≤ σ.2.1 ∧ slots + σ0.2.2.1 ≤ σ.2.2.1 := ⟨hn1, hn2⟩
  have hl : lv_has ls 4 [(0, .ref v0), (1, .int v1), (2, .int v2)] := hl
  have hx := X.1
  have hb : c.code = cX4_lineCost := X.2.1
  have hown : s.vm.findClass RX4 = some m.cls := X.2.2.2.2.2.1
  have hts := X.2.2.2.2.2.2.1
  refine W.eq (g2 := F0 m 0 ls []) rfl ?_
  unfold T_X4_lineCost_0 at hf
  refine lv_iload_n hx hb dX4_lineCost_0 rfl (lv_at hl 1 rfl) ?_
  rcases s_ite hf with ⟨c1, hf⟩ | ⟨c1, hf⟩
  · refine lv_if_lt (tgt := 26) hx hb dX4_lineCost_1 (by decide) (fun _ => ?_) (fun n => absurd c1 n)
    cases hf
    have k : s_V G (d + 1) M_X4_lineCost vs0 σ0 Y_X4_lineCost (26, [.ref v0, .int v1, .int v2], σ) (e_I r) := k
    exact k.2 p e s m below meth c _ _ _ _ _ X I hn.1 hn.2 (lv_sub hl [0, 1, 2] rfl)
  · refine lv_if_lt (tgt := 26) hx hb dX4_lineCost_1 (by decide) (fun n => absurd n c1) (fun _ => ?_)
    refine lv_iload_n hx hb dX4_lineCost_4 rfl (lv_at hl 1 rfl) ?_
    refine lv_bipush (v := 16) hx hb dX4_lineCost_5 (by decide) ?_
    rcases s_ite hf with ⟨c2, hf⟩ | ⟨c2, hf⟩
    · refine lv_icmp_ge (tgt := 26) hx hb dX4_lineCost_7 (by decide) (fun _ => ?_) (fun n => absurd c2 n)
      cases hf
      have k : s_V G (d + 1) M_X4_lineCost vs0 σ0 Y_X4_lineCost (26, [.ref v0, .int v1, .int v2], σ) (e_I r) := k
      exact k.2 p e s m below meth c _ _ _ _ _ X I hn.1 hn.2 (lv_sub hl [0, 1, 2] rfl)
    · refine lv_icmp_ge (tgt := 26) hx hb dX4_lineCost_7 (by decide) (fun n => absurd n c2) (fun _ => ?_)
      refine lv_iload_n hx hb dX4_lineCost_10 rfl (lv_at hl 2 rfl) ?_
      rcases s_ite hf with ⟨c3, hf⟩ | ⟨c3, hf⟩
      · refine lv_if_lt (tgt := 26) hx hb dX4_lineCost_11 (by decide) (fun _ => ?_) (fun n => absurd c3 n)
        cases hf
        have k : s_V G (d + 1) M_X4_lineCost vs0 σ0 Y_X4_lineCost (26, [.ref v0, .int v1, .int v2], σ) (e_I r) := k
        exact k.2 p e s m below meth c _ _ _ _ _ X I hn.1 hn.2 (lv_sub hl [0, 1, 2] rfl)
      · refine lv_if_lt (tgt := 26) hx hb dX4_lineCost_11 (by decide) (fun n => absurd n c3) (fun _ => ?_)
        obtain ⟨x1, h4, hf⟩ := s_bind hf
        refine lv_iload_n hx hb dX4_lineCost_14 rfl (lv_at hl 2 rfl) ?_
        refine lv_aload_n hx hb dX4_lineCost_15 rfl (lv_at hl 0 rfl) ?_
        refine r_gi X I fl_X4_48 h4 dX4_lineCost_16 ?_
        rcases s_ite hf with ⟨c5, hf⟩ | ⟨c5, hf⟩
        · refine lv_icmp_ge (tgt := 26) hx hb dX4_lineCost_19 (by decide) (fun _ => ?_) (fun n => absurd c5 n)
          cases hf
          have k : s_V G (d + 1) M_X4_lineCost vs0 σ0 Y_X4_lineCost (26, [.ref v0, .int v1, .int v2], σ) (e_I r) := k
          exact k.2 p e s m below meth c _ _ _ _ _ X I hn.1 hn.2 (lv_sub hl [0, 1, 2] rfl)
        · refine lv_icmp_ge (tgt := 26) hx hb dX4_lineCost_19 (by decide) (fun n => absurd n c5) (fun _ => ?_)
          cases hf
          have k : s_V G (d + 1) M_X4_lineCost vs0 σ0 Y_X4_lineCost (27, [.ref v0, .int v1, .int v2, .int 1], σ) (e_I r) := k
          refine lv_iconst (v := 1) hx hb dX4_lineCost_22 (by decide) ?_
          refine lv_goto (tgt := 27) hx hb dX4_lineCost_23 (by decide) ?_
          exact k.2 p e s m below meth c _ _ _ _ _ X I hn.1 hn.2 (lv_sub hl [0, 1, 2] rfl)
set_option maxRecDepth 100000 in
set_option maxHeartbeats 4000000 in
theorem v_X4_lineCost_26 {G : sG} {d : Nat} {vs0 : List Value} {σ0 : sS} {v0 : Nat} {v1 : Int32} {v2 : Int32} {σ : sS} {z : sZ Int32} {r : Int32 × sS} (hf : T_X4_lineCost_26 v0 v1 v2 σ = some z) (k : s_K G (d + 1) M_X4_lineCost vs0 σ0 Y_X4_lineCost e_I z r) : s_V G (d + 1) M_X4_lineCost vs0 σ0 Y_X4_lineCost (26, [.ref v0, .int v1, .int v2], σ) (e_I r) := by
  have le0 : s_le σ (e_I r).2 := s_lek hem_I (l_X4_lineCost_26 hf) k
  refine ⟨le0, ?_⟩
  intro p e s m below meth c H locs cells slots ls X I hn1 hn2 hl
  have hn : cells + σ0.2.1 ≤ σ.2.1 ∧ slots + σ0.2.2.1 ≤ σ.2.2.1 := ⟨hn1, hn2⟩
  have hl : lv_has ls 4 [(0, .ref v0), (1, .int v1), (2, .int v2)] := hl
  have hx := X.1
  have hb : c.code = cX4_lineCost := X.2.1
  have hown : s.vm.findClass RX4 = some m.cls := X.2.2.2.2.2.1
  have hts := X.2.2.2.2.2.2.1
  refine W.eq (g2 := F0 m 26 ls []) rfl ?_
  unfold T_X4_lineCost_26 at hf
  cases hf
  have k : s_V G (d + 1) M_X4_lineCost vs0 σ0 Y_X4_lineCost (27, [.ref v0, .int v1, .int v2, .int 0], σ) (e_I r) := k
  refine lv_iconst (v := 0) hx hb dX4_lineCost_26 (by decide) ?_
  exact k.2 p e s m below meth c _ _ _ _ _ X I hn.1 hn.2 (lv_sub hl [0, 1, 2] rfl)
set_option maxRecDepth 100000 in
set_option maxHeartbeats 4000000 in
theorem v_X4_lineCost_27 {G : sG} {d : Nat} {vs0 : List Value} {σ0 : sS} {v0 : Nat} {v1 : Int32} {v2 : Int32} {w0 : Int32} {σ : sS} {z : sZ Int32} {r : Int32 × sS} (hf : T_X4_lineCost_27 v0 v1 v2 w0 σ = some z) (k : s_K G (d + 1) M_X4_lineCost vs0 σ0 Y_X4_lineCost e_I z r) : s_V G (d + 1) M_X4_lineCost vs0 σ0 Y_X4_lineCost (27, [.ref v0, .int v1, .int v2, .int w0], σ) (e_I r) := by
  have le0 : s_le σ (e_I r).2 := s_lek hem_I (l_X4_lineCost_27 hf) k
  refine ⟨le0, ?_⟩
  intro p e s m below meth c H locs cells slots ls X I hn1 hn2 hl
  have hn : cells + σ0.2.1 ≤ σ.2.1 ∧ slots + σ0.2.2.1 ≤ σ.2.2.1 := ⟨hn1, hn2⟩
  have hl : lv_has ls 4 [(0, .ref v0), (1, .int v1), (2, .int v2)] := hl
  have hx := X.1
  have hb : c.code = cX4_lineCost := X.2.1
  have hown : s.vm.findClass RX4 = some m.cls := X.2.2.2.2.2.1
  have hts := X.2.2.2.2.2.2.1
  refine W.eq (g2 := F0 m 27 ls [.int w0]) rfl ?_
  unfold T_X4_lineCost_27 at hf
  refine lv_istore_n (lv' := [(3, .int w0), (0, .ref v0), (1, .int v1), (2, .int v2)]) hx hb dX4_lineCost_27 rfl hl (by decide) rfl (fun ls hl => ?_)
  refine lv_iload_n hx hb dX4_lineCost_28 rfl (lv_at hl 0 rfl) ?_
  rcases s_ite hf with ⟨c1, hf⟩ | ⟨c1, hf⟩
  · refine lv_if_eq (tgt := 43) hx hb dX4_lineCost_29 (by decide) (fun _ => ?_) (fun n => absurd c1 n)
    cases hf
    have k : s_V G (d + 1) M_X4_lineCost vs0 σ0 Y_X4_lineCost (43, [], σ) (e_I r) := k
    exact k.2 p e s m below meth c _ _ _ _ _ X I hn.1 hn.2 (lv_sub hl [] rfl)
  · refine lv_if_eq (tgt := 43) hx hb dX4_lineCost_29 (by decide) (fun n => absurd n c1) (fun _ => ?_)
    obtain ⟨x1, h2, hf⟩ := s_bind hf
    obtain ⟨x2, h3, hf⟩ := s_bind hf
    refine lv_aload_n hx hb dX4_lineCost_32 rfl (lv_at hl 1 rfl) ?_
    refine r_gr X I fl_X4_18 h2 dX4_lineCost_33 ?_
    refine lv_iload_n hx hb dX4_lineCost_36 rfl (lv_at hl 2 rfl) ?_
    refine r_iald X I h3 dX4_lineCost_37 ?_
    refine lv_ldc (own := RX4) hx hb hown (hts _ w_1349) dX4_lineCost_38 ?_
    rcases s_ite hf with ⟨c4, hf⟩ | ⟨c4, hf⟩
    · refine lv_icmp_ne (tgt := 46) hx hb dX4_lineCost_40 (by decide) (fun n => absurd c4 n) (fun _ => ?_)
      cases hf
      have k : s_V G (d + 1) M_X4_lineCost vs0 σ0 Y_X4_lineCost (43, [], σ) (e_I r) := k
      exact k.2 p e s m below meth c _ _ _ _ _ X I hn.1 hn.2 (lv_sub hl [] rfl)
    · refine lv_icmp_ne (tgt := 46) hx hb dX4_lineCost_40 (by decide) (fun _ => ?_) (fun n => absurd n c4)
      obtain ⟨x3, h5, hf⟩ := s_bind hf
      obtain ⟨x4, h6, hf⟩ := s_bind hf
      obtain ⟨x5, h7, hf⟩ := s_bind hf
      obtain ⟨x6, h8, hf⟩ := s_bind hf
      obtain ⟨x7, h9, hf⟩ := s_bind hf
      cases hf
      have k : _ = r := k
      subst k
      refine lv_aload_n hx hb dX4_lineCost_46 rfl (lv_at hl 1 rfl) ?_
      refine r_gr X I fl_X4_18 h5 dX4_lineCost_47 ?_
      refine lv_iload_n hx hb dX4_lineCost_50 rfl (lv_at hl 2 rfl) ?_
      refine r_iald X I h6 dX4_lineCost_51 ?_
      refine lv_aload_n hx hb dX4_lineCost_52 rfl (lv_at hl 1 rfl) ?_
      refine r_gr X I fl_X4_15 h7 dX4_lineCost_53 ?_
      refine lv_iload_n hx hb dX4_lineCost_56 rfl (lv_at hl 3 rfl) ?_
      refine r_iald X I h8 dX4_lineCost_57 ?_
      refine lv_aload_n hx hb dX4_lineCost_58 rfl (lv_at hl 1 rfl) ?_
      refine r_gi X I fl_X4_136 h9 dX4_lineCost_59 ?_
      refine lv_imul hx hb dX4_lineCost_62 ?_
      refine lv_iadd hx hb dX4_lineCost_63 ?_
      exact r_iret X I rfl rfl rfl hn dX4_lineCost_64
set_option maxRecDepth 100000 in
set_option maxHeartbeats 4000000 in
theorem v_X4_lineCost_43 {G : sG} {d : Nat} {vs0 : List Value} {σ0 : sS}  {σ : sS} {z : sZ Int32} {r : Int32 × sS} (hf : T_X4_lineCost_43  σ = some z) (k : s_K G (d + 1) M_X4_lineCost vs0 σ0 Y_X4_lineCost e_I z r) : s_V G (d + 1) M_X4_lineCost vs0 σ0 Y_X4_lineCost (43, [], σ) (e_I r) := by
  have le0 : s_le σ (e_I r).2 := s_lek hem_I (l_X4_lineCost_43 hf) k
  refine ⟨le0, ?_⟩
  intro p e s m below meth c H locs cells slots ls X I hn1 hn2 hl
  have hn : cells + σ0.2.1 ≤ σ.2.1 ∧ slots + σ0.2.2.1 ≤ σ.2.2.1 := ⟨hn1, hn2⟩
  have hl : lv_has ls 4 [] := hl
  have hx := X.1
  have hb : c.code = cX4_lineCost := X.2.1
  have hown : s.vm.findClass RX4 = some m.cls := X.2.2.2.2.2.1
  have hts := X.2.2.2.2.2.2.1
  refine W.eq (g2 := F0 m 43 ls []) rfl ?_
  unfold T_X4_lineCost_43 at hf
  cases hf
  have k : _ = r := k
  subst k
  refine lv_ldc (own := RX4) hx hb hown (hts _ w_1349) dX4_lineCost_43 ?_
  exact r_iret X I rfl rfl rfl hn dX4_lineCost_45
theorem v_X4_lineCost {G : sG} {d : Nat} {vs0 : List Value} {σ0 : sS} {x : sL} {z : sZ Int32} {r : Int32 × sS} (hs : S_X4_lineCost x = some z) (k : s_K G (d + 1) M_X4_lineCost vs0 σ0 Y_X4_lineCost e_I z r) : s_V G (d + 1) M_X4_lineCost vs0 σ0 Y_X4_lineCost x (e_I r) := by
  obtain ⟨pc, vs, σ⟩ := x
  unfold S_X4_lineCost at hs
  dsimp only at hs
  rcases s_ite hs with ⟨c, hs⟩ | ⟨-, hs⟩
  · subst c
    unfold U_X4_lineCost_0 at hs
    obtain ⟨a0, g0, hs⟩ := s_bind hs
    obtain ⟨a1, g1, hs⟩ := s_bind hs
    obtain ⟨a2, g2, hs⟩ := s_bind hs
    obtain ⟨u9, ge, hs⟩ := s_bind hs
    rw [g_r_to g0, g_i_to g1, g_i_to g2, g_e_to ge]
    exact v_X4_lineCost_0 hs k
  rcases s_ite hs with ⟨c, hs⟩ | ⟨-, hs⟩
  · subst c
    unfold U_X4_lineCost_26 at hs
    obtain ⟨a0, g0, hs⟩ := s_bind hs
    obtain ⟨a1, g1, hs⟩ := s_bind hs
    obtain ⟨a2, g2, hs⟩ := s_bind hs
    obtain ⟨u9, ge, hs⟩ := s_bind hs
    rw [g_r_to g0, g_i_to g1, g_i_to g2, g_e_to ge]
    exact v_X4_lineCost_26 hs k
  rcases s_ite hs with ⟨c, hs⟩ | ⟨-, hs⟩
  · subst c
    unfold U_X4_lineCost_27 at hs
    obtain ⟨a0, g0, hs⟩ := s_bind hs
    obtain ⟨a1, g1, hs⟩ := s_bind hs
    obtain ⟨a2, g2, hs⟩ := s_bind hs
    obtain ⟨a3, g3, hs⟩ := s_bind hs
    obtain ⟨u9, ge, hs⟩ := s_bind hs
    rw [g_r_to g0, g_i_to g1, g_i_to g2, g_i_to g3, g_e_to ge]
    exact v_X4_lineCost_27 hs k
  rcases s_ite hs with ⟨c, hs⟩ | ⟨-, hs⟩
  · subst c
    unfold U_X4_lineCost_43 at hs
    obtain ⟨u9, ge, hs⟩ := s_bind hs
    rw [g_e_to ge]
    exact v_X4_lineCost_43 hs k
  cases hs
theorem t_X4_lineCost {G : sG} {d : Nat} {v0 : Nat} {v1 : Int32} {v2 : Int32} {σ : sS} {q : Int32 × sS} (h : F_X4_lineCost v0 v1 v2 σ = some q) : s_T G (d + 1) M_X4_lineCost [.ref v0, .int v1, .int v2] σ (e_I q) := by
  unfold F_X4_lineCost at h
  obtain ⟨-, -, h⟩ := s_bind h
  exact s_ofV rfl (by decide) (Nat.le_of_ble_eq_true rfl) rfl rfl (s_run_ind (V := fun x r => s_V G (d + 1) M_X4_lineCost [.ref v0, .int v1, .int v2] σ Y_X4_lineCost x (e_I r)) (fun x z r hs hk => v_X4_lineCost hs (by cases z <;> exact hk)) h)
/-! X4_costAlone -/
noncomputable def T_X4_costAlone_0 (v0 : Nat) (v1 : Int32) (v2 : Int32) (σ : sS) : Option (sZ Int32) :=
  (s_fr σ v0 4 1).bind fun x1 =>
  (s_fi σ v0 4 11).bind fun x2 =>
  (s_fr σ v0 4 2).bind fun x3 =>
  (s_ai σ x3 v2).bind fun x4 =>
  (F_X1_isAmong x1 x2 x4 σ).bind fun q5 =>
  if q5.1 = 0 then (some (.inl (30, [.ref v0, .int v1, .int v2, .int 268435456], q5.2)))
  else ((F_X4_lineCost v0 0 v2 q5.2).bind fun q6 =>
  some (.inl (30, [.ref v0, .int v1, .int v2, .int q6.1], q6.2)))
noncomputable def U_X4_costAlone_0 (vs : List Value) (σ : sS) : Option (sZ Int32) := (g_r vs).bind fun a0 => (g_i a0.2).bind fun a1 => (g_i a1.2).bind fun a2 => (g_e a2.2).bind fun _ => T_X4_costAlone_0 a0.1 a1.1 a2.1 σ
noncomputable def T_X4_costAlone_30 (v0 : Nat) (v1 : Int32) (v2 : Int32) (v3 : Int32) (σ : sS) : Option (sZ Int32) :=
  (F_X4_slotOf v0 v2 σ).bind fun q1 =>
  if q1.1 = (-1) then (some (.inr (v3, q1.2)))
  else (if ((v1 >>> (q1.1 &&& 31)) &&& 1) = 0 then (some (.inr (v3, q1.2)))
  else ((F_X4_lineCost v0 1 v2 q1.2).bind fun q2 =>
  some (.inr ((if q2.1 < v3 then q2.1 else v3), q2.2))))
noncomputable def U_X4_costAlone_30 (vs : List Value) (σ : sS) : Option (sZ Int32) := (g_r vs).bind fun a0 => (g_i a0.2).bind fun a1 => (g_i a1.2).bind fun a2 => (g_i a2.2).bind fun a3 => (g_e a3.2).bind fun _ => T_X4_costAlone_30 a0.1 a1.1 a2.1 a3.1 σ
noncomputable def S_X4_costAlone (x : sL) : Option (sZ Int32) := if x.1 = 0 then U_X4_costAlone_0 x.2.1 x.2.2 else if x.1 = 30 then U_X4_costAlone_30 x.2.1 x.2.2 else none
def Y_X4_costAlone (pc : Nat) : List Nat := if pc = 0 then [0, 1, 2] else if pc = 30 then [0, 1, 2, 3] else []
noncomputable def F_X4_costAlone (v0 : Nat) (v1 : Int32) (v2 : Int32) (σ : sS) : Option (Int32 × sS) := (s_is σ v0 4).bind fun _ => s_run S_X4_costAlone (0, [.ref v0, .int v1, .int v2], σ)
theorem l_X4_costAlone_0 {v0 : Nat} {v1 : Int32} {v2 : Int32} {σ : sS} {z : sZ Int32} (hf : T_X4_costAlone_0 v0 v1 v2 σ = some z) : s_lz σ z := by
  unfold T_X4_costAlone_0 at hf
  obtain ⟨x1, -, hf⟩ := s_bind hf
  obtain ⟨x2, -, hf⟩ := s_bind hf
  obtain ⟨x3, -, hf⟩ := s_bind hf
  obtain ⟨x4, -, hf⟩ := s_bind hf
  obtain ⟨q5, hh, hf⟩ := s_bind hf
  refine s_lz.tr (l_X1_isAmong hh) ?_
  rcases s_ite hf with ⟨-, hf⟩ | ⟨-, hf⟩
  · cases hf
    exact s_le.rf
  · obtain ⟨q6, hh, hf⟩ := s_bind hf
    refine s_lz.tr (l_X4_lineCost hh) ?_
    cases hf
    exact s_le.rf
theorem l_X4_costAlone_30 {v0 : Nat} {v1 : Int32} {v2 : Int32} {v3 : Int32} {σ : sS} {z : sZ Int32} (hf : T_X4_costAlone_30 v0 v1 v2 v3 σ = some z) : s_lz σ z := by
  unfold T_X4_costAlone_30 at hf
  obtain ⟨q1, hh, hf⟩ := s_bind hf
  refine s_lz.tr (l_X4_slotOf hh) ?_
  rcases s_ite hf with ⟨-, hf⟩ | ⟨-, hf⟩
  · cases hf
    exact s_le.rf
  · rcases s_ite hf with ⟨-, hf⟩ | ⟨-, hf⟩
    · cases hf
      exact s_le.rf
    · obtain ⟨q2, hh, hf⟩ := s_bind hf
      refine s_lz.tr (l_X4_lineCost hh) ?_
      cases hf
      exact s_le.rf
theorem l_X4_costAlone_s {x : sL} {z : sZ Int32} (hs : S_X4_costAlone x = some z) : s_lz x.2.2 z := by
  obtain ⟨pc, vs, σ⟩ := x
  unfold S_X4_costAlone at hs
  dsimp only at hs ⊢
  rcases s_ite hs with ⟨c, hs⟩ | ⟨-, hs⟩
  · subst c
    unfold U_X4_costAlone_0 at hs
    obtain ⟨a0, g0, hs⟩ := s_bind hs
    obtain ⟨a1, g1, hs⟩ := s_bind hs
    obtain ⟨a2, g2, hs⟩ := s_bind hs
    obtain ⟨u9, ge, hs⟩ := s_bind hs
    exact l_X4_costAlone_0 hs
  rcases s_ite hs with ⟨c, hs⟩ | ⟨-, hs⟩
  · subst c
    unfold U_X4_costAlone_30 at hs
    obtain ⟨a0, g0, hs⟩ := s_bind hs
    obtain ⟨a1, g1, hs⟩ := s_bind hs
    obtain ⟨a2, g2, hs⟩ := s_bind hs
    obtain ⟨a3, g3, hs⟩ := s_bind hs
    obtain ⟨u9, ge, hs⟩ := s_bind hs
    exact l_X4_costAlone_30 hs
  cases hs
theorem l_X4_costAlone {v0 : Nat} {v1 : Int32} {v2 : Int32} {σ : sS} {q : Int32 × sS} (h : F_X4_costAlone v0 v1 v2 σ = some q) : s_le σ q.2 := by
  unfold F_X4_costAlone at h
  obtain ⟨-, -, h⟩ := s_bind h
  exact s_run_ind (V := fun x r => s_le x.2.2 r.2) (fun x z r hs hk => by
    have h9 := l_X4_costAlone_s hs
    cases z with
    | inl y => exact s_le.tr h9 hk
    | inr q => cases hk; exact h9) h
theorem b_X4_costAlone {v0 : Nat} {v1 : Int32} {v2 : Int32} {σ : sS} {q : Int32 × sS} (h : F_X4_costAlone v0 v1 v2 σ = some q) : ∃ fs, σ.1 v0 = some (.inr (4, fs)) := by
  unfold F_X4_costAlone at h
  obtain ⟨u, hu, -⟩ := s_bind h
  exact s_is_to hu
set_option maxRecDepth 100000 in
set_option maxHeartbeats 4000000 in
theorem v_X4_costAlone_0 {G : sG} {d : Nat} {vs0 : List Value} {σ0 : sS} {v0 : Nat} {v1 : Int32} {v2 : Int32} {σ : sS} {z : sZ Int32} {r : Int32 × sS} (hf : T_X4_costAlone_0 v0 v1 v2 σ = some z) (k : s_K G (d + 2) M_X4_costAlone vs0 σ0 Y_X4_costAlone e_I z r) : s_V G (d + 2) M_X4_costAlone vs0 σ0 Y_X4_costAlone (0, [.ref v0, .int v1, .int v2], σ) (e_I r) := by
  have le0 : s_le σ (e_I r).2 := s_lek hem_I (l_X4_costAlone_0 hf) k
  refine ⟨le0, ?_⟩
  intro p e s m below meth c H locs cells slots ls X I hn1 hn2 hl
  have hn : cells + σ0.2.1 ≤ σ.2.1 ∧ slots + σ0.2.2.1 ≤ σ.2.2.1 := ⟨hn1, hn2⟩
  have hl : lv_has ls 5 [(0, .ref v0), (1, .int v1), (2, .int v2)] := hl
  have hx := X.1
  have hb : c.code = cX4_costAlone := X.2.1
  have hown : s.vm.findClass RX4 = some m.cls := X.2.2.2.2.2.1
  have hts := X.2.2.2.2.2.2.1
  refine W.eq (g2 := F0 m 0 ls []) rfl ?_
  unfold T_X4_costAlone_0 at hf
  obtain ⟨x1, h1, hf⟩ := s_bind hf
  obtain ⟨x2, h2, hf⟩ := s_bind hf
  obtain ⟨x3, h3, hf⟩ := s_bind hf
  obtain ⟨x4, h4, hf⟩ := s_bind hf
  obtain ⟨q5, h5, hf⟩ := s_bind hf
  have le6 : s_le q5.2 (e_I r).2 := by
    refine s_lek hem_I ?_ k
    rcases s_ite hf with ⟨-, hf⟩ | ⟨-, hf⟩
    · cases hf
      exact s_le.rf
    · obtain ⟨q6, hh, hf⟩ := s_bind hf
      refine s_lz.tr (l_X4_lineCost hh) ?_
      cases hf
      exact s_le.rf
  refine lv_ldc (own := RX4) hx hb hown (hts _ w_1349) dX4_costAlone_0 ?_
  refine lv_istore_n (lv' := [(3, .int 268435456), (0, .ref v0), (1, .int v1), (2, .int v2)]) hx hb dX4_costAlone_2 rfl hl (by decide) rfl (fun ls hl => ?_)
  refine lv_aload_n hx hb dX4_costAlone_3 rfl (lv_at hl 1 rfl) ?_
  refine r_gr X I fl_X4_34 h1 dX4_costAlone_4 ?_
  refine lv_aload_n hx hb dX4_costAlone_7 rfl (lv_at hl 1 rfl) ?_
  refine r_gi X I fl_X4_44 h2 dX4_costAlone_8 ?_
  refine lv_aload_n hx hb dX4_costAlone_11 rfl (lv_at hl 1 rfl) ?_
  refine r_gr X I fl_X4_11 h3 dX4_costAlone_12 ?_
  refine lv_iload_n hx hb dX4_costAlone_15 rfl (lv_at hl 3 rfl) ?_
  refine r_iald X I h4 dX4_costAlone_16 ?_
  refine r_callV (Y := M_X1_isAmong) (v := some (.int q5.1)) X I w_1358 my_X1_isAmong (by omega) (t_X1_isAmong (G := G) (d := d + 0) h5) (b_X1_isAmong h5) rfl rfl hl.1 rfl (Nat.le_of_ble_eq_true rfl) hn le6 dX4_costAlone_17 (fun H locs cells slots I hn1 hn2 => ?_)
  have I : s_I G q5.2 s H locs := I
  have hn : cells + σ0.2.1 ≤ q5.2.2.1 ∧ slots + σ0.2.2.1 ≤ q5.2.2.2.1 := ⟨hn1, hn2⟩
  rcases s_ite hf with ⟨c7, hf⟩ | ⟨c7, hf⟩
  · refine lv_if_eq (tgt := 30) hx hb dX4_costAlone_20 (by decide) (fun _ => ?_) (fun n => absurd c7 n)
    cases hf
    have k : s_V G (d + 2) M_X4_costAlone vs0 σ0 Y_X4_costAlone (30, [.ref v0, .int v1, .int v2, .int 268435456], q5.2) (e_I r) := k
    exact k.2 p e s m below meth c _ _ _ _ _ X I hn.1 hn.2 (lv_sub hl [1, 2, 3, 0] rfl)
  · refine lv_if_eq (tgt := 30) hx hb dX4_costAlone_20 (by decide) (fun n => absurd n c7) (fun _ => ?_)
    obtain ⟨q6, h8, hf⟩ := s_bind hf
    cases hf
    have k : s_V G (d + 2) M_X4_costAlone vs0 σ0 Y_X4_costAlone (30, [.ref v0, .int v1, .int v2, .int q6.1], q6.2) (e_I r) := k
    have le9 : s_le q6.2 (e_I r).2 := k.1
    refine lv_aload_n hx hb dX4_costAlone_23 rfl (lv_at hl 1 rfl) ?_
    refine lv_iconst (v := 0) hx hb dX4_costAlone_24 (by decide) ?_
    refine lv_iload_n hx hb dX4_costAlone_25 rfl (lv_at hl 3 rfl) ?_
    refine r_callV (Y := M_X4_lineCost) (v := some (.int q6.1)) X I w_1359 my_X4_lineCost (by omega) (t_X4_lineCost (G := G) (d := d + 0) h8) (b_X4_lineCost h8) rfl rfl hl.1 rfl (Nat.le_of_ble_eq_true rfl) hn le9 dX4_costAlone_26 (fun H locs cells slots I hn1 hn2 => ?_)
    have I : s_I G q6.2 s H locs := I
    have hn : cells + σ0.2.1 ≤ q6.2.2.1 ∧ slots + σ0.2.2.1 ≤ q6.2.2.2.1 := ⟨hn1, hn2⟩
    refine lv_istore_n (lv' := [(3, .int q6.1), (0, .ref v0), (1, .int v1), (2, .int v2)]) hx hb dX4_costAlone_29 rfl hl (by decide) rfl (fun ls hl => ?_)
    exact k.2 p e s m below meth c _ _ _ _ _ X I hn.1 hn.2 (lv_sub hl [1, 2, 3, 0] rfl)
set_option maxRecDepth 100000 in
set_option maxHeartbeats 4000000 in
theorem v_X4_costAlone_30 {G : sG} {d : Nat} {vs0 : List Value} {σ0 : sS} {v0 : Nat} {v1 : Int32} {v2 : Int32} {v3 : Int32} {σ : sS} {z : sZ Int32} {r : Int32 × sS} (hf : T_X4_costAlone_30 v0 v1 v2 v3 σ = some z) (k : s_K G (d + 2) M_X4_costAlone vs0 σ0 Y_X4_costAlone e_I z r) : s_V G (d + 2) M_X4_costAlone vs0 σ0 Y_X4_costAlone (30, [.ref v0, .int v1, .int v2, .int v3], σ) (e_I r) := by
  have le0 : s_le σ (e_I r).2 := s_lek hem_I (l_X4_costAlone_30 hf) k
  refine ⟨le0, ?_⟩
  intro p e s m below meth c H locs cells slots ls X I hn1 hn2 hl
  have hn : cells + σ0.2.1 ≤ σ.2.1 ∧ slots + σ0.2.2.1 ≤ σ.2.2.1 := ⟨hn1, hn2⟩
  have hl : lv_has ls 5 [(0, .ref v0), (1, .int v1), (2, .int v2), (3, .int v3)] := hl
  have hx := X.1
  have hb : c.code = cX4_costAlone := X.2.1
  have hown : s.vm.findClass RX4 = some m.cls := X.2.2.2.2.2.1
  have hts := X.2.2.2.2.2.2.1
  refine W.eq (g2 := F0 m 30 ls []) rfl ?_
  unfold T_X4_costAlone_30 at hf
  obtain ⟨q1, h1, hf⟩ := s_bind hf
  have le2 : s_le q1.2 (e_I r).2 := by
    refine s_lek hem_I ?_ k
    rcases s_ite hf with ⟨-, hf⟩ | ⟨-, hf⟩
    · cases hf
      exact s_le.rf
    · rcases s_ite hf with ⟨-, hf⟩ | ⟨-, hf⟩
      · cases hf
        exact s_le.rf
      · obtain ⟨q2, hh, hf⟩ := s_bind hf
        refine s_lz.tr (l_X4_lineCost hh) ?_
        cases hf
        exact s_le.rf
  refine lv_aload_n hx hb dX4_costAlone_30 rfl (lv_at hl 0 rfl) ?_
  refine lv_iload_n hx hb dX4_costAlone_31 rfl (lv_at hl 2 rfl) ?_
  refine r_callV (Y := M_X4_slotOf) (v := some (.int q1.1)) X I w_1306 my_X4_slotOf (by omega) (t_X4_slotOf (G := G) (d := d + 0) h1) (b_X4_slotOf h1) rfl rfl hl.1 rfl (Nat.le_of_ble_eq_true rfl) hn le2 dX4_costAlone_32 (fun H locs cells slots I hn1 hn2 => ?_)
  have I : s_I G q1.2 s H locs := I
  have hn : cells + σ0.2.1 ≤ q1.2.2.1 ∧ slots + σ0.2.2.1 ≤ q1.2.2.2.1 := ⟨hn1, hn2⟩
  refine lv_istore (lv' := [(4, .int q1.1), (0, .ref v0), (1, .int v1), (2, .int v2), (3, .int v3)]) hx hb dX4_costAlone_35 hl (by decide) rfl (fun ls hl => ?_)
  refine lv_iload hx hb dX4_costAlone_37 (lv_at hl 0 rfl) ?_
  refine lv_iconst (v := (-1)) hx hb dX4_costAlone_39 (by decide) ?_
  rcases s_ite hf with ⟨c3, hf⟩ | ⟨c3, hf⟩
  · refine lv_icmp_eq (tgt := 63) hx hb dX4_costAlone_40 (by decide) (fun _ => ?_) (fun n => absurd c3 n)
    cases hf
    have k : _ = r := k
    subst k
    refine lv_iload_n hx hb dX4_costAlone_63 rfl (lv_at hl 4 rfl) ?_
    exact r_iret X I rfl rfl rfl hn dX4_costAlone_64
  · refine lv_icmp_eq (tgt := 63) hx hb dX4_costAlone_40 (by decide) (fun n => absurd n c3) (fun _ => ?_)
    refine lv_iload_n hx hb dX4_costAlone_43 rfl (lv_at hl 2 rfl) ?_
    refine lv_iload hx hb dX4_costAlone_44 (lv_at hl 0 rfl) ?_
    refine lv_ishr hx hb dX4_costAlone_46 ?_
    refine lv_iconst (v := 1) hx hb dX4_costAlone_47 (by decide) ?_
    refine lv_iand hx hb dX4_costAlone_48 ?_
    rcases s_ite hf with ⟨c4, hf⟩ | ⟨c4, hf⟩
    · refine lv_if_eq (tgt := 63) hx hb dX4_costAlone_49 (by decide) (fun _ => ?_) (fun n => absurd c4 n)
      cases hf
      have k : _ = r := k
      subst k
      refine lv_iload_n hx hb dX4_costAlone_63 rfl (lv_at hl 4 rfl) ?_
      exact r_iret X I rfl rfl rfl hn dX4_costAlone_64
    · refine lv_if_eq (tgt := 63) hx hb dX4_costAlone_49 (by decide) (fun n => absurd n c4) (fun _ => ?_)
      obtain ⟨q2, h5, hf⟩ := s_bind hf
      cases hf
      have k : _ = r := k
      subst k
      have le6 : s_le q2.2 q2.2 := s_le.rf
      refine lv_iload_n hx hb dX4_costAlone_52 rfl (lv_at hl 4 rfl) ?_
      refine lv_aload_n hx hb dX4_costAlone_53 rfl (lv_at hl 1 rfl) ?_
      refine lv_iconst (v := 1) hx hb dX4_costAlone_54 (by decide) ?_
      refine lv_iload_n hx hb dX4_costAlone_55 rfl (lv_at hl 3 rfl) ?_
      refine r_callV (Y := M_X4_lineCost) (v := some (.int q2.1)) X I w_1359 my_X4_lineCost (by omega) (t_X4_lineCost (G := G) (d := d + 0) h5) (b_X4_lineCost h5) rfl rfl hl.1 rfl (Nat.le_of_ble_eq_true rfl) hn le6 dX4_costAlone_56 (fun H locs cells slots I hn1 hn2 => ?_)
      have I : s_I G q2.2 s H locs := I
      have hn : cells + σ0.2.1 ≤ q2.2.2.1 ∧ slots + σ0.2.2.1 ≤ q2.2.2.2.1 := ⟨hn1, hn2⟩
      refine r_mmin X w_1363 w_765 w_179 w_766 hl.1 (Nat.le_of_ble_eq_true rfl) hn le6 dX4_costAlone_59 ?_
      refine lv_istore_n (lv' := [(3, .int (if q2.1 < v3 then q2.1 else v3)), (4, .int q1.1), (0, .ref v0), (1, .int v1), (2, .int v2)]) hx hb dX4_costAlone_62 rfl hl (by decide) rfl (fun ls hl => ?_)
      refine lv_iload_n hx hb dX4_costAlone_63 rfl (lv_at hl 0 rfl) ?_
      exact r_iret X I rfl rfl rfl hn dX4_costAlone_64
theorem v_X4_costAlone {G : sG} {d : Nat} {vs0 : List Value} {σ0 : sS} {x : sL} {z : sZ Int32} {r : Int32 × sS} (hs : S_X4_costAlone x = some z) (k : s_K G (d + 2) M_X4_costAlone vs0 σ0 Y_X4_costAlone e_I z r) : s_V G (d + 2) M_X4_costAlone vs0 σ0 Y_X4_costAlone x (e_I r) := by
  obtain ⟨pc, vs, σ⟩ := x
  unfold S_X4_costAlone at hs
  dsimp only at hs
  rcases s_ite hs with ⟨c, hs⟩ | ⟨-, hs⟩
  · subst c
    unfold U_X4_costAlone_0 at hs
    obtain ⟨a0, g0, hs⟩ := s_bind hs
    obtain ⟨a1, g1, hs⟩ := s_bind hs
    obtain ⟨a2, g2, hs⟩ := s_bind hs
    obtain ⟨u9, ge, hs⟩ := s_bind hs
    rw [g_r_to g0, g_i_to g1, g_i_to g2, g_e_to ge]
    exact v_X4_costAlone_0 hs k
  rcases s_ite hs with ⟨c, hs⟩ | ⟨-, hs⟩
  · subst c
    unfold U_X4_costAlone_30 at hs
    obtain ⟨a0, g0, hs⟩ := s_bind hs
    obtain ⟨a1, g1, hs⟩ := s_bind hs
    obtain ⟨a2, g2, hs⟩ := s_bind hs
    obtain ⟨a3, g3, hs⟩ := s_bind hs
    obtain ⟨u9, ge, hs⟩ := s_bind hs
    rw [g_r_to g0, g_i_to g1, g_i_to g2, g_i_to g3, g_e_to ge]
    exact v_X4_costAlone_30 hs k
  cases hs
theorem t_X4_costAlone {G : sG} {d : Nat} {v0 : Nat} {v1 : Int32} {v2 : Int32} {σ : sS} {q : Int32 × sS} (h : F_X4_costAlone v0 v1 v2 σ = some q) : s_T G (d + 2) M_X4_costAlone [.ref v0, .int v1, .int v2] σ (e_I q) := by
  unfold F_X4_costAlone at h
  obtain ⟨-, -, h⟩ := s_bind h
  exact s_ofV rfl (by decide) (Nat.le_of_ble_eq_true rfl) rfl rfl (s_run_ind (V := fun x r => s_V G (d + 2) M_X4_costAlone [.ref v0, .int v1, .int v2] σ Y_X4_costAlone x (e_I r)) (fun x z r hs hk => v_X4_costAlone hs (by cases z <;> exact hk)) h)
