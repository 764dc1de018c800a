/-! X8_is -/
noncomputable def T_X8_is_0 (v0 : Nat) (v1 : Int32) (v2 : Int32) (σ : sS) : Option (sZ Int32) :=
  (s_pf σ v0 8 0 (.int 0)).bind fun σ1 =>
  (F_X8_noLine v0 v1 σ1).bind fun q2 =>
  (F_X8_throwsIf v0 q2.1 1 q2.2).bind fun q3 =>
  if q3.1 = 0 then ((F_X8_in v2 0 4 q3.2).bind fun q4 =>
  if q4.1 = 0 then (some (.inl (33, [.ref v0, .int v1, .int v2, .int 1, .ref v0], q4.2)))
  else (some (.inl (33, [.ref v0, .int v1, .int v2, .int 0, .ref v0], q4.2))))
  else (some (.inr (0, q3.2)))
noncomputable def U_X8_is_0 (vs : List Value) (σ : sS) : Option (sZ Int32) := (g_r vs).bind fun a0 => (g_i a0.2).bind fun a1 => (g_i a1.2).bind fun a2 => (g_e a2.2).bind fun _ => T_X8_is_0 a0.1 a1.1 a2.1 σ
noncomputable def T_X8_is_33 (v0 : Nat) (v1 : Int32) (v2 : Int32) (w0 : Int32) (w1 : Nat) (σ : sS) : Option (sZ Int32) :=
  (F_X8_throwsIf w1 w0 2 σ).bind fun q1 =>
  if q1.1 = 0 then ((F_X8_goesThrough v0 q1.2).bind fun q2 =>
  if v2 = 0 then ((F_X8_isHonest v0 v1 q2.2).bind fun q8 =>
  if (q8.1 = 0 ∨ q8.1 = 1) then (some (.inr (q8.1, q8.2))) else none)
  else (if v2 = 1 then ((s_fr q2.2 v0 8 17).bind fun x6 =>
  (s_ab q2.2 x6 v1).bind fun x7 =>
  if (x7 = 0 ∨ x7 = 1) then (some (.inr (x7, q2.2))) else none)
  else (if v2 = 2 then ((F_X8_isOpen v0 v1 q2.2).bind fun q5 =>
  if (q5.1 = 0 ∨ q5.1 = 1) then (some (.inr (q5.1, q5.2))) else none)
  else (if v2 = 3 then ((F_X8_isStale v0 v1 q2.2).bind fun q4 =>
  if (q4.1 = 0 ∨ q4.1 = 1) then (some (.inr (q4.1, q4.2))) else none)
  else ((F_X8_isSaved v0 v1 q2.2).bind fun q3 =>
  if (q3.1 = 0 ∨ q3.1 = 1) then (some (.inr (q3.1, q3.2))) else none)))))
  else (some (.inr (0, q1.2)))
noncomputable def U_X8_is_33 (vs : List Value) (σ : sS) : Option (sZ Int32) := (g_r vs).bind fun a0 => (g_i a0.2).bind fun a1 => (g_i a1.2).bind fun a2 => (g_i a2.2).bind fun a3 => (g_r a3.2).bind fun a4 => (g_e a4.2).bind fun _ => T_X8_is_33 a0.1 a1.1 a2.1 a3.1 a4.1 σ
noncomputable def S_X8_is (x : sL) : Option (sZ Int32) := if x.1 = 0 then U_X8_is_0 x.2.1 x.2.2 else if x.1 = 33 then U_X8_is_33 x.2.1 x.2.2 else none
def Y_X8_is (pc : Nat) : List Nat := if pc = 0 then [0, 1, 2] else if pc = 33 then [0, 1, 2] else []
noncomputable def F_X8_is (v0 : Nat) (v1 : Int32) (v2 : Int32) (σ : sS) : Option (Int32 × sS) := (s_is σ v0 8).bind fun _ => s_run S_X8_is (0, [.ref v0, .int v1, .int v2], σ)
theorem l_X8_is_0 {v0 : Nat} {v1 : Int32} {v2 : Int32} {σ : sS} {z : sZ Int32} (hf : T_X8_is_0 v0 v1 v2 σ = some z) : s_lz σ z := by
  unfold T_X8_is_0 at hf
  obtain ⟨σ1, hh, hf⟩ := s_bind hf
  refine s_lz.tr (s_le2 (s_pf_2 hh)) ?_
  obtain ⟨q2, hh, hf⟩ := s_bind hf
  refine s_lz.tr (l_X8_noLine hh) ?_
  obtain ⟨q3, hh, hf⟩ := s_bind hf
  refine s_lz.tr (l_X8_throwsIf hh) ?_
  rcases s_ite hf with ⟨-, hf⟩ | ⟨-, hf⟩
  · obtain ⟨q4, hh, hf⟩ := s_bind hf
    refine s_lz.tr (l_X8_in hh) ?_
    rcases s_ite hf with ⟨-, hf⟩ | ⟨-, hf⟩
    · cases hf
      exact s_le.rf
    · cases hf
      exact s_le.rf
  · cases hf
    exact s_le.rf
theorem l_X8_is_33 {v0 : Nat} {v1 : Int32} {v2 : Int32} {w0 : Int32} {w1 : Nat} {σ : sS} {z : sZ Int32} (hf : T_X8_is_33 v0 v1 v2 w0 w1 σ = some z) : s_lz σ z := by
  unfold T_X8_is_33 at hf
  obtain ⟨q1, hh, hf⟩ := s_bind hf
  refine s_lz.tr (l_X8_throwsIf hh) ?_
  rcases s_ite hf with ⟨-, hf⟩ | ⟨-, hf⟩
  · obtain ⟨q2, hh, hf⟩ := s_bind hf
    refine s_lz.tr (l_X8_goesThrough hh) ?_
    rcases s_ite hf with ⟨-, hf⟩ | ⟨-, hf⟩
    · obtain ⟨q8, hh, hf⟩ := s_bind hf
      refine s_lz.tr (l_X8_isHonest hh) ?_
      rcases s_ite hf with ⟨-, hf⟩ | ⟨-, hf⟩
      · cases hf
        exact s_le.rf
      · cases hf
    · rcases s_ite hf with ⟨-, hf⟩ | ⟨-, hf⟩
      · obtain ⟨x6, -, hf⟩ := s_bind hf
        obtain ⟨x7, -, hf⟩ := s_bind hf
        rcases s_ite hf with ⟨-, hf⟩ | ⟨-, hf⟩
        · cases hf
          exact s_le.rf
        · cases hf
      · rcases s_ite hf with ⟨-, hf⟩ | ⟨-, hf⟩
        · obtain ⟨q5, hh, hf⟩ := s_bind hf
          refine s_lz.tr (l_X8_isOpen hh) ?_
          rcases s_ite hf with ⟨-, hf⟩ | ⟨-, hf⟩
          · cases hf
            exact s_le.rf
          · cases hf
        · rcases s_ite hf with ⟨-, hf⟩ | ⟨-, hf⟩
          · obtain ⟨q4, hh, hf⟩ := s_bind hf
            refine s_lz.tr (l_X8_isStale hh) ?_
            rcases s_ite hf with ⟨-, hf⟩ | ⟨-, hf⟩
            · cases hf
              exact s_le.rf
            · cases hf
          · obtain ⟨q3, hh, hf⟩ := s_bind hf
            refine s_lz.tr (l_X8_isSaved hh) ?_
            rcases s_ite hf with ⟨-, hf⟩ | ⟨-, hf⟩
            · cases hf
              exact s_le.rf
            · cases hf
  · cases hf
    exact s_le.rf
theorem l_X8_is_s {x : sL} {z : sZ Int32} (hs : S_X8_is x = some z) : s_lz x.2.2 z := by
  obtain ⟨pc, vs, σ⟩ := x
  unfold S_X8_is at hs
  dsimp only at hs ⊢
  rcases s_ite hs with ⟨c, hs⟩ | ⟨-, hs⟩
  · subst c
    unfold U_X8_is_0 at hs
    obtain ⟨a0, g0, hs⟩ := s_bind hs
    obtain ⟨a1, g1, hs⟩ := s_bind hs
    obtain ⟨a2, g2, hs⟩ := s_bind hs
    obtain ⟨u9, ge, hs⟩ := s_bind hs
    exact l_X8_is_0 hs
  rcases s_ite hs with ⟨c, hs⟩ | ⟨-, hs⟩
  · subst c
    unfold U_X8_is_33 at hs
    obtain ⟨a0, g0, hs⟩ := s_bind hs
    obtain ⟨a1, g1, hs⟩ := s_bind hs
    obtain ⟨a2, g2, hs⟩ := s_bind hs
    obtain ⟨a3, g3, hs⟩ := s_bind hs
    obtain ⟨a4, g4, hs⟩ := s_bind hs
    obtain ⟨u9, ge, hs⟩ := s_bind hs
    exact l_X8_is_33 hs
  cases hs
theorem l_X8_is {v0 : Nat} {v1 : Int32} {v2 : Int32} {σ : sS} {q : Int32 × sS} (h : F_X8_is v0 v1 v2 σ = some q) : s_le σ q.2 := by
  unfold F_X8_is at h
  obtain ⟨-, -, h⟩ := s_bind h
  exact s_run_ind (V := fun x r => s_le x.2.2 r.2) (fun x z r hs hk => by
    have h9 := l_X8_is_s hs
    cases z with
    | inl y => exact s_le.tr h9 hk
    | inr q => cases hk; exact h9) h
theorem b_X8_is {v0 : Nat} {v1 : Int32} {v2 : Int32} {σ : sS} {q : Int32 × sS} (h : F_X8_is v0 v1 v2 σ = some q) : ∃ fs, σ.1 v0 = some (.inr (8, fs)) := by
  unfold F_X8_is at h
  obtain ⟨u, hu, -⟩ := s_bind h
  exact s_is_to hu
set_option maxRecDepth 100000 in
set_option maxHeartbeats 4000000 in
theorem v_X8_is_0 {G : sG} {d : Nat} {vs0 : List Value} {σ0 : sS} {v0 : Nat} {v1 : Int32} {v2 : Int32} {σ : sS} {z : sZ Int32} {r : Int32 × sS} (hf : T_X8_is_0 v0 v1 v2 σ = some z) (k : s_K G (d + 8) M_X8_is vs0 σ0 Y_X8_is e_I z r) : s_V G (d + 8) M_X8_is vs0 σ0 Y_X8_is (0, [.ref v0, .int v1, .int v2], σ) (e_I r) := by
  have le0 : s_le σ (e_I r).2 := s_lek hem_I (l_X8_is_0 hf) k
  refine ⟨le0, ?_⟩
  intro p e s m below meth c H locs cells slots ls X I hn1 hn2 hl
  have hn : cells + σ0.2.1 ≤ σ.2.1 ∧ slots + σ0.2.2.1 ≤ σ.2.2.1 := ⟨hn1, hn2⟩
  have hl : lv_has ls 3 [(0, .ref v0), (1, .int v1), (2, .int v2)] := hl
  have hx := X.1
  have hb : c.code = cX8_is := X.2.1
  have hown : s.vm.findClass RX8 = some m.cls := X.2.2.2.2.2.1
  have hts := X.2.2.2.2.2.2.1
  refine W.eq (g2 := F0 m 0 ls []) rfl ?_
  unfold T_X8_is_0 at hf
  obtain ⟨σ1, h1, hf⟩ := s_bind hf
  obtain ⟨q2, h2, hf⟩ := s_bind hf
  obtain ⟨q3, h3, hf⟩ := s_bind hf
  have le4 : s_le q3.2 (e_I r).2 := by
    refine s_lek hem_I ?_ k
    rcases s_ite hf with ⟨-, hf⟩ | ⟨-, hf⟩
    · obtain ⟨q4, hh, hf⟩ := s_bind hf
      refine s_lz.tr (l_X8_in hh) ?_
      rcases s_ite hf with ⟨-, hf⟩ | ⟨-, hf⟩
      · cases hf
        exact s_le.rf
      · cases hf
        exact s_le.rf
    · cases hf
      exact s_le.rf
  have le5 := s_le.tr (l_X8_throwsIf h3) le4
  have le6 := s_le.tr (l_X8_noLine h2) le5
  refine lv_aload_n hx hb dX8_is_0 rfl (lv_at hl 0 rfl) ?_
  refine lv_iconst (v := 0) hx hb dX8_is_1 (by decide) ?_
  refine r_put X I fp_X8_3 (fun h => by cases h) h1 rfl rfl dX8_is_2 (fun H locs I => ?_)
  have hn := s_k2 (s_pf_2 h1) hn
  refine lv_aload_n hx hb dX8_is_5 rfl (lv_at hl 0 rfl) ?_
  refine lv_aload_n hx hb dX8_is_6 rfl (lv_at hl 0 rfl) ?_
  refine lv_iload_n hx hb dX8_is_7 rfl (lv_at hl 1 rfl) ?_
  refine r_callV (Y := M_X8_noLine) (v := some (.int q2.1)) X I w_1999 my_X8_noLine (by omega) (t_X8_noLine (G := G) (d := d + 5) h2) (b_X8_noLine h2) rfl rfl hl.1 rfl (Nat.le_of_ble_eq_true rfl) hn le5 dX8_is_8 (fun H locs cells slots I hn1 hn2 => ?_)
  have I : s_I G q2.2 s H locs := I
  have hn : cells + σ0.2.1 ≤ q2.2.2.1 ∧ slots + σ0.2.2.1 ≤ q2.2.2.2.1 := ⟨hn1, hn2⟩
  refine lv_iconst (v := 1) hx hb dX8_is_11 (by decide) ?_
  refine r_callV (Y := M_X8_throwsIf) (v := some (.int q3.1)) X I w_1897 my_X8_throwsIf (by omega) (t_X8_throwsIf (G := G) (d := d + 6) h3) (b_X8_throwsIf h3) rfl rfl hl.1 rfl (Nat.le_of_ble_eq_true rfl) hn le4 dX8_is_12 (fun H locs cells slots I hn1 hn2 => ?_)
  have I : s_I G q3.2 s H locs := I
  have hn : cells + σ0.2.1 ≤ q3.2.2.1 ∧ slots + σ0.2.2.1 ≤ q3.2.2.2.1 := ⟨hn1, hn2⟩
  rcases s_ite hf with ⟨c7, hf⟩ | ⟨c7, hf⟩
  · refine lv_if_ne (tgt := 40) hx hb dX8_is_15 (by decide) (fun n => absurd c7 n) (fun _ => ?_)
    obtain ⟨q4, h8, hf⟩ := s_bind hf
    have le9 : s_le q4.2 (e_I r).2 := by
      refine s_lek hem_I ?_ k
      rcases s_ite hf with ⟨-, hf⟩ | ⟨-, hf⟩
      · cases hf
        exact s_le.rf
      · cases hf
        exact s_le.rf
    refine lv_aload_n hx hb dX8_is_18 rfl (lv_at hl 0 rfl) ?_
    refine lv_iload_n hx hb dX8_is_19 rfl (lv_at hl 2 rfl) ?_
    refine lv_iconst (v := 0) hx hb dX8_is_20 (by decide) ?_
    refine lv_iconst (v := 4) hx hb dX8_is_21 (by decide) ?_
    refine r_callS (Y := M_X8_in) (v := some (.int q4.1)) X I w_1909 my_X8_in (by omega) (t_X8_in (G := G) (d := d + 6) h8) rfl rfl hl.1 rfl (Nat.le_of_ble_eq_true rfl) hn le9 dX8_is_22 (fun H locs cells slots I hn1 hn2 => ?_)
    have I : s_I G q4.2 s H locs := I
    have hn : cells + σ0.2.1 ≤ q4.2.2.1 ∧ slots + σ0.2.2.1 ≤ q4.2.2.2.1 := ⟨hn1, hn2⟩
    rcases s_ite hf with ⟨c10, hf⟩ | ⟨c10, hf⟩
    · refine lv_if_ne (tgt := 32) hx hb dX8_is_25 (by decide) (fun n => absurd c10 n) (fun _ => ?_)
      cases hf
      have k : s_V G (d + 8) M_X8_is vs0 σ0 Y_X8_is (33, [.ref v0, .int v1, .int v2, .int 1, .ref v0], q4.2) (e_I r) := k
      refine lv_iconst (v := 1) hx hb dX8_is_28 (by decide) ?_
      refine lv_goto (tgt := 33) hx hb dX8_is_29 (by decide) ?_
      exact k.2 p e s m below meth c _ _ _ _ _ X I hn.1 hn.2 (lv_sub hl [0, 1, 2] rfl)
    · refine lv_if_ne (tgt := 32) hx hb dX8_is_25 (by decide) (fun _ => ?_) (fun n => absurd n c10)
      cases hf
      have k : s_V G (d + 8) M_X8_is vs0 σ0 Y_X8_is (33, [.ref v0, .int v1, .int v2, .int 0, .ref v0], q4.2) (e_I r) := k
      refine lv_iconst (v := 0) hx hb dX8_is_32 (by decide) ?_
      exact k.2 p e s m below meth c _ _ _ _ _ X I hn.1 hn.2 (lv_sub hl [0, 1, 2] rfl)
  · refine lv_if_ne (tgt := 40) hx hb dX8_is_15 (by decide) (fun _ => ?_) (fun n => absurd n c7)
    cases hf
    have k : _ = r := k
    subst k
    refine lv_iconst (v := 0) hx hb dX8_is_40 (by decide) ?_
    exact r_iret X I rfl rfl rfl hn dX8_is_41
set_option maxRecDepth 100000 in
set_option maxHeartbeats 4000000 in
theorem v_X8_is_33 {G : sG} {d : Nat} {vs0 : List Value} {σ0 : sS} {v0 : Nat} {v1 : Int32} {v2 : Int32} {w0 : Int32} {w1 : Nat} {σ : sS} {z : sZ Int32} {r : Int32 × sS} (hf : T_X8_is_33 v0 v1 v2 w0 w1 σ = some z) (k : s_K G (d + 8) M_X8_is vs0 σ0 Y_X8_is e_I z r) : s_V G (d + 8) M_X8_is vs0 σ0 Y_X8_is (33, [.ref v0, .int v1, .int v2, .int w0, .ref w1], σ) (e_I r) := by
  have le0 : s_le σ (e_I r).2 := s_lek hem_I (l_X8_is_33 hf) k
  refine ⟨le0, ?_⟩
  intro p e s m below meth c H locs cells slots ls X I hn1 hn2 hl
  have hn : cells + σ0.2.1 ≤ σ.2.1 ∧ slots + σ0.2.2.1 ≤ σ.2.2.1 := ⟨hn1, hn2⟩
  have hl : lv_has ls 3 [(0, .ref v0), (1, .int v1), (2, .int v2)] := hl
  have hx := X.1
  have hb : c.code = cX8_is := X.2.1
  have hown : s.vm.findClass RX8 = some m.cls := X.2.2.2.2.2.1
  have hts := X.2.2.2.2.2.2.1
  refine W.eq (g2 := F0 m 33 ls [.int w0, .ref w1]) rfl ?_
  unfold T_X8_is_33 at hf
  obtain ⟨q1, h1, hf⟩ := s_bind hf
  have le2 : s_le q1.2 (e_I r).2 := by
    refine s_lek hem_I ?_ k
    rcases s_ite hf with ⟨-, hf⟩ | ⟨-, hf⟩
    · obtain ⟨q2, hh, hf⟩ := s_bind hf
      refine s_lz.tr (l_X8_goesThrough hh) ?_
      rcases s_ite hf with ⟨-, hf⟩ | ⟨-, hf⟩
      · obtain ⟨q8, hh, hf⟩ := s_bind hf
        refine s_lz.tr (l_X8_isHonest hh) ?_
        rcases s_ite hf with ⟨-, hf⟩ | ⟨-, hf⟩
        · cases hf
          exact s_le.rf
        · cases hf
      · rcases s_ite hf with ⟨-, hf⟩ | ⟨-, hf⟩
        · obtain ⟨x6, -, hf⟩ := s_bind hf
          obtain ⟨x7, -, hf⟩ := s_bind hf
          rcases s_ite hf with ⟨-, hf⟩ | ⟨-, hf⟩
          · cases hf
            exact s_le.rf
          · cases hf
        · rcases s_ite hf with ⟨-, hf⟩ | ⟨-, hf⟩
          · obtain ⟨q5, hh, hf⟩ := s_bind hf
            refine s_lz.tr (l_X8_isOpen hh) ?_
            rcases s_ite hf with ⟨-, hf⟩ | ⟨-, hf⟩
            · cases hf
              exact s_le.rf
            · cases hf
          · rcases s_ite hf with ⟨-, hf⟩ | ⟨-, hf⟩
            · obtain ⟨q4, hh, hf⟩ := s_bind hf
              refine s_lz.tr (l_X8_isStale hh) ?_
              rcases s_ite hf with ⟨-, hf⟩ | ⟨-, hf⟩
              · cases hf
                exact s_le.rf
              · cases hf
            · obtain ⟨q3, hh, hf⟩ := s_bind hf
              refine s_lz.tr (l_X8_isSaved hh) ?_
              rcases s_ite hf with ⟨-, hf⟩ | ⟨-, hf⟩
              · cases hf
                exact s_le.rf
              · cases hf
    · cases hf
      exact s_le.rf
  refine lv_iconst (v := 2) hx hb dX8_is_33 (by decide) ?_
  refine r_callV (Y := M_X8_throwsIf) (v := some (.int q1.1)) X I w_1897 my_X8_throwsIf (by omega) (t_X8_throwsIf (G := G) (d := d + 6) h1) (b_X8_throwsIf h1) rfl rfl hl.1 rfl (Nat.le_of_ble_eq_true rfl) hn le2 dX8_is_34 (fun H locs cells slots I hn1 hn2 => ?_)
  have I : s_I G q1.2 s H locs := I
  have hn : cells + σ0.2.1 ≤ q1.2.2.1 ∧ slots + σ0.2.2.1 ≤ q1.2.2.2.1 := ⟨hn1, hn2⟩
  rcases s_ite hf with ⟨c3, hf⟩ | ⟨c3, hf⟩
  · refine lv_if_eq (tgt := 42) hx hb dX8_is_37 (by decide) (fun _ => ?_) (fun n => absurd c3 n)
    obtain ⟨q2, h4, hf⟩ := s_bind hf
    have le5 : s_le q2.2 (e_I r).2 := by
      refine s_lek hem_I ?_ k
      rcases s_ite hf with ⟨-, hf⟩ | ⟨-, hf⟩
      · obtain ⟨q8, hh, hf⟩ := s_bind hf
        refine s_lz.tr (l_X8_isHonest hh) ?_
        rcases s_ite hf with ⟨-, hf⟩ | ⟨-, hf⟩
        · cases hf
          exact s_le.rf
        · cases hf
      · rcases s_ite hf with ⟨-, hf⟩ | ⟨-, hf⟩
        · obtain ⟨x6, -, hf⟩ := s_bind hf
          obtain ⟨x7, -, hf⟩ := s_bind hf
          rcases s_ite hf with ⟨-, hf⟩ | ⟨-, hf⟩
          · cases hf
            exact s_le.rf
          · cases hf
        · rcases s_ite hf with ⟨-, hf⟩ | ⟨-, hf⟩
          · obtain ⟨q5, hh, hf⟩ := s_bind hf
            refine s_lz.tr (l_X8_isOpen hh) ?_
            rcases s_ite hf with ⟨-, hf⟩ | ⟨-, hf⟩
            · cases hf
              exact s_le.rf
            · cases hf
          · rcases s_ite hf with ⟨-, hf⟩ | ⟨-, hf⟩
            · obtain ⟨q4, hh, hf⟩ := s_bind hf
              refine s_lz.tr (l_X8_isStale hh) ?_
              rcases s_ite hf with ⟨-, hf⟩ | ⟨-, hf⟩
              · cases hf
                exact s_le.rf
              · cases hf
            · obtain ⟨q3, hh, hf⟩ := s_bind hf
              refine s_lz.tr (l_X8_isSaved hh) ?_
              rcases s_ite hf with ⟨-, hf⟩ | ⟨-, hf⟩
              · cases hf
                exact s_le.rf
              · cases hf
    refine lv_aload_n hx hb dX8_is_42 rfl (lv_at hl 0 rfl) ?_
    refine r_callV (Y := M_X8_goesThrough) (v := none) X I w_2027 my_X8_goesThrough (by omega) (t_X8_goesThrough (G := G) (d := d + 0) h4) (b_X8_goesThrough h4) rfl rfl hl.1 rfl (Nat.le_of_ble_eq_true rfl) hn le5 dX8_is_43 (fun H locs cells slots I hn1 hn2 => ?_)
    have I : s_I G q2.2 s H locs := I
    have hn : cells + σ0.2.1 ≤ q2.2.2.1 ∧ slots + σ0.2.2.1 ≤ q2.2.2.2.1 := ⟨hn1, hn2⟩
    refine lv_iload_n hx hb dX8_is_46 rfl (lv_at hl 2 rfl) ?_
    rcases s_ite hf with ⟨c6, hf⟩ | ⟨c6, hf⟩
    · refine lv_if_ne (tgt := 58) hx hb dX8_is_47 (by decide) (fun n => absurd c6 n) (fun _ => ?_)
      obtain ⟨q8, h7, hf⟩ := s_bind hf
      have le8 : s_le q8.2 (e_I r).2 := by
        refine s_lek hem_I ?_ k
        rcases s_ite hf with ⟨-, hf⟩ | ⟨-, hf⟩
        · cases hf
          exact s_le.rf
        · cases hf
      refine lv_aload_n hx hb dX8_is_50 rfl (lv_at hl 0 rfl) ?_
      refine lv_iload_n hx hb dX8_is_51 rfl (lv_at hl 1 rfl) ?_
      refine r_callV (Y := M_X8_isHonest) (v := some (.int q8.1)) X I w_2031 my_X8_isHonest (by omega) (t_X8_isHonest (G := G) (d := d + 1) h7) (b_X8_isHonest h7) rfl rfl hl.1 rfl (Nat.le_of_ble_eq_true rfl) hn le8 dX8_is_52 (fun H locs cells slots I hn1 hn2 => ?_)
      have I : s_I G q8.2 s H locs := I
      have hn : cells + σ0.2.1 ≤ q8.2.2.1 ∧ slots + σ0.2.2.1 ≤ q8.2.2.2.1 := ⟨hn1, hn2⟩
      refine lv_goto (tgt := 103) hx hb dX8_is_55 (by decide) ?_
      rcases s_ite hf with ⟨hchk, hf⟩ | ⟨-, hf⟩
      · cases hf
        have k : _ = r := k
        subst k
        exact r_iret X I rfl (s_nb hchk) rfl hn dX8_is_103
      · cases hf
    · refine lv_if_ne (tgt := 58) hx hb dX8_is_47 (by decide) (fun _ => ?_) (fun n => absurd n c6)
      refine lv_iload_n hx hb dX8_is_58 rfl (lv_at hl 2 rfl) ?_
      refine lv_iconst (v := 1) hx hb dX8_is_59 (by decide) ?_
      rcases s_ite hf with ⟨c9, hf⟩ | ⟨c9, hf⟩
      · refine lv_icmp_ne (tgt := 72) hx hb dX8_is_60 (by decide) (fun n => absurd c9 n) (fun _ => ?_)
        obtain ⟨x6, h10, hf⟩ := s_bind hf
        obtain ⟨x7, h11, hf⟩ := s_bind hf
        refine lv_aload_n hx hb dX8_is_63 rfl (lv_at hl 0 rfl) ?_
        refine r_gr X I fl_X8_39 h10 dX8_is_64 ?_
        refine lv_iload_n hx hb dX8_is_67 rfl (lv_at hl 1 rfl) ?_
        refine r_bald X I h11 dX8_is_68 ?_
        refine lv_goto (tgt := 103) hx hb dX8_is_69 (by decide) ?_
        rcases s_ite hf with ⟨hchk, hf⟩ | ⟨-, hf⟩
        · cases hf
          have k : _ = r := k
          subst k
          exact r_iret X I rfl (s_nb hchk) rfl hn dX8_is_103
        · cases hf
      · refine lv_icmp_ne (tgt := 72) hx hb dX8_is_60 (by decide) (fun _ => ?_) (fun n => absurd n c9)
        refine lv_iload_n hx hb dX8_is_72 rfl (lv_at hl 2 rfl) ?_
        refine lv_iconst (v := 2) hx hb dX8_is_73 (by decide) ?_
        rcases s_ite hf with ⟨c12, hf⟩ | ⟨c12, hf⟩
        · refine lv_icmp_ne (tgt := 85) hx hb dX8_is_74 (by decide) (fun n => absurd c12 n) (fun _ => ?_)
          obtain ⟨q5, h13, hf⟩ := s_bind hf
          have le14 : s_le q5.2 (e_I r).2 := by
            refine s_lek hem_I ?_ k
            rcases s_ite hf with ⟨-, hf⟩ | ⟨-, hf⟩
            · cases hf
              exact s_le.rf
            · cases hf
          refine lv_aload_n hx hb dX8_is_77 rfl (lv_at hl 0 rfl) ?_
          refine lv_iload_n hx hb dX8_is_78 rfl (lv_at hl 1 rfl) ?_
          refine r_callV (Y := M_X8_isOpen) (v := some (.int q5.1)) X I w_2092 my_X8_isOpen (by omega) (t_X8_isOpen (G := G) (d := d + 5) h13) (b_X8_isOpen h13) rfl rfl hl.1 rfl (Nat.le_of_ble_eq_true rfl) hn le14 dX8_is_79 (fun H locs cells slots I hn1 hn2 => ?_)
          have I : s_I G q5.2 s H locs := I
          have hn : cells + σ0.2.1 ≤ q5.2.2.1 ∧ slots + σ0.2.2.1 ≤ q5.2.2.2.1 := ⟨hn1, hn2⟩
          refine lv_goto (tgt := 103) hx hb dX8_is_82 (by decide) ?_
          rcases s_ite hf with ⟨hchk, hf⟩ | ⟨-, hf⟩
          · cases hf
            have k : _ = r := k
            subst k
            exact r_iret X I rfl (s_nb hchk) rfl hn dX8_is_103
          · cases hf
        · refine lv_icmp_ne (tgt := 85) hx hb dX8_is_74 (by decide) (fun _ => ?_) (fun n => absurd n c12)
          refine lv_iload_n hx hb dX8_is_85 rfl (lv_at hl 2 rfl) ?_
          refine lv_iconst (v := 3) hx hb dX8_is_86 (by decide) ?_
          rcases s_ite hf with ⟨c15, hf⟩ | ⟨c15, hf⟩
          · refine lv_icmp_ne (tgt := 98) hx hb dX8_is_87 (by decide) (fun n => absurd c15 n) (fun _ => ?_)
            obtain ⟨q4, h16, hf⟩ := s_bind hf
            have le17 : s_le q4.2 (e_I r).2 := by
              refine s_lek hem_I ?_ k
              rcases s_ite hf with ⟨-, hf⟩ | ⟨-, hf⟩
              · cases hf
                exact s_le.rf
              · cases hf
            refine lv_aload_n hx hb dX8_is_90 rfl (lv_at hl 0 rfl) ?_
            refine lv_iload_n hx hb dX8_is_91 rfl (lv_at hl 1 rfl) ?_
            refine r_callV (Y := M_X8_isStale) (v := some (.int q4.1)) X I w_2096 my_X8_isStale (by omega) (t_X8_isStale (G := G) (d := d + 2) h16) (b_X8_isStale h16) rfl rfl hl.1 rfl (Nat.le_of_ble_eq_true rfl) hn le17 dX8_is_92 (fun H locs cells slots I hn1 hn2 => ?_)
            have I : s_I G q4.2 s H locs := I
            have hn : cells + σ0.2.1 ≤ q4.2.2.1 ∧ slots + σ0.2.2.1 ≤ q4.2.2.2.1 := ⟨hn1, hn2⟩
            refine lv_goto (tgt := 103) hx hb dX8_is_95 (by decide) ?_
            rcases s_ite hf with ⟨hchk, hf⟩ | ⟨-, hf⟩
            · cases hf
              have k : _ = r := k
              subst k
              exact r_iret X I rfl (s_nb hchk) rfl hn dX8_is_103
            · cases hf
          · refine lv_icmp_ne (tgt := 98) hx hb dX8_is_87 (by decide) (fun _ => ?_) (fun n => absurd n c15)
            obtain ⟨q3, h18, hf⟩ := s_bind hf
            have le19 : s_le q3.2 (e_I r).2 := by
              refine s_lek hem_I ?_ k
              rcases s_ite hf with ⟨-, hf⟩ | ⟨-, hf⟩
              · cases hf
                exact s_le.rf
              · cases hf
            refine lv_aload_n hx hb dX8_is_98 rfl (lv_at hl 0 rfl) ?_
            refine lv_iload_n hx hb dX8_is_99 rfl (lv_at hl 1 rfl) ?_
            refine r_callV (Y := M_X8_isSaved) (v := some (.int q3.1)) X I w_2100 my_X8_isSaved (by omega) (t_X8_isSaved (G := G) (d := d + 1) h18) (b_X8_isSaved h18) rfl rfl hl.1 rfl (Nat.le_of_ble_eq_true rfl) hn le19 dX8_is_100 (fun H locs cells slots I hn1 hn2 => ?_)
            have I : s_I G q3.2 s H locs := I
            have hn : cells + σ0.2.1 ≤ q3.2.2.1 ∧ slots + σ0.2.2.1 ≤ q3.2.2.2.1 := ⟨hn1, hn2⟩
            rcases s_ite hf with ⟨hchk, hf⟩ | ⟨-, hf⟩
            · cases hf
              have k : _ = r := k
              subst k
              exact r_iret X I rfl (s_nb hchk) rfl hn dX8_is_103
            · cases hf
  · refine lv_if_eq (tgt := 42) hx hb dX8_is_37 (by decide) (fun n => absurd n c3) (fun _ => ?_)
    cases hf
    have k : _ = r := k
    subst k
    refine lv_iconst (v := 0) hx hb dX8_is_40 (by decide) ?_
    exact r_iret X I rfl rfl rfl hn dX8_is_41
theorem v_X8_is {G : sG} {d : Nat} {vs0 : List Value} {σ0 : sS} {x : sL} {z : sZ Int32} {r : Int32 × sS} (hs : S_X8_is x = some z) (k : s_K G (d + 8) M_X8_is vs0 σ0 Y_X8_is e_I z r) : s_V G (d + 8) M_X8_is vs0 σ0 Y_X8_is x (e_I r) := by
  obtain ⟨pc, vs, σ⟩ := x
  unfold S_X8_is at hs
  dsimp only at hs
  rcases s_ite hs with ⟨c, hs⟩ | ⟨-, hs⟩
  · subst c
    unfold U_X8_is_0 at hs
    obtain ⟨a0, g0, hs⟩ := s_bind hs
    obtain ⟨a1, g1, hs⟩ := s_bind hs
    obtain ⟨a2, g2, hs⟩ := s_bind hs
    obtain ⟨u9, ge, hs⟩ := s_bind hs
    rw [g_r_to g0, g_i_to g1, g_i_to g2, g_e_to ge]
    exact v_X8_is_0 hs k
  rcases s_ite hs with ⟨c, hs⟩ | ⟨-, hs⟩
  · subst c
    unfold U_X8_is_33 at hs
    obtain ⟨a0, g0, hs⟩ := s_bind hs
    obtain ⟨a1, g1, hs⟩ := s_bind hs
    obtain ⟨a2, g2, hs⟩ := s_bind hs
    obtain ⟨a3, g3, hs⟩ := s_bind hs
    obtain ⟨a4, g4, hs⟩ := s_bind hs
    obtain ⟨u9, ge, hs⟩ := s_bind hs
    rw [g_r_to g0, g_i_to g1, g_i_to g2, g_i_to g3, g_r_to g4, g_e_to ge]
    exact v_X8_is_33 hs k
  cases hs
theorem t_X8_is {G : sG} {d : Nat} {v0 : Nat} {v1 : Int32} {v2 : Int32} {σ : sS} {q : Int32 × sS} (h : F_X8_is v0 v1 v2 σ = some q) : s_T G (d + 8) M_X8_is [.ref v0, .int v1, .int v2] σ (e_I q) := by
  unfold F_X8_is at h
  obtain ⟨-, -, h⟩ := s_bind h
  exact s_ofV rfl (by decide) (Nat.le_of_ble_eq_true rfl) rfl rfl (s_run_ind (V := fun x r => s_V G (d + 8) M_X8_is [.ref v0, .int v1, .int v2] σ Y_X8_is x (e_I r)) (fun x z r hs hk => v_X8_is hs (by cases z <;> exact hk)) h)
/-! X0_firstWrong -/
noncomputable def T_X0_firstWrong_0 (v0 : Nat) (σ : sS) : Option (sZ Int32) :=
  some (.inl (2, [.ref v0, .int 0], σ))
noncomputable def U_X0_firstWrong_0 (vs : List Value) (σ : sS) : Option (sZ Int32) := (g_r vs).bind fun a0 => (g_e a0.2).bind fun _ => T_X0_firstWrong_0 a0.1 σ
noncomputable def T_X0_firstWrong_2 (v0 : Nat) (v1 : Int32) (σ : sS) : Option (sZ Int32) :=
  (s_fr σ v0 0 5).bind fun x1 =>
  (s_fi σ x1 1 6).bind fun x2 =>
  if x2 ≤ v1 then (some (.inr ((-1), σ)))
  else ((s_fl σ v0 0 0).bind fun x3 =>
  if (lg_cmp (((x3 : Int64).toUInt64 >>> ((v1 : Int32).toInt64.toUInt64 &&& Int64.toUInt64 63)).toInt64 &&& 1) 0) = 0 then (some (.inr (v1, σ)))
  else (some (.inl (2, [.ref v0, .int (v1 + 1)], σ))))
noncomputable def U_X0_firstWrong_2 (vs : List Value) (σ : sS) : Option (sZ Int32) := (g_r vs).bind fun a0 => (g_i a0.2).bind fun a1 => (g_e a1.2).bind fun _ => T_X0_firstWrong_2 a0.1 a1.1 σ
noncomputable def S_X0_firstWrong (x : sL) : Option (sZ Int32) := if x.1 = 0 then U_X0_firstWrong_0 x.2.1 x.2.2 else if x.1 = 2 then U_X0_firstWrong_2 x.2.1 x.2.2 else none
def Y_X0_firstWrong (pc : Nat) : List Nat := if pc = 0 then [0] else if pc = 2 then [0, 1] else []
noncomputable def F_X0_firstWrong (v0 : Nat) (σ : sS) : Option (Int32 × sS) := (s_is σ v0 0).bind fun _ => s_run S_X0_firstWrong (0, [.ref v0], σ)
theorem l_X0_firstWrong_0 {v0 : Nat} {σ : sS} {z : sZ Int32} (hf : T_X0_firstWrong_0 v0 σ = some z) : s_lz σ z := by
  unfold T_X0_firstWrong_0 at hf
  cases hf
  exact s_le.rf
theorem l_X0_firstWrong_2 {v0 : Nat} {v1 : Int32} {σ : sS} {z : sZ Int32} (hf : T_X0_firstWrong_2 v0 v1 σ = some z) : s_lz σ z := by
  unfold T_X0_firstWrong_2 at hf
  obtain ⟨x1, -, hf⟩ := s_bind hf
  obtain ⟨x2, -, hf⟩ := s_bind hf
  rcases s_ite hf with ⟨-, hf⟩ | ⟨-, hf⟩
  · cases hf
    exact s_le.rf
  · obtain ⟨x3, -, hf⟩ := s_bind hf
    rcases s_ite hf with ⟨-, hf⟩ | ⟨-, hf⟩
    · cases hf
      exact s_le.rf
    · cases hf
      exact s_le.rf
theorem l_X0_firstWrong_s {x : sL} {z : sZ Int32} (hs : S_X0_firstWrong x = some z) : s_lz x.2.2 z := by
  obtain ⟨pc, vs, σ⟩ := x
  unfold S_X0_firstWrong at hs
  dsimp only at hs ⊢
  rcases s_ite hs with ⟨c, hs⟩ | ⟨-, hs⟩
  · subst c
    unfold U_X0_firstWrong_0 at hs
    obtain ⟨a0, g0, hs⟩ := s_bind hs
    obtain ⟨u9, ge, hs⟩ := s_bind hs
    exact l_X0_firstWrong_0 hs
  rcases s_ite hs with ⟨c, hs⟩ | ⟨-, hs⟩
  · subst c
    unfold U_X0_firstWrong_2 at hs
    obtain ⟨a0, g0, hs⟩ := s_bind hs
    obtain ⟨a1, g1, hs⟩ := s_bind hs
    obtain ⟨u9, ge, hs⟩ := s_bind hs
    exact l_X0_firstWrong_2 hs
  cases hs
theorem l_X0_firstWrong {v0 : Nat} {σ : sS} {q : Int32 × sS} (h : F_X0_firstWrong v0 σ = some q) : s_le σ q.2 := by
  unfold F_X0_firstWrong at h
  obtain ⟨-, -, h⟩ := s_bind h
  exact s_run_ind (V := fun x r => s_le x.2.2 r.2) (fun x z r hs hk => by
    have h9 := l_X0_firstWrong_s hs
    cases z with
    | inl y => exact s_le.tr h9 hk
    | inr q => cases hk; exact h9) h
theorem b_X0_firstWrong {v0 : Nat} {σ : sS} {q : Int32 × sS} (h : F_X0_firstWrong v0 σ = some q) : ∃ fs, σ.1 v0 = some (.inr (0, fs)) := by
  unfold F_X0_firstWrong at h
  obtain ⟨u, hu, -⟩ := s_bind h
  exact s_is_to hu
set_option maxRecDepth 100000 in
set_option maxHeartbeats 4000000 in
theorem v_X0_firstWrong_0 {G : sG} {d : Nat} {vs0 : List Value} {σ0 : sS} {v0 : Nat} {σ : sS} {z : sZ Int32} {r : Int32 × sS} (hf : T_X0_firstWrong_0 v0 σ = some z) (k : s_K G (d + 1) M_X0_firstWrong vs0 σ0 Y_X0_firstWrong e_I z r) : s_V G (d + 1) M_X0_firstWrong vs0 σ0 Y_X0_firstWrong (0, [.ref v0], σ) (e_I r) := by
  have le0 : s_le σ (e_I r).2 := s_lek hem_I (l_X0_firstWrong_0 hf) k
  refine ⟨le0, ?_⟩
  intro p e s m below meth c H locs cells slots ls X I hn1 hn2 hl
  have hn : cells + σ0.2.1 ≤ σ.2.1 ∧ slots + σ0.2.2.1 ≤ σ.2.2.1 := ⟨hn1, hn2⟩
  have hl : lv_has ls 2 [(0, .ref v0)] := hl
  have hx := X.1
  have hb : c.code = cX0_firstWrong := X.2.1
  have hown : s.vm.findClass RX0 = some m.cls := X.2.2.2.2.2.1
  have hts := X.2.2.2.2.2.2.1
  refine W.eq (g2 := F0 m 0 ls []) rfl ?_
  unfold T_X0_firstWrong_0 at hf
  cases hf
  have k : s_V G (d + 1) M_X0_firstWrong vs0 σ0 Y_X0_firstWrong (2, [.ref v0, .int 0], σ) (e_I r) := k
  refine lv_iconst (v := 0) hx hb dX0_firstWrong_0 (by decide) ?_
  refine lv_istore_n (lv' := [(1, .int 0), (0, .ref v0)]) hx hb dX0_firstWrong_1 rfl hl (by decide) rfl (fun ls hl => ?_)
  exact k.2 p e s m below meth c _ _ _ _ _ X I hn.1 hn.2 (lv_sub hl [1, 0] rfl)
set_option maxRecDepth 100000 in
set_option maxHeartbeats 4000000 in
theorem v_X0_firstWrong_2 {G : sG} {d : Nat} {vs0 : List Value} {σ0 : sS} {v0 : Nat} {v1 : Int32} {σ : sS} {z : sZ Int32} {r : Int32 × sS} (hf : T_X0_firstWrong_2 v0 v1 σ = some z) (k : s_K G (d + 1) M_X0_firstWrong vs0 σ0 Y_X0_firstWrong e_I z r) : s_V G (d + 1) M_X0_firstWrong vs0 σ0 Y_X0_firstWrong (2, [.ref v0, .int v1], σ) (e_I r) := by
  have le0 : s_le σ (e_I r).2 := s_lek hem_I (l_X0_firstWrong_2 hf) k
  refine ⟨le0, ?_⟩
  intro p e s m below meth c H locs cells slots ls X I hn1 hn2 hl
  have hn : cells + σ0.2.1 ≤ σ.2.1 ∧ slots + σ0.2.2.1 ≤ σ.2.2.1 := ⟨hn1, hn2⟩
  have hl : lv_has ls 2 [(0, .ref v0), (1, .int v1)] := hl
  have hx := X.1
  have hb : c.code = cX0_firstWrong := X.2.1
  have hown : s.vm.findClass RX0 = some m.cls := X.2.2.2.2.2.1
  have hts := X.2.2.2.2.2.2.1
  refine W.eq (g2 := F0 m 2 ls []) rfl ?_
  unfold T_X0_firstWrong_2 at hf
  obtain ⟨x1, h1, hf⟩ := s_bind hf
  obtain ⟨x2, h2, hf⟩ := s_bind hf
  refine lv_iload_n hx hb dX0_firstWrong_2 rfl (lv_at hl 1 rfl) ?_
  refine lv_aload_n hx hb dX0_firstWrong_3 rfl (lv_at hl 0 rfl) ?_
  refine r_gr X I fl_X0_15 h1 dX0_firstWrong_4 ?_
  refine r_gi X I fl_X0_40 h2 dX0_firstWrong_7 ?_
  rcases s_ite hf with ⟨c3, hf⟩ | ⟨c3, hf⟩
  · refine lv_icmp_ge (tgt := 34) hx hb dX0_firstWrong_10 (by decide) (fun _ => ?_) (fun n => absurd c3 n)
    cases hf
    have k : _ = r := k
    subst k
    refine lv_iconst (v := (-1)) hx hb dX0_firstWrong_34 (by decide) ?_
    exact r_iret X I rfl rfl rfl hn dX0_firstWrong_35
  · refine lv_icmp_ge (tgt := 34) hx hb dX0_firstWrong_10 (by decide) (fun n => absurd n c3) (fun _ => ?_)
    obtain ⟨x3, h4, hf⟩ := s_bind hf
    refine lv_aload_n hx hb dX0_firstWrong_13 rfl (lv_at hl 0 rfl) ?_
    refine r_gl X I fl_X0_19 h4 dX0_firstWrong_14 ?_
    refine lv_iload_n hx hb dX0_firstWrong_17 rfl (lv_at hl 1 rfl) ?_
    refine lv_lushr hx hb dX0_firstWrong_18 rfl ?_
    refine lv_lconst (v := 1) hx hb dX0_firstWrong_19 (by decide) ?_
    refine lv_land hx hb dX0_firstWrong_20 ?_
    refine lv_lconst (v := 0) hx hb dX0_firstWrong_21 (by decide) ?_
    refine W.lcmp hx hb dX0_firstWrong_22 ?_
    rcases s_ite hf with ⟨c5, hf⟩ | ⟨c5, hf⟩
    · refine lv_if_ne (tgt := 28) hx hb dX0_firstWrong_23 (by decide) (fun n => absurd c5 n) (fun _ => ?_)
      cases hf
      have k : _ = r := k
      subst k
      refine lv_iload_n hx hb dX0_firstWrong_26 rfl (lv_at hl 1 rfl) ?_
      exact r_iret X I rfl rfl rfl hn dX0_firstWrong_27
    · refine lv_if_ne (tgt := 28) hx hb dX0_firstWrong_23 (by decide) (fun _ => ?_) (fun n => absurd n c5)
      cases hf
      have k : s_V G (d + 1) M_X0_firstWrong vs0 σ0 Y_X0_firstWrong (2, [.ref v0, .int (v1 + 1)], σ) (e_I r) := k
      refine lv_iinc (v := (v1 + 1)) (lv' := [(1, .int (v1 + 1)), (0, .ref v0)]) hx hb dX0_firstWrong_28 hl (k := 1) rfl rfl (by decide) rfl (fun ls hl => ?_)
      refine lv_goto (tgt := 2) hx hb dX0_firstWrong_31 (by decide) ?_
      exact k.2 p e s m below meth c _ _ _ _ _ X I hn.1 hn.2 (lv_sub hl [1, 0] rfl)
theorem v_X0_firstWrong {G : sG} {d : Nat} {vs0 : List Value} {σ0 : sS} {x : sL} {z : sZ Int32} {r : Int32 × sS} (hs : S_X0_firstWrong x = some z) (k : s_K G (d + 1) M_X0_firstWrong vs0 σ0 Y_X0_firstWrong e_I z r) : s_V G (d + 1) M_X0_firstWrong vs0 σ0 Y_X0_firstWrong x (e_I r) := by
  obtain ⟨pc, vs, σ⟩ := x
  unfold S_X0_firstWrong at hs
  dsimp only at hs
  rcases s_ite hs with ⟨c, hs⟩ | ⟨-, hs⟩
  · subst c
    unfold U_X0_firstWrong_0 at hs
    obtain ⟨a0, g0, hs⟩ := s_bind hs
    obtain ⟨u9, ge, hs⟩ := s_bind hs
    rw [g_r_to g0, g_e_to ge]
    exact v_X0_firstWrong_0 hs k
  rcases s_ite hs with ⟨c, hs⟩ | ⟨-, hs⟩
  · subst c
    unfold U_X0_firstWrong_2 at hs
    obtain ⟨a0, g0, hs⟩ := s_bind hs
    obtain ⟨a1, g1, hs⟩ := s_bind hs
    obtain ⟨u9, ge, hs⟩ := s_bind hs
    rw [g_r_to g0, g_i_to g1, g_e_to ge]
    exact v_X0_firstWrong_2 hs k
  cases hs
theorem t_X0_firstWrong {G : sG} {d : Nat} {v0 : Nat} {σ : sS} {q : Int32 × sS} (h : F_X0_firstWrong v0 σ = some q) : s_T G (d + 1) M_X0_firstWrong [.ref v0] σ (e_I q) := by
  unfold F_X0_firstWrong at h
  obtain ⟨-, -, h⟩ := s_bind h
  exact s_ofV rfl (by decide) (Nat.le_of_ble_eq_true rfl) rfl rfl (s_run_ind (V := fun x r => s_V G (d + 1) M_X0_firstWrong [.ref v0] σ Y_X0_firstWrong x (e_I r)) (fun x z r hs hk => v_X0_firstWrong hs (by cases z <;> exact hk)) h)
/-! X7_wrong -/
noncomputable def T_X7_wrong_0 (v0 : Nat) (σ : sS) : Option (sZ Int32) :=
  (s_fr σ v0 7 5).bind fun x1 =>
  (F_X0_audit x1 σ).bind fun q2 =>
  (s_fr q2.2 v0 7 5).bind fun x3 =>
  (F_X0_firstWrong x3 q2.2).bind fun q4 =>
  some (.inr (q4.1, q4.2))
noncomputable def U_X7_wrong_0 (vs : List Value) (σ : sS) : Option (sZ Int32) := (g_r vs).bind fun a0 => (g_e a0.2).bind fun _ => T_X7_wrong_0 a0.1 σ
noncomputable def S_X7_wrong (x : sL) : Option (sZ Int32) := if x.1 = 0 then U_X7_wrong_0 x.2.1 x.2.2 else none
def Y_X7_wrong (pc : Nat) : List Nat := if pc = 0 then [0] else []
noncomputable def F_X7_wrong (v0 : Nat) (σ : sS) : Option (Int32 × sS) := (s_is σ v0 7).bind fun _ => s_run S_X7_wrong (0, [.ref v0], σ)
theorem l_X7_wrong_0 {v0 : Nat} {σ : sS} {z : sZ Int32} (hf : T_X7_wrong_0 v0 σ = some z) : s_lz σ z := by
  unfold T_X7_wrong_0 at hf
  obtain ⟨x1, -, hf⟩ := s_bind hf
  obtain ⟨q2, hh, hf⟩ := s_bind hf
  refine s_lz.tr (l_X0_audit hh) ?_
  obtain ⟨x3, -, hf⟩ := s_bind hf
  obtain ⟨q4, hh, hf⟩ := s_bind hf
  refine s_lz.tr (l_X0_firstWrong hh) ?_
  cases hf
  exact s_le.rf
theorem l_X7_wrong_s {x : sL} {z : sZ Int32} (hs : S_X7_wrong x = some z) : s_lz x.2.2 z := by
  obtain ⟨pc, vs, σ⟩ := x
  unfold S_X7_wrong at hs
  dsimp only at hs ⊢
  rcases s_ite hs with ⟨c, hs⟩ | ⟨-, hs⟩
  · subst c
    unfold U_X7_wrong_0 at hs
    obtain ⟨a0, g0, hs⟩ := s_bind hs
    obtain ⟨u9, ge, hs⟩ := s_bind hs
    exact l_X7_wrong_0 hs
  cases hs
theorem l_X7_wrong {v0 : Nat} {σ : sS} {q : Int32 × sS} (h : F_X7_wrong v0 σ = some q) : s_le σ q.2 := by
  unfold F_X7_wrong at h
  obtain ⟨-, -, h⟩ := s_bind h
  exact s_run_ind (V := fun x r => s_le x.2.2 r.2) (fun x z r hs hk => by
    have h9 := l_X7_wrong_s hs
    cases z with
    | inl y => exact s_le.tr h9 hk
    | inr q => cases hk; exact h9) h
theorem b_X7_wrong {v0 : Nat} {σ : sS} {q : Int32 × sS} (h : F_X7_wrong v0 σ = some q) : ∃ fs, σ.1 v0 = some (.inr (7, fs)) := by
  unfold F_X7_wrong at h
  obtain ⟨u, hu, -⟩ := s_bind h
  exact s_is_to hu
set_option maxRecDepth 100000 in
set_option maxHeartbeats 4000000 in
theorem v_X7_wrong_0 {G : sG} {d : Nat} {vs0 : List Value} {σ0 : sS} {v0 : Nat} {σ : sS} {z : sZ Int32} {r : Int32 × sS} (hf : T_X7_wrong_0 v0 σ = some z) (k : s_K G (d + 7) M_X7_wrong vs0 σ0 Y_X7_wrong e_I z r) : s_V G (d + 7) M_X7_wrong vs0 σ0 Y_X7_wrong (0, [.ref v0], σ) (e_I r) := by
  have le0 : s_le σ (e_I r).2 := s_lek hem_I (l_X7_wrong_0 hf) k
  refine ⟨le0, ?_⟩
  intro p e s m below meth c H locs cells slots ls X I hn1 hn2 hl
  have hn : cells + σ0.2.1 ≤ σ.2.1 ∧ slots + σ0.2.2.1 ≤ σ.2.2.1 := ⟨hn1, hn2⟩
  have hl : lv_has ls 1 [(0, .ref v0)] := hl
  have hx := X.1
  have hb : c.code = cX7_wrong := X.2.1
  have hown : s.vm.findClass RX7 = some m.cls := X.2.2.2.2.2.1
  have hts := X.2.2.2.2.2.2.1
  refine W.eq (g2 := F0 m 0 ls []) rfl ?_
  unfold T_X7_wrong_0 at hf
  obtain ⟨x1, h1, hf⟩ := s_bind hf
  obtain ⟨q2, h2, hf⟩ := s_bind hf
  obtain ⟨x3, h3, hf⟩ := s_bind hf
  obtain ⟨q4, h4, hf⟩ := s_bind hf
  cases hf
  have k : _ = r := k
  subst k
  have le5 : s_le q4.2 q4.2 := s_le.rf
  have le6 := s_le.tr (l_X0_firstWrong h4) le5
  refine lv_aload_n hx hb dX7_wrong_0 rfl (lv_at hl 0 rfl) ?_
  refine r_gr X I fl_X7_49 h1 dX7_wrong_1 ?_
  refine r_callV (Y := M_X0_audit) (v := none) X I w_509 my_X0_audit (by omega) (t_X0_audit (G := G) (d := d + 0) h2) (b_X0_audit h2) rfl rfl hl.1 rfl (Nat.le_of_ble_eq_true rfl) hn le6 dX7_wrong_4 (fun H locs cells slots I hn1 hn2 => ?_)
  have I : s_I G q2.2 s H locs := I
  have hn : cells + σ0.2.1 ≤ q2.2.2.1 ∧ slots + σ0.2.2.1 ≤ q2.2.2.2.1 := ⟨hn1, hn2⟩
  refine lv_aload_n hx hb dX7_wrong_7 rfl (lv_at hl 0 rfl) ?_
  refine r_gr X I fl_X7_49 h3 dX7_wrong_8 ?_
  refine r_callV (Y := M_X0_firstWrong) (v := some (.int q4.1)) X I w_608 my_X0_firstWrong (by omega) (t_X0_firstWrong (G := G) (d := d + 5) h4) (b_X0_firstWrong h4) rfl rfl hl.1 rfl (Nat.le_of_ble_eq_true rfl) hn le5 dX7_wrong_11 (fun H locs cells slots I hn1 hn2 => ?_)
  have I : s_I G q4.2 s H locs := I
  have hn : cells + σ0.2.1 ≤ q4.2.2.1 ∧ slots + σ0.2.2.1 ≤ q4.2.2.2.1 := ⟨hn1, hn2⟩
  exact r_iret X I rfl rfl rfl hn dX7_wrong_14
theorem v_X7_wrong {G : sG} {d : Nat} {vs0 : List Value} {σ0 : sS} {x : sL} {z : sZ Int32} {r : Int32 × sS} (hs : S_X7_wrong x = some z) (k : s_K G (d + 7) M_X7_wrong vs0 σ0 Y_X7_wrong e_I z r) : s_V G (d + 7) M_X7_wrong vs0 σ0 Y_X7_wrong x (e_I r) := by
  obtain ⟨pc, vs, σ⟩ := x
  unfold S_X7_wrong at hs
  dsimp only at hs
  rcases s_ite hs with ⟨c, hs⟩ | ⟨-, hs⟩
  · subst c
    unfold U_X7_wrong_0 at hs
    obtain ⟨a0, g0, hs⟩ := s_bind hs
    obtain ⟨u9, ge, hs⟩ := s_bind hs
    rw [g_r_to g0, g_e_to ge]
    exact v_X7_wrong_0 hs k
  cases hs
theorem t_X7_wrong {G : sG} {d : Nat} {v0 : Nat} {σ : sS} {q : Int32 × sS} (h : F_X7_wrong v0 σ = some q) : s_T G (d + 7) M_X7_wrong [.ref v0] σ (e_I q) := by
  unfold F_X7_wrong at h
  obtain ⟨-, -, h⟩ := s_bind h
  exact s_ofV rfl (by decide) (Nat.le_of_ble_eq_true rfl) rfl rfl (s_run_ind (V := fun x r => s_V G (d + 7) M_X7_wrong [.ref v0] σ Y_X7_wrong x (e_I r)) (fun x z r hs hk => v_X7_wrong hs (by cases z <;> exact hk)) h)
/-! X8_wrong -/
noncomputable def T_X8_wrong_0 (v0 : Nat) (σ : sS) : Option (sZ Int32) :=
  (s_pf σ v0 8 0 (.int 0)).bind fun σ1 =>
  some (.inl (7, [.ref v0, .int 0], σ1))
noncomputable def U_X8_wrong_0 (vs : List Value) (σ : sS) : Option (sZ Int32) := (g_r vs).bind fun a0 => (g_e a0.2).bind fun _ => T_X8_wrong_0 a0.1 σ
noncomputable def T_X8_wrong_7 (v0 : Nat) (v1 : Int32) (σ : sS) : Option (sZ Int32) :=
  (F_X8_lines v0 σ).bind fun q1 =>
  if q1.1 ≤ v1 then (some (.inr ((-1), q1.2)))
  else ((F_X8_isHonest v0 v1 q1.2).bind fun q2 =>
  if q2.1 = 0 then (some (.inr (v1, q2.2)))
  else (some (.inl (7, [.ref v0, .int (v1 + 1)], q2.2))))
noncomputable def U_X8_wrong_7 (vs : List Value) (σ : sS) : Option (sZ Int32) := (g_r vs).bind fun a0 => (g_i a0.2).bind fun a1 => (g_e a1.2).bind fun _ => T_X8_wrong_7 a0.1 a1.1 σ
noncomputable def S_X8_wrong (x : sL) : Option (sZ Int32) := if x.1 = 0 then U_X8_wrong_0 x.2.1 x.2.2 else if x.1 = 7 then U_X8_wrong_7 x.2.1 x.2.2 else none
def Y_X8_wrong (pc : Nat) : List Nat := if pc = 0 then [0] else if pc = 7 then [0, 1] else []
noncomputable def F_X8_wrong (v0 : Nat) (σ : sS) : Option (Int32 × sS) := (s_is σ v0 8).bind fun _ => s_run S_X8_wrong (0, [.ref v0], σ)
theorem l_X8_wrong_0 {v0 : Nat} {σ : sS} {z : sZ Int32} (hf : T_X8_wrong_0 v0 σ = some z) : s_lz σ z := by
  unfold T_X8_wrong_0 at hf
  obtain ⟨σ1, hh, hf⟩ := s_bind hf
  refine s_lz.tr (s_le2 (s_pf_2 hh)) ?_
  cases hf
  exact s_le.rf
theorem l_X8_wrong_7 {v0 : Nat} {v1 : Int32} {σ : sS} {z : sZ Int32} (hf : T_X8_wrong_7 v0 v1 σ = some z) : s_lz σ z := by
  unfold T_X8_wrong_7 at hf
  obtain ⟨q1, hh, hf⟩ := s_bind hf
  refine s_lz.tr (l_X8_lines hh) ?_
  rcases s_ite hf with ⟨-, hf⟩ | ⟨-, hf⟩
  · cases hf
    exact s_le.rf
  · obtain ⟨q2, hh, hf⟩ := s_bind hf
    refine s_lz.tr (l_X8_isHonest hh) ?_
    rcases s_ite hf with ⟨-, hf⟩ | ⟨-, hf⟩
    · cases hf
      exact s_le.rf
    · cases hf
      exact s_le.rf
theorem l_X8_wrong_s {x : sL} {z : sZ Int32} (hs : S_X8_wrong x = some z) : s_lz x.2.2 z := by
  obtain ⟨pc, vs, σ⟩ := x
  unfold S_X8_wrong at hs
  dsimp only at hs ⊢
  rcases s_ite hs with ⟨c, hs⟩ | ⟨-, hs⟩
  · subst c
    unfold U_X8_wrong_0 at hs
    obtain ⟨a0, g0, hs⟩ := s_bind hs
    obtain ⟨u9, ge, hs⟩ := s_bind hs
    exact l_X8_wrong_0 hs
  rcases s_ite hs with ⟨c, hs⟩ | ⟨-, hs⟩
  · subst c
    unfold U_X8_wrong_7 at hs
    obtain ⟨a0, g0, hs⟩ := s_bind hs
    obtain ⟨a1, g1, hs⟩ := s_bind hs
    obtain ⟨u9, ge, hs⟩ := s_bind hs
    exact l_X8_wrong_7 hs
  cases hs
theorem l_X8_wrong {v0 : Nat} {σ : sS} {q : Int32 × sS} (h : F_X8_wrong v0 σ = some q) : s_le σ q.2 := by
  unfold F_X8_wrong at h
  obtain ⟨-, -, h⟩ := s_bind h
  exact s_run_ind (V := fun x r => s_le x.2.2 r.2) (fun x z r hs hk => by
    have h9 := l_X8_wrong_s hs
    cases z with
    | inl y => exact s_le.tr h9 hk
    | inr q => cases hk; exact h9) h
theorem b_X8_wrong {v0 : Nat} {σ : sS} {q : Int32 × sS} (h : F_X8_wrong v0 σ = some q) : ∃ fs, σ.1 v0 = some (.inr (8, fs)) := by
  unfold F_X8_wrong at h
  obtain ⟨u, hu, -⟩ := s_bind h
  exact s_is_to hu
set_option maxRecDepth 100000 in
set_option maxHeartbeats 4000000 in
theorem v_X8_wrong_0 {G : sG} {d : Nat} {vs0 : List Value} {σ0 : sS} {v0 : Nat} {σ : sS} {z : sZ Int32} {r : Int32 × sS} (hf : T_X8_wrong_0 v0 σ = some z) (k : s_K G (d + 7) M_X8_wrong vs0 σ0 Y_X8_wrong e_I z r) : s_V G (d + 7) M_X8_wrong vs0 σ0 Y_X8_wrong (0, [.ref v0], σ) (e_I r) := by
  have le0 : s_le σ (e_I r).2 := s_lek hem_I (l_X8_wrong_0 hf) k
  refine ⟨le0, ?_⟩
  intro p e s m below meth c H locs cells slots ls X I hn1 hn2 hl
  have hn : cells + σ0.2.1 ≤ σ.2.1 ∧ slots + σ0.2.2.1 ≤ σ.2.2.1 := ⟨hn1, hn2⟩
  have hl : lv_has ls 2 [(0, .ref v0)] := hl
  have hx := X.1
  have hb : c.code = cX8_wrong := X.2.1
  have hown : s.vm.findClass RX8 = some m.cls := X.2.2.2.2.2.1
  have hts := X.2.2.2.2.2.2.1
  refine W.eq (g2 := F0 m 0 ls []) rfl ?_
  unfold T_X8_wrong_0 at hf
  obtain ⟨σ1, h1, hf⟩ := s_bind hf
  cases hf
  have k : s_V G (d + 7) M_X8_wrong vs0 σ0 Y_X8_wrong (7, [.ref v0, .int 0], σ1) (e_I r) := k
  have le2 : s_le σ1 (e_I r).2 := k.1
  refine lv_aload_n hx hb dX8_wrong_0 rfl (lv_at hl 0 rfl) ?_
  refine lv_iconst (v := 0) hx hb dX8_wrong_1 (by decide) ?_
  refine r_put X I fp_X8_3 (fun h => by cases h) h1 rfl rfl dX8_wrong_2 (fun H locs I => ?_)
  have hn := s_k2 (s_pf_2 h1) hn
  refine lv_iconst (v := 0) hx hb dX8_wrong_5 (by decide) ?_
  refine lv_istore_n (lv' := [(1, .int 0), (0, .ref v0)]) hx hb dX8_wrong_6 rfl hl (by decide) rfl (fun ls hl => ?_)
  exact k.2 p e s m below meth c _ _ _ _ _ X I hn.1 hn.2 (lv_sub hl [1, 0] rfl)
set_option maxRecDepth 100000 in
set_option maxHeartbeats 4000000 in
theorem v_X8_wrong_7 {G : sG} {d : Nat} {vs0 : List Value} {σ0 : sS} {v0 : Nat} {v1 : Int32} {σ : sS} {z : sZ Int32} {r : Int32 × sS} (hf : T_X8_wrong_7 v0 v1 σ = some z) (k : s_K G (d + 7) M_X8_wrong vs0 σ0 Y_X8_wrong e_I z r) : s_V G (d + 7) M_X8_wrong vs0 σ0 Y_X8_wrong (7, [.ref v0, .int v1], σ) (e_I r) := by
  have le0 : s_le σ (e_I r).2 := s_lek hem_I (l_X8_wrong_7 hf) k
  refine ⟨le0, ?_⟩
  intro p e s m below meth c H locs cells slots ls X I hn1 hn2 hl
  have hn : cells + σ0.2.1 ≤ σ.2.1 ∧ slots + σ0.2.2.1 ≤ σ.2.2.1 := ⟨hn1, hn2⟩
  have hl : lv_has ls 2 [(0, .ref v0), (1, .int v1)] := hl
  have hx := X.1
  have hb : c.code = cX8_wrong := X.2.1
  have hown : s.vm.findClass RX8 = some m.cls := X.2.2.2.2.2.1
  have hts := X.2.2.2.2.2.2.1
  refine W.eq (g2 := F0 m 7 ls []) rfl ?_
  unfold T_X8_wrong_7 at hf
  obtain ⟨q1, h1, hf⟩ := s_bind hf
  have le2 : s_le q1.2 (e_I r).2 := by
    refine s_lek hem_I ?_ k
    rcases s_ite hf with ⟨-, hf⟩ | ⟨-, hf⟩
    · cases hf
      exact s_le.rf
    · obtain ⟨q2, hh, hf⟩ := s_bind hf
      refine s_lz.tr (l_X8_isHonest hh) ?_
      rcases s_ite hf with ⟨-, hf⟩ | ⟨-, hf⟩
      · cases hf
        exact s_le.rf
      · cases hf
        exact s_le.rf
  refine lv_iload_n hx hb dX8_wrong_7 rfl (lv_at hl 1 rfl) ?_
  refine lv_aload_n hx hb dX8_wrong_8 rfl (lv_at hl 0 rfl) ?_
  refine r_callV (Y := M_X8_lines) (v := some (.int q1.1)) X I w_2003 my_X8_lines (by omega) (t_X8_lines (G := G) (d := d + 5) h1) (b_X8_lines h1) rfl rfl hl.1 rfl (Nat.le_of_ble_eq_true rfl) hn le2 dX8_wrong_9 (fun H locs cells slots I hn1 hn2 => ?_)
  have I : s_I G q1.2 s H locs := I
  have hn : cells + σ0.2.1 ≤ q1.2.2.1 ∧ slots + σ0.2.2.1 ≤ q1.2.2.2.1 := ⟨hn1, hn2⟩
  rcases s_ite hf with ⟨c3, hf⟩ | ⟨c3, hf⟩
  · refine lv_icmp_ge (tgt := 31) hx hb dX8_wrong_12 (by decide) (fun _ => ?_) (fun n => absurd c3 n)
    cases hf
    have k : _ = r := k
    subst k
    refine lv_iconst (v := (-1)) hx hb dX8_wrong_31 (by decide) ?_
    exact r_iret X I rfl rfl rfl hn dX8_wrong_32
  · refine lv_icmp_ge (tgt := 31) hx hb dX8_wrong_12 (by decide) (fun n => absurd n c3) (fun _ => ?_)
    obtain ⟨q2, h4, hf⟩ := s_bind hf
    have le5 : s_le q2.2 (e_I r).2 := by
      refine s_lek hem_I ?_ k
      rcases s_ite hf with ⟨-, hf⟩ | ⟨-, hf⟩
      · cases hf
        exact s_le.rf
      · cases hf
        exact s_le.rf
    refine lv_aload_n hx hb dX8_wrong_15 rfl (lv_at hl 0 rfl) ?_
    refine lv_iload_n hx hb dX8_wrong_16 rfl (lv_at hl 1 rfl) ?_
    refine r_callV (Y := M_X8_isHonest) (v := some (.int q2.1)) X I w_2031 my_X8_isHonest (by omega) (t_X8_isHonest (G := G) (d := d + 0) h4) (b_X8_isHonest h4) rfl rfl hl.1 rfl (Nat.le_of_ble_eq_true rfl) hn le5 dX8_wrong_17 (fun H locs cells slots I hn1 hn2 => ?_)
    have I : s_I G q2.2 s H locs := I
    have hn : cells + σ0.2.1 ≤ q2.2.2.1 ∧ slots + σ0.2.2.1 ≤ q2.2.2.2.1 := ⟨hn1, hn2⟩
    rcases s_ite hf with ⟨c6, hf⟩ | ⟨c6, hf⟩
    · refine lv_if_ne (tgt := 25) hx hb dX8_wrong_20 (by decide) (fun n => absurd c6 n) (fun _ => ?_)
      cases hf
      have k : _ = r := k
      subst k
      refine lv_iload_n hx hb dX8_wrong_23 rfl (lv_at hl 1 rfl) ?_
      exact r_iret X I rfl rfl rfl hn dX8_wrong_24
    · refine lv_if_ne (tgt := 25) hx hb dX8_wrong_20 (by decide) (fun _ => ?_) (fun n => absurd n c6)
      cases hf
      have k : s_V G (d + 7) M_X8_wrong vs0 σ0 Y_X8_wrong (7, [.ref v0, .int (v1 + 1)], q2.2) (e_I r) := k
      refine lv_iinc (v := (v1 + 1)) (lv' := [(1, .int (v1 + 1)), (0, .ref v0)]) hx hb dX8_wrong_25 hl (k := 1) rfl rfl (by decide) rfl (fun ls hl => ?_)
      refine lv_goto (tgt := 7) hx hb dX8_wrong_28 (by decide) ?_
      exact k.2 p e s m below meth c _ _ _ _ _ X I hn.1 hn.2 (lv_sub hl [1, 0] rfl)
theorem v_X8_wrong {G : sG} {d : Nat} {vs0 : List Value} {σ0 : sS} {x : sL} {z : sZ Int32} {r : Int32 × sS} (hs : S_X8_wrong x = some z) (k : s_K G (d + 7) M_X8_wrong vs0 σ0 Y_X8_wrong e_I z r) : s_V G (d + 7) M_X8_wrong vs0 σ0 Y_X8_wrong x (e_I r) := by
  obtain ⟨pc, vs, σ⟩ := x
  unfold S_X8_wrong at hs
  dsimp only at hs
  rcases s_ite hs with ⟨c, hs⟩ | ⟨-, hs⟩
  · subst c
    unfold U_X8_wrong_0 at hs
    obtain ⟨a0, g0, hs⟩ := s_bind hs
    obtain ⟨u9, ge, hs⟩ := s_bind hs
    rw [g_r_to g0, g_e_to ge]
    exact v_X8_wrong_0 hs k
  rcases s_ite hs with ⟨c, hs⟩ | ⟨-, hs⟩
  · subst c
    unfold U_X8_wrong_7 at hs
    obtain ⟨a0, g0, hs⟩ := s_bind hs
    obtain ⟨a1, g1, hs⟩ := s_bind hs
    obtain ⟨u9, ge, hs⟩ := s_bind hs
    rw [g_r_to g0, g_i_to g1, g_e_to ge]
    exact v_X8_wrong_7 hs k
  cases hs
theorem t_X8_wrong {G : sG} {d : Nat} {v0 : Nat} {σ : sS} {q : Int32 × sS} (h : F_X8_wrong v0 σ = some q) : s_T G (d + 7) M_X8_wrong [.ref v0] σ (e_I q) := by
  unfold F_X8_wrong at h
  obtain ⟨-, -, h⟩ := s_bind h
  exact s_ofV rfl (by decide) (Nat.le_of_ble_eq_true rfl) rfl rfl (s_run_ind (V := fun x r => s_V G (d + 7) M_X8_wrong [.ref v0] σ Y_X8_wrong x (e_I r)) (fun x z r hs hk => v_X8_wrong hs (by cases z <;> exact hk)) h)
/-! X7_rests -/
noncomputable def T_X7_rests_0 (v0 : Nat) (v1 : Int32) (σ : sS) : Option (sZ (Int64 ⊕ String)) :=
  (F_X7_needLine v0 v1 σ).bind fun q1 => s_sum q1.1 (fun x2 => (s_fr q1.2 v0 7 1).bind fun x4 =>
  (s_fr q1.2 x4 1 7).bind fun x5 =>
  (s_al q1.2 x5 v1).bind fun x6 =>
  some (.inr (.inl x6, q1.2))) (fun E3 => some (.inr (.inr E3, q1.2)))
noncomputable def U_X7_rests_0 (vs : List Value) (σ : sS) : Option (sZ (Int64 ⊕ String)) := (g_r vs).bind fun a0 => (g_i a0.2).bind fun a1 => (g_e a1.2).bind fun _ => T_X7_rests_0 a0.1 a1.1 σ
noncomputable def S_X7_rests (x : sL) : Option (sZ (Int64 ⊕ String)) := if x.1 = 0 then U_X7_rests_0 x.2.1 x.2.2 else none
def Y_X7_rests (pc : Nat) : List Nat := if pc = 0 then [0, 1] else []
noncomputable def F_X7_rests (v0 : Nat) (v1 : Int32) (σ : sS) : Option ((Int64 ⊕ String) × sS) := (s_is σ v0 7).bind fun _ => s_run S_X7_rests (0, [.ref v0, .int v1], σ)
theorem l_X7_rests_0 {v0 : Nat} {v1 : Int32} {σ : sS} {z : sZ (Int64 ⊕ String)} (hf : T_X7_rests_0 v0 v1 σ = some z) : s_lz σ z := by
  unfold T_X7_rests_0 at hf
  obtain ⟨q1, hh, hf⟩ := s_bind hf
  refine s_lz.tr (l_X7_needLine hh) ?_
  rcases s_sum_some hf with ⟨x2, -, hf⟩ | ⟨E3, -, hf⟩
  · obtain ⟨x4, -, hf⟩ := s_bind hf
    obtain ⟨x5, -, hf⟩ := s_bind hf
    obtain ⟨x6, -, hf⟩ := s_bind hf
    cases hf
    exact s_le.rf
  · cases hf
    exact s_le.rf
theorem l_X7_rests_s {x : sL} {z : sZ (Int64 ⊕ String)} (hs : S_X7_rests x = some z) : s_lz x.2.2 z := by
  obtain ⟨pc, vs, σ⟩ := x
  unfold S_X7_rests at hs
  dsimp only at hs ⊢
  rcases s_ite hs with ⟨c, hs⟩ | ⟨-, hs⟩
  · subst c
    unfold U_X7_rests_0 at hs
    obtain ⟨a0, g0, hs⟩ := s_bind hs
    obtain ⟨a1, g1, hs⟩ := s_bind hs
    obtain ⟨u9, ge, hs⟩ := s_bind hs
    exact l_X7_rests_0 hs
  cases hs
theorem l_X7_rests {v0 : Nat} {v1 : Int32} {σ : sS} {q : (Int64 ⊕ String) × sS} (h : F_X7_rests v0 v1 σ = some q) : s_le σ q.2 := by
  unfold F_X7_rests at h
  obtain ⟨-, -, h⟩ := s_bind h
  exact s_run_ind (V := fun x r => s_le x.2.2 r.2) (fun x z r hs hk => by
    have h9 := l_X7_rests_s hs
    cases z with
    | inl y => exact s_le.tr h9 hk
    | inr q => cases hk; exact h9) h
theorem b_X7_rests {v0 : Nat} {v1 : Int32} {σ : sS} {q : (Int64 ⊕ String) × sS} (h : F_X7_rests v0 v1 σ = some q) : ∃ fs, σ.1 v0 = some (.inr (7, fs)) := by
  unfold F_X7_rests at h
  obtain ⟨u, hu, -⟩ := s_bind h
  exact s_is_to hu
set_option maxRecDepth 100000 in
set_option maxHeartbeats 4000000 in
theorem v_X7_rests_0 {G : sG} {d : Nat} {vs0 : List Value} {σ0 : sS} {v0 : Nat} {v1 : Int32} {σ : sS} {z : sZ (Int64 ⊕ String)} {r : (Int64 ⊕ String) × sS} (hf : T_X7_rests_0 v0 v1 σ = some z) (k : s_K G (d + 2) M_X7_rests vs0 σ0 Y_X7_rests e_JX z r) : s_V G (d + 2) M_X7_rests vs0 σ0 Y_X7_rests (0, [.ref v0, .int v1], σ) (e_JX r) := by
  have le0 : s_le σ (e_JX r).2 := s_lek hem_JX (l_X7_rests_0 hf) k
  refine ⟨le0, ?_⟩
  intro p e s m below meth c H locs cells slots ls X I hn1 hn2 hl
  have hn : cells + σ0.2.1 ≤ σ.2.1 ∧ slots + σ0.2.2.1 ≤ σ.2.2.1 := ⟨hn1, hn2⟩
  have hl : lv_has ls 2 [(0, .ref v0), (1, .int v1)] := hl
  have hx := X.1
  have hb : c.code = cX7_rests := X.2.1
  have hown : s.vm.findClass RX7 = some m.cls := X.2.2.2.2.2.1
  have hts := X.2.2.2.2.2.2.1
  refine W.eq (g2 := F0 m 0 ls []) rfl ?_
  unfold T_X7_rests_0 at hf
  obtain ⟨q1, h1, hf⟩ := s_bind hf
  refine lv_aload_n hx hb dX7_rests_0 rfl (lv_at hl 0 rfl) ?_
  refine lv_iload_n hx hb dX7_rests_1 rfl (lv_at hl 1 rfl) ?_
  rcases s_sum_some hf with ⟨x2, hq2, hf⟩ | ⟨E3, hq2, hf⟩
  · have le3 : s_le q1.2 (e_JX r).2 := by
      refine s_lek hem_JX ?_ k
      obtain ⟨x4, -, hf⟩ := s_bind hf
      obtain ⟨x5, -, hf⟩ := s_bind hf
      obtain ⟨x6, -, hf⟩ := s_bind hf
      cases hf
      exact s_le.rf
    refine r_callV (Y := M_X7_needLine) (v := none) X I w_1138 my_X7_needLine (by omega) (t_X7_needLine (G := G) (d := d + 0) h1) (b_X7_needLine h1) (e_VX_l hq2) rfl hl.1 rfl (Nat.le_of_ble_eq_true rfl) hn le3 dX7_rests_2 (fun H locs cells slots I hn1 hn2 => ?_)
    have I : s_I G q1.2 s H locs := I
    have hn : cells + σ0.2.1 ≤ q1.2.2.1 ∧ slots + σ0.2.2.1 ≤ q1.2.2.2.1 := ⟨hn1, hn2⟩
    obtain ⟨x4, h4, hf⟩ := s_bind hf
    obtain ⟨x5, h5, hf⟩ := s_bind hf
    obtain ⟨x6, h6, hf⟩ := s_bind hf
    cases hf
    have k : _ = r := k
    subst k
    refine lv_aload_n hx hb dX7_rests_5 rfl (lv_at hl 0 rfl) ?_
    refine r_gr X I fl_X7_19 h4 dX7_rests_6 ?_
    refine r_gr X I fl_X7_219 h5 dX7_rests_9 ?_
    refine lv_iload_n hx hb dX7_rests_12 rfl (lv_at hl 1 rfl) ?_
    refine r_lald X I h6 dX7_rests_13 ?_
    exact r_lret X I rfl rfl hn dX7_rests_14
  · cases hf
    have k : _ = r := k
    subst k
    exact r_callVx (Y := M_X7_needLine) X I rfl w_1138 my_X7_needLine (by omega) (t_X7_needLine (G := G) (d := d + 0) h1) (b_X7_needLine h1) (e_VX_r hq2) rfl hl.1 rfl (Nat.le_of_ble_eq_true rfl) hn rfl dX7_rests_2
theorem v_X7_rests {G : sG} {d : Nat} {vs0 : List Value} {σ0 : sS} {x : sL} {z : sZ (Int64 ⊕ String)} {r : (Int64 ⊕ String) × sS} (hs : S_X7_rests x = some z) (k : s_K G (d + 2) M_X7_rests vs0 σ0 Y_X7_rests e_JX z r) : s_V G (d + 2) M_X7_rests vs0 σ0 Y_X7_rests x (e_JX r) := by
  obtain ⟨pc, vs, σ⟩ := x
  unfold S_X7_rests at hs
  dsimp only at hs
  rcases s_ite hs with ⟨c, hs⟩ | ⟨-, hs⟩
  · subst c
    unfold U_X7_rests_0 at hs
    obtain ⟨a0, g0, hs⟩ := s_bind hs
    obtain ⟨a1, g1, hs⟩ := s_bind hs
    obtain ⟨u9, ge, hs⟩ := s_bind hs
    rw [g_r_to g0, g_i_to g1, g_e_to ge]
    exact v_X7_rests_0 hs k
  cases hs
theorem t_X7_rests {G : sG} {d : Nat} {v0 : Nat} {v1 : Int32} {σ : sS} {q : (Int64 ⊕ String) × sS} (h : F_X7_rests v0 v1 σ = some q) : s_T G (d + 2) M_X7_rests [.ref v0, .int v1] σ (e_JX q) := by
  unfold F_X7_rests at h
  obtain ⟨-, -, h⟩ := s_bind h
  exact s_ofV rfl (by decide) (Nat.le_of_ble_eq_true rfl) rfl rfl (s_run_ind (V := fun x r => s_V G (d + 2) M_X7_rests [.ref v0, .int v1] σ Y_X7_rests x (e_JX r)) (fun x z r hs hk => v_X7_rests hs (by cases z <;> exact hk)) h)
/-! L_rests -/
noncomputable def T_L_rests_0 (v0 : Nat) (v1 : Int32) (v2 : Nat) (σ : sS) : Option (sZ Int32) :=
  (F_X7_rests v0 v1 σ).bind fun q1 => s_sum q1.1 (fun x2 => (s_sl q1.2 v2 0 x2).bind fun σ4 =>
  some (.inr (0, σ4))) (fun E3 => if E3 = "java/lang/IndexOutOfBoundsException" then (some (.inr (1, q1.2))) else none)
noncomputable def U_L_rests_0 (vs : List Value) (σ : sS) : Option (sZ Int32) := (g_r vs).bind fun a0 => (g_i a0.2).bind fun a1 => (g_r a1.2).bind fun a2 => (g_e a2.2).bind fun _ => T_L_rests_0 a0.1 a1.1 a2.1 σ
noncomputable def S_L_rests (x : sL) : Option (sZ Int32) := if x.1 = 0 then U_L_rests_0 x.2.1 x.2.2 else none
def Y_L_rests (pc : Nat) : List Nat := if pc = 0 then [0, 1, 2] else []
noncomputable def F_L_rests (v0 : Nat) (v1 : Int32) (v2 : Nat) (σ : sS) : Option (Int32 × sS) := s_run S_L_rests (0, [.ref v0, .int v1, .ref v2], σ)
theorem l_L_rests_0 {v0 : Nat} {v1 : Int32} {v2 : Nat} {σ : sS} {z : sZ Int32} (hf : T_L_rests_0 v0 v1 v2 σ = some z) : s_lz σ z := by
  unfold T_L_rests_0 at hf
  obtain ⟨q1, hh, hf⟩ := s_bind hf
  refine s_lz.tr (l_X7_rests hh) ?_
  rcases s_sum_some hf with ⟨x2, -, hf⟩ | ⟨E3, -, hf⟩
  · obtain ⟨σ4, hh, hf⟩ := s_bind hf
    refine s_lz.tr (s_le2 (s_sl_2 hh)) ?_
    cases hf
    exact s_le.rf
  · rcases s_ite hf with ⟨-, hf⟩ | ⟨-, hf⟩
    · cases hf
      exact s_le.rf
    cases hf
theorem l_L_rests_s {x : sL} {z : sZ Int32} (hs : S_L_rests x = some z) : s_lz x.2.2 z := by
  obtain ⟨pc, vs, σ⟩ := x
  unfold S_L_rests at hs
  dsimp only at hs ⊢
  rcases s_ite hs with ⟨c, hs⟩ | ⟨-, hs⟩
  · subst c
    unfold U_L_rests_0 at hs
    obtain ⟨a0, g0, hs⟩ := s_bind hs
    obtain ⟨a1, g1, hs⟩ := s_bind hs
    obtain ⟨a2, g2, hs⟩ := s_bind hs
    obtain ⟨u9, ge, hs⟩ := s_bind hs
    exact l_L_rests_0 hs
  cases hs
theorem l_L_rests {v0 : Nat} {v1 : Int32} {v2 : Nat} {σ : sS} {q : Int32 × sS} (h : F_L_rests v0 v1 v2 σ = some q) : s_le σ q.2 := by
  unfold F_L_rests at h
  exact s_run_ind (V := fun x r => s_le x.2.2 r.2) (fun x z r hs hk => by
    have h9 := l_L_rests_s hs
    cases z with
    | inl y => exact s_le.tr h9 hk
    | inr q => cases hk; exact h9) h
set_option maxRecDepth 100000 in
set_option maxHeartbeats 4000000 in
theorem v_L_rests_0 {G : sG} {d : Nat} {vs0 : List Value} {σ0 : sS} {v0 : Nat} {v1 : Int32} {v2 : Nat} {σ : sS} {z : sZ Int32} {r : Int32 × sS} (hf : T_L_rests_0 v0 v1 v2 σ = some z) (k : s_K G (d + 3) M_L_rests vs0 σ0 Y_L_rests e_I z r) : s_V G (d + 3) M_L_rests vs0 σ0 Y_L_rests (0, [.ref v0, .int v1, .ref v2], σ) (e_I r) := by
  have le0 : s_le σ (e_I r).2 := s_lek hem_I (l_L_rests_0 hf) k
  refine ⟨le0, ?_⟩
  intro p e s m below meth c H locs cells slots ls X I hn1 hn2 hl
  have hn : cells + σ0.2.1 ≤ σ.2.1 ∧ slots + σ0.2.2.1 ≤ σ.2.2.1 := ⟨hn1, hn2⟩
  have hl : lv_has ls 4 [(0, .ref v0), (1, .int v1), (2, .ref v2)] := hl
  have hx := X.1
  have hb : c.code = cL_rests := X.2.1
  have hown : s.vm.findClass RL = some m.cls := X.2.2.2.2.2.1
  have hts := X.2.2.2.2.2.2.1
  refine W.eq (g2 := F0 m 0 ls []) rfl ?_
  unfold T_L_rests_0 at hf
  obtain ⟨q1, h1, hf⟩ := s_bind hf
  refine lv_aload_n hx hb dL_rests_0 rfl (lv_at hl 2 rfl) ?_
  refine lv_iconst (v := 0) hx hb dL_rests_1 (by decide) ?_
  refine lv_aload_n hx hb dL_rests_2 rfl (lv_at hl 0 rfl) ?_
  refine lv_iload_n hx hb dL_rests_3 rfl (lv_at hl 1 rfl) ?_
  rcases s_sum_some hf with ⟨x2, hq2, hf⟩ | ⟨E3, hq2, hf⟩
  · have le3 : s_le q1.2 (e_I r).2 := by
      refine s_lek hem_I ?_ k
      obtain ⟨σ4, hh, hf⟩ := s_bind hf
      refine s_lz.tr (s_le2 (s_sl_2 hh)) ?_
      cases hf
      exact s_le.rf
    refine r_callV (Y := M_X7_rests) (v := some (.long x2)) X I w_1203 my_X7_rests (by omega) (t_X7_rests (G := G) (d := d + 0) h1) (b_X7_rests h1) (e_JX_l hq2) rfl hl.1 rfl (Nat.le_of_ble_eq_true rfl) hn le3 dL_rests_4 (fun H locs cells slots I hn1 hn2 => ?_)
    have I : s_I G q1.2 s H locs := I
    have hn : cells + σ0.2.1 ≤ q1.2.2.1 ∧ slots + σ0.2.2.1 ≤ q1.2.2.2.1 := ⟨hn1, hn2⟩
    obtain ⟨σ4, h4, hf⟩ := s_bind hf
    cases hf
    have k : _ = r := k
    subst k
    have le5 : s_le σ4 σ4 := s_le.rf
    refine r_last X I h4 dL_rests_7 (fun H locs I => ?_)
    have hn := s_k2 (s_sl_2 h4) hn
    refine lv_goto (tgt := 14) hx hb dL_rests_8 (by decide) ?_
    refine lv_iconst (v := 0) hx hb dL_rests_14 (by decide) ?_
    exact r_iret X I rfl rfl rfl hn dL_rests_15
  · rcases s_ite hf with ⟨c6, hf⟩ | ⟨c6, hf⟩
    · subst c6
      have le7 : s_le q1.2 (e_I r).2 := by
        refine s_lek hem_I ?_ k
        cases hf
        exact s_le.rf
      refine r_callVh (x := (0, 8, 11, 27)) (Y := M_X7_rests) (E := "java/lang/IndexOutOfBoundsException") (name := "java/lang/IndexOutOfBoundsException") X I [] [] rfl (fun z hz => by cases hz) rfl (by decide) w_1011 (by decide +kernel) w_1203 my_X7_rests (by omega) (t_X7_rests (G := G) (d := d + 0) h1) (b_X7_rests h1) (e_JX_r hq2) rfl hl.1 rfl (Nat.le_of_ble_eq_true rfl) hn le7 dL_rests_4 (fun a5 H locs cells slots I hn1 hn2 => ?_)
      have I : s_I G q1.2 s H locs := I
      have hn : cells + σ0.2.1 ≤ q1.2.2.1 ∧ slots + σ0.2.2.1 ≤ q1.2.2.2.1 := ⟨hn1, hn2⟩
      cases hf
      have k : _ = r := k
      subst k
      refine lv_astore_n (lv' := [(3, .ref a5), (0, .ref v0), (1, .int v1), (2, .ref v2)]) hx hb dL_rests_11 rfl hl (by decide) rfl (fun ls hl => ?_)
      refine lv_iconst (v := 1) hx hb dL_rests_12 (by decide) ?_
      exact r_iret X I rfl rfl rfl hn dL_rests_13
    cases hf
theorem v_L_rests {G : sG} {d : Nat} {vs0 : List Value} {σ0 : sS} {x : sL} {z : sZ Int32} {r : Int32 × sS} (hs : S_L_rests x = some z) (k : s_K G (d + 3) M_L_rests vs0 σ0 Y_L_rests e_I z r) : s_V G (d + 3) M_L_rests vs0 σ0 Y_L_rests x (e_I r) := by
  obtain ⟨pc, vs, σ⟩ := x
  unfold S_L_rests at hs
  dsimp only at hs
  rcases s_ite hs with ⟨c, hs⟩ | ⟨-, hs⟩
  · subst c
    unfold U_L_rests_0 at hs
    obtain ⟨a0, g0, hs⟩ := s_bind hs
    obtain ⟨a1, g1, hs⟩ := s_bind hs
    obtain ⟨a2, g2, hs⟩ := s_bind hs
    obtain ⟨u9, ge, hs⟩ := s_bind hs
    rw [g_r_to g0, g_i_to g1, g_r_to g2, g_e_to ge]
    exact v_L_rests_0 hs k
  cases hs
theorem t_L_rests {G : sG} {d : Nat} {v0 : Nat} {v1 : Int32} {v2 : Nat} {σ : sS} {q : Int32 × sS} (h : F_L_rests v0 v1 v2 σ = some q) : s_T G (d + 3) M_L_rests [.ref v0, .int v1, .ref v2] σ (e_I q) := by
  unfold F_L_rests at h
  exact s_ofVH rfl (by decide) (Nat.le_of_ble_eq_true rfl) rfl rfl (s_run_ind (V := fun x r => s_V G (d + 3) M_L_rests [.ref v0, .int v1, .ref v2] σ Y_L_rests x (e_I r)) (fun x z r hs hk => v_L_rests hs (by cases z <;> exact hk)) h)
/-! X8_rests -/
noncomputable def T_X8_rests_0 (v0 : Nat) (v1 : Int32) (σ : sS) : Option (sZ Int64) :=
  (s_pf σ v0 8 0 (.int 0)).bind fun σ1 =>
  (F_X8_noLine v0 v1 σ1).bind fun q2 =>
  (F_X8_throwsIf v0 q2.1 1 q2.2).bind fun q3 =>
  if q3.1 = 0 then ((F_X8_goesThrough v0 q3.2).bind fun q4 =>
  (s_fr q4.2 v0 8 18).bind fun x5 =>
  (s_al q4.2 x5 v1).bind fun x6 =>
  some (.inr (x6, q4.2)))
  else (some (.inr (0, q3.2)))
noncomputable def U_X8_rests_0 (vs : List Value) (σ : sS) : Option (sZ Int64) := (g_r vs).bind fun a0 => (g_i a0.2).bind fun a1 => (g_e a1.2).bind fun _ => T_X8_rests_0 a0.1 a1.1 σ
noncomputable def S_X8_rests (x : sL) : Option (sZ Int64) := if x.1 = 0 then U_X8_rests_0 x.2.1 x.2.2 else none
def Y_X8_rests (pc : Nat) : List Nat := if pc = 0 then [0, 1] else []
noncomputable def F_X8_rests (v0 : Nat) (v1 : Int32) (σ : sS) : Option (Int64 × sS) := (s_is σ v0 8).bind fun _ => s_run S_X8_rests (0, [.ref v0, .int v1], σ)
theorem l_X8_rests_0 {v0 : Nat} {v1 : Int32} {σ : sS} {z : sZ Int64} (hf : T_X8_rests_0 v0 v1 σ = some z) : s_lz σ z := by
  unfold T_X8_rests_0 at hf
  obtain ⟨σ1, hh, hf⟩ := s_bind hf
  refine s_lz.tr (s_le2 (s_pf_2 hh)) ?_
  obtain ⟨q2, hh, hf⟩ := s_bind hf
  refine s_lz.tr (l_X8_noLine hh) ?_
  obtain ⟨q3, hh, hf⟩ := s_bind hf
  refine s_lz.tr (l_X8_throwsIf hh) ?_
  rcases s_ite hf with ⟨-, hf⟩ | ⟨-, hf⟩
  · obtain ⟨q4, hh, hf⟩ := s_bind hf
    refine s_lz.tr (l_X8_goesThrough hh) ?_
    obtain ⟨x5, -, hf⟩ := s_bind hf
    obtain ⟨x6, -, hf⟩ := s_bind hf
    cases hf
    exact s_le.rf
  · cases hf
    exact s_le.rf
theorem l_X8_rests_s {x : sL} {z : sZ Int64} (hs : S_X8_rests x = some z) : s_lz x.2.2 z := by
  obtain ⟨pc, vs, σ⟩ := x
  unfold S_X8_rests at hs
  dsimp only at hs ⊢
  rcases s_ite hs with ⟨c, hs⟩ | ⟨-, hs⟩
  · subst c
    unfold U_X8_rests_0 at hs
    obtain ⟨a0, g0, hs⟩ := s_bind hs
    obtain ⟨a1, g1, hs⟩ := s_bind hs
    obtain ⟨u9, ge, hs⟩ := s_bind hs
    exact l_X8_rests_0 hs
  cases hs
theorem l_X8_rests {v0 : Nat} {v1 : Int32} {σ : sS} {q : Int64 × sS} (h : F_X8_rests v0 v1 σ = some q) : s_le σ q.2 := by
  unfold F_X8_rests at h
  obtain ⟨-, -, h⟩ := s_bind h
  exact s_run_ind (V := fun x r => s_le x.2.2 r.2) (fun x z r hs hk => by
    have h9 := l_X8_rests_s hs
    cases z with
    | inl y => exact s_le.tr h9 hk
    | inr q => cases hk; exact h9) h
theorem b_X8_rests {v0 : Nat} {v1 : Int32} {σ : sS} {q : Int64 × sS} (h : F_X8_rests v0 v1 σ = some q) : ∃ fs, σ.1 v0 = some (.inr (8, fs)) := by
  unfold F_X8_rests at h
  obtain ⟨u, hu, -⟩ := s_bind h
  exact s_is_to hu
set_option maxRecDepth 100000 in
set_option maxHeartbeats 4000000 in
theorem v_X8_rests_0 {G : sG} {d : Nat} {vs0 : List Value} {σ0 : sS} {v0 : Nat} {v1 : Int32} {σ : sS} {z : sZ Int64} {r : Int64 × sS} (hf : T_X8_rests_0 v0 v1 σ = some z) (k : s_K G (d + 8) M_X8_rests vs0 σ0 Y_X8_rests e_J z r) : s_V G (d + 8) M_X8_rests vs0 σ0 Y_X8_rests (0, [.ref v0, .int v1], σ) (e_J r) := by
  have le0 : s_le σ (e_J r).2 := s_lek hem_J (l_X8_rests_0 hf) k
  refine ⟨le0, ?_⟩
  intro p e s m below meth c H locs cells slots ls X I hn1 hn2 hl
  have hn : cells + σ0.2.1 ≤ σ.2.1 ∧ slots + σ0.2.2.1 ≤ σ.2.2.1 := ⟨hn1, hn2⟩
  have hl : lv_has ls 2 [(0, .ref v0), (1, .int v1)] := hl
  have hx := X.1
  have hb : c.code = cX8_rests := X.2.1
  have hown : s.vm.findClass RX8 = some m.cls := X.2.2.2.2.2.1
  have hts := X.2.2.2.2.2.2.1
  refine W.eq (g2 := F0 m 0 ls []) rfl ?_
  unfold T_X8_rests_0 at hf
  obtain ⟨σ1, h1, hf⟩ := s_bind hf
  obtain ⟨q2, h2, hf⟩ := s_bind hf
  obtain ⟨q3, h3, hf⟩ := s_bind hf
  have le4 : s_le q3.2 (e_J r).2 := by
    refine s_lek hem_J ?_ k
    rcases s_ite hf with ⟨-, hf⟩ | ⟨-, hf⟩
    · obtain ⟨q4, hh, hf⟩ := s_bind hf
      refine s_lz.tr (l_X8_goesThrough hh) ?_
      obtain ⟨x5, -, hf⟩ := s_bind hf
      obtain ⟨x6, -, hf⟩ := s_bind hf
      cases hf
      exact s_le.rf
    · cases hf
      exact s_le.rf
  have le5 := s_le.tr (l_X8_throwsIf h3) le4
  have le6 := s_le.tr (l_X8_noLine h2) le5
  refine lv_aload_n hx hb dX8_rests_0 rfl (lv_at hl 0 rfl) ?_
  refine lv_iconst (v := 0) hx hb dX8_rests_1 (by decide) ?_
  refine r_put X I fp_X8_3 (fun h => by cases h) h1 rfl rfl dX8_rests_2 (fun H locs I => ?_)
  have hn := s_k2 (s_pf_2 h1) hn
  refine lv_aload_n hx hb dX8_rests_5 rfl (lv_at hl 0 rfl) ?_
  refine lv_aload_n hx hb dX8_rests_6 rfl (lv_at hl 0 rfl) ?_
  refine lv_iload_n hx hb dX8_rests_7 rfl (lv_at hl 1 rfl) ?_
  refine r_callV (Y := M_X8_noLine) (v := some (.int q2.1)) X I w_1999 my_X8_noLine (by omega) (t_X8_noLine (G := G) (d := d + 5) h2) (b_X8_noLine h2) rfl rfl hl.1 rfl (Nat.le_of_ble_eq_true rfl) hn le5 dX8_rests_8 (fun H locs cells slots I hn1 hn2 => ?_)
  have I : s_I G q2.2 s H locs := I
  have hn : cells + σ0.2.1 ≤ q2.2.2.1 ∧ slots + σ0.2.2.1 ≤ q2.2.2.2.1 := ⟨hn1, hn2⟩
  refine lv_iconst (v := 1) hx hb dX8_rests_11 (by decide) ?_
  refine r_callV (Y := M_X8_throwsIf) (v := some (.int q3.1)) X I w_1897 my_X8_throwsIf (by omega) (t_X8_throwsIf (G := G) (d := d + 6) h3) (b_X8_throwsIf h3) rfl rfl hl.1 rfl (Nat.le_of_ble_eq_true rfl) hn le4 dX8_rests_12 (fun H locs cells slots I hn1 hn2 => ?_)
  have I : s_I G q3.2 s H locs := I
  have hn : cells + σ0.2.1 ≤ q3.2.2.1 ∧ slots + σ0.2.2.1 ≤ q3.2.2.2.1 := ⟨hn1, hn2⟩
  rcases s_ite hf with ⟨c7, hf⟩ | ⟨c7, hf⟩
  · refine lv_if_eq (tgt := 20) hx hb dX8_rests_15 (by decide) (fun _ => ?_) (fun n => absurd c7 n)
    obtain ⟨q4, h8, hf⟩ := s_bind hf
    obtain ⟨x5, h9, hf⟩ := s_bind hf
    obtain ⟨x6, h10, hf⟩ := s_bind hf
    cases hf
    have k : _ = r := k
    subst k
    have le11 : s_le q4.2 q4.2 := s_le.rf
    refine lv_aload_n hx hb dX8_rests_20 rfl (lv_at hl 0 rfl) ?_
    refine r_callV (Y := M_X8_goesThrough) (v := none) X I w_2027 my_X8_goesThrough (by omega) (t_X8_goesThrough (G := G) (d := d + 0) h8) (b_X8_goesThrough h8) rfl rfl hl.1 rfl (Nat.le_of_ble_eq_true rfl) hn le11 dX8_rests_21 (fun H locs cells slots I hn1 hn2 => ?_)
    have I : s_I G q4.2 s H locs := I
    have hn : cells + σ0.2.1 ≤ q4.2.2.1 ∧ slots + σ0.2.2.1 ≤ q4.2.2.2.1 := ⟨hn1, hn2⟩
    refine lv_aload_n hx hb dX8_rests_24 rfl (lv_at hl 0 rfl) ?_
    refine r_gr X I fl_X8_43 h9 dX8_rests_25 ?_
    refine lv_iload_n hx hb dX8_rests_28 rfl (lv_at hl 1 rfl) ?_
    refine r_lald X I h10 dX8_rests_29 ?_
    exact r_lret X I rfl rfl hn dX8_rests_30
  · refine lv_if_eq (tgt := 20) hx hb dX8_rests_15 (by decide) (fun n => absurd n c7) (fun _ => ?_)
    cases hf
    have k : _ = r := k
    subst k
    refine lv_lconst (v := 0) hx hb dX8_rests_18 (by decide) ?_
    exact r_lret X I rfl rfl hn dX8_rests_19
theorem v_X8_rests {G : sG} {d : Nat} {vs0 : List Value} {σ0 : sS} {x : sL} {z : sZ Int64} {r : Int64 × sS} (hs : S_X8_rests x = some z) (k : s_K G (d + 8) M_X8_rests vs0 σ0 Y_X8_rests e_J z r) : s_V G (d + 8) M_X8_rests vs0 σ0 Y_X8_rests x (e_J r) := by
  obtain ⟨pc, vs, σ⟩ := x
  unfold S_X8_rests at hs
  dsimp only at hs
  rcases s_ite hs with ⟨c, hs⟩ | ⟨-, hs⟩
  · subst c
    unfold U_X8_rests_0 at hs
    obtain ⟨a0, g0, hs⟩ := s_bind hs
    obtain ⟨a1, g1, hs⟩ := s_bind hs
    obtain ⟨u9, ge, hs⟩ := s_bind hs
    rw [g_r_to g0, g_i_to g1, g_e_to ge]
    exact v_X8_rests_0 hs k
  cases hs
theorem t_X8_rests {G : sG} {d : Nat} {v0 : Nat} {v1 : Int32} {σ : sS} {q : Int64 × sS} (h : F_X8_rests v0 v1 σ = some q) : s_T G (d + 8) M_X8_rests [.ref v0, .int v1] σ (e_J q) := by
  unfold F_X8_rests at h
  obtain ⟨-, -, h⟩ := s_bind h
  exact s_ofV rfl (by decide) (Nat.le_of_ble_eq_true rfl) rfl rfl (s_run_ind (V := fun x r => s_V G (d + 8) M_X8_rests [.ref v0, .int v1] σ Y_X8_rests x (e_J r)) (fun x z r hs hk => v_X8_rests hs (by cases z <;> exact hk)) h)
/-! X7_needs -/
noncomputable def T_X7_needs_0 (v0 : Nat) (v1 : Int32) (σ : sS) : Option (sZ (Int64 ⊕ String)) :=
  (F_X7_needLine v0 v1 σ).bind fun q1 => s_sum q1.1 (fun x2 => (s_fr q1.2 v0 7 1).bind fun x4 =>
  (s_fr q1.2 x4 1 8).bind fun x5 =>
  (s_al q1.2 x5 v1).bind fun x6 =>
  some (.inr (.inl x6, q1.2))) (fun E3 => some (.inr (.inr E3, q1.2)))
noncomputable def U_X7_needs_0 (vs : List Value) (σ : sS) : Option (sZ (Int64 ⊕ String)) := (g_r vs).bind fun a0 => (g_i a0.2).bind fun a1 => (g_e a1.2).bind fun _ => T_X7_needs_0 a0.1 a1.1 σ
noncomputable def S_X7_needs (x : sL) : Option (sZ (Int64 ⊕ String)) := if x.1 = 0 then U_X7_needs_0 x.2.1 x.2.2 else none
def Y_X7_needs (pc : Nat) : List Nat := if pc = 0 then [0, 1] else []
noncomputable def F_X7_needs (v0 : Nat) (v1 : Int32) (σ : sS) : Option ((Int64 ⊕ String) × sS) := (s_is σ v0 7).bind fun _ => s_run S_X7_needs (0, [.ref v0, .int v1], σ)
theorem l_X7_needs_0 {v0 : Nat} {v1 : Int32} {σ : sS} {z : sZ (Int64 ⊕ String)} (hf : T_X7_needs_0 v0 v1 σ = some z) : s_lz σ z := by
  unfold T_X7_needs_0 at hf
  obtain ⟨q1, hh, hf⟩ := s_bind hf
  refine s_lz.tr (l_X7_needLine hh) ?_
  rcases s_sum_some hf with ⟨x2, -, hf⟩ | ⟨E3, -, hf⟩
  · obtain ⟨x4, -, hf⟩ := s_bind hf
    obtain ⟨x5, -, hf⟩ := s_bind hf
    obtain ⟨x6, -, hf⟩ := s_bind hf
    cases hf
    exact s_le.rf
  · cases hf
    exact s_le.rf
theorem l_X7_needs_s {x : sL} {z : sZ (Int64 ⊕ String)} (hs : S_X7_needs x = some z) : s_lz x.2.2 z := by
  obtain ⟨pc, vs, σ⟩ := x
  unfold S_X7_needs at hs
  dsimp only at hs ⊢
  rcases s_ite hs with ⟨c, hs⟩ | ⟨-, hs⟩
  · subst c
    unfold U_X7_needs_0 at hs
    obtain ⟨a0, g0, hs⟩ := s_bind hs
    obtain ⟨a1, g1, hs⟩ := s_bind hs
    obtain ⟨u9, ge, hs⟩ := s_bind hs
    exact l_X7_needs_0 hs
  cases hs
theorem l_X7_needs {v0 : Nat} {v1 : Int32} {σ : sS} {q : (Int64 ⊕ String) × sS} (h : F_X7_needs v0 v1 σ = some q) : s_le σ q.2 := by
  unfold F_X7_needs at h
  obtain ⟨-, -, h⟩ := s_bind h
  exact s_run_ind (V := fun x r => s_le x.2.2 r.2) (fun x z r hs hk => by
    have h9 := l_X7_needs_s hs
    cases z with
    | inl y => exact s_le.tr h9 hk
    | inr q => cases hk; exact h9) h
theorem b_X7_needs {v0 : Nat} {v1 : Int32} {σ : sS} {q : (Int64 ⊕ String) × sS} (h : F_X7_needs v0 v1 σ = some q) : ∃ fs, σ.1 v0 = some (.inr (7, fs)) := by
  unfold F_X7_needs at h
  obtain ⟨u, hu, -⟩ := s_bind h
  exact s_is_to hu
set_option maxRecDepth 100000 in
set_option maxHeartbeats 4000000 in
theorem v_X7_needs_0 {G : sG} {d : Nat} {vs0 : List Value} {σ0 : sS} {v0 : Nat} {v1 : Int32} {σ : sS} {z : sZ (Int64 ⊕ String)} {r : (Int64 ⊕ String) × sS} (hf : T_X7_needs_0 v0 v1 σ = some z) (k : s_K G (d + 2) M_X7_needs vs0 σ0 Y_X7_needs e_JX z r) : s_V G (d + 2) M_X7_needs vs0 σ0 Y_X7_needs (0, [.ref v0, .int v1], σ) (e_JX r) := by
  have le0 : s_le σ (e_JX r).2 := s_lek hem_JX (l_X7_needs_0 hf) k
  refine ⟨le0, ?_⟩
  intro p e s m below meth c H locs cells slots ls X I hn1 hn2 hl
  have hn : cells + σ0.2.1 ≤ σ.2.1 ∧ slots + σ0.2.2.1 ≤ σ.2.2.1 := ⟨hn1, hn2⟩
  have hl : lv_has ls 2 [(0, .ref v0), (1, .int v1)] := hl
  have hx := X.1
  have hb : c.code = cX7_needs := X.2.1
  have hown : s.vm.findClass RX7 = some m.cls := X.2.2.2.2.2.1
  have hts := X.2.2.2.2.2.2.1
  refine W.eq (g2 := F0 m 0 ls []) rfl ?_
  unfold T_X7_needs_0 at hf
  obtain ⟨q1, h1, hf⟩ := s_bind hf
  refine lv_aload_n hx hb dX7_needs_0 rfl (lv_at hl 0 rfl) ?_
  refine lv_iload_n hx hb dX7_needs_1 rfl (lv_at hl 1 rfl) ?_
  rcases s_sum_some hf with ⟨x2, hq2, hf⟩ | ⟨E3, hq2, hf⟩
  · have le3 : s_le q1.2 (e_JX r).2 := by
      refine s_lek hem_JX ?_ k
      obtain ⟨x4, -, hf⟩ := s_bind hf
      obtain ⟨x5, -, hf⟩ := s_bind hf
      obtain ⟨x6, -, hf⟩ := s_bind hf
      cases hf
      exact s_le.rf
    refine r_callV (Y := M_X7_needLine) (v := none) X I w_1138 my_X7_needLine (by omega) (t_X7_needLine (G := G) (d := d + 0) h1) (b_X7_needLine h1) (e_VX_l hq2) rfl hl.1 rfl (Nat.le_of_ble_eq_true rfl) hn le3 dX7_needs_2 (fun H locs cells slots I hn1 hn2 => ?_)
    have I : s_I G q1.2 s H locs := I
    have hn : cells + σ0.2.1 ≤ q1.2.2.1 ∧ slots + σ0.2.2.1 ≤ q1.2.2.2.1 := ⟨hn1, hn2⟩
    obtain ⟨x4, h4, hf⟩ := s_bind hf
    obtain ⟨x5, h5, hf⟩ := s_bind hf
    obtain ⟨x6, h6, hf⟩ := s_bind hf
    cases hf
    have k : _ = r := k
    subst k
    refine lv_aload_n hx hb dX7_needs_5 rfl (lv_at hl 0 rfl) ?_
    refine r_gr X I fl_X7_19 h4 dX7_needs_6 ?_
    refine r_gr X I fl_X7_223 h5 dX7_needs_9 ?_
    refine lv_iload_n hx hb dX7_needs_12 rfl (lv_at hl 1 rfl) ?_
    refine r_lald X I h6 dX7_needs_13 ?_
    exact r_lret X I rfl rfl hn dX7_needs_14
  · cases hf
    have k : _ = r := k
    subst k
    exact r_callVx (Y := M_X7_needLine) X I rfl w_1138 my_X7_needLine (by omega) (t_X7_needLine (G := G) (d := d + 0) h1) (b_X7_needLine h1) (e_VX_r hq2) rfl hl.1 rfl (Nat.le_of_ble_eq_true rfl) hn rfl dX7_needs_2
theorem v_X7_needs {G : sG} {d : Nat} {vs0 : List Value} {σ0 : sS} {x : sL} {z : sZ (Int64 ⊕ String)} {r : (Int64 ⊕ String) × sS} (hs : S_X7_needs x = some z) (k : s_K G (d + 2) M_X7_needs vs0 σ0 Y_X7_needs e_JX z r) : s_V G (d + 2) M_X7_needs vs0 σ0 Y_X7_needs x (e_JX r) := by
  obtain ⟨pc, vs, σ⟩ := x
  unfold S_X7_needs at hs
  dsimp only at hs
  rcases s_ite hs with ⟨c, hs⟩ | ⟨-, hs⟩
  · subst c
    unfold U_X7_needs_0 at hs
    obtain ⟨a0, g0, hs⟩ := s_bind hs
    obtain ⟨a1, g1, hs⟩ := s_bind hs
    obtain ⟨u9, ge, hs⟩ := s_bind hs
    rw [g_r_to g0, g_i_to g1, g_e_to ge]
    exact v_X7_needs_0 hs k
  cases hs
theorem t_X7_needs {G : sG} {d : Nat} {v0 : Nat} {v1 : Int32} {σ : sS} {q : (Int64 ⊕ String) × sS} (h : F_X7_needs v0 v1 σ = some q) : s_T G (d + 2) M_X7_needs [.ref v0, .int v1] σ (e_JX q) := by
  unfold F_X7_needs at h
  obtain ⟨-, -, h⟩ := s_bind h
  exact s_ofV rfl (by decide) (Nat.le_of_ble_eq_true rfl) rfl rfl (s_run_ind (V := fun x r => s_V G (d + 2) M_X7_needs [.ref v0, .int v1] σ Y_X7_needs x (e_JX r)) (fun x z r hs hk => v_X7_needs hs (by cases z <;> exact hk)) h)
/-! L_needs -/
noncomputable def T_L_needs_0 (v0 : Nat) (v1 : Int32) (v2 : Nat) (σ : sS) : Option (sZ Int32) :=
  (F_X7_needs v0 v1 σ).bind fun q1 => s_sum q1.1 (fun x2 => (s_sl q1.2 v2 0 x2).bind fun σ4 =>
  some (.inr (0, σ4))) (fun E3 => if E3 = "java/lang/IndexOutOfBoundsException" then (some (.inr (1, q1.2))) else none)
noncomputable def U_L_needs_0 (vs : List Value) (σ : sS) : Option (sZ Int32) := (g_r vs).bind fun a0 => (g_i a0.2).bind fun a1 => (g_r a1.2).bind fun a2 => (g_e a2.2).bind fun _ => T_L_needs_0 a0.1 a1.1 a2.1 σ
noncomputable def S_L_needs (x : sL) : Option (sZ Int32) := if x.1 = 0 then U_L_needs_0 x.2.1 x.2.2 else none
def Y_L_needs (pc : Nat) : List Nat := if pc = 0 then [0, 1, 2] else []
noncomputable def F_L_needs (v0 : Nat) (v1 : Int32) (v2 : Nat) (σ : sS) : Option (Int32 × sS) := s_run S_L_needs (0, [.ref v0, .int v1, .ref v2], σ)
theorem l_L_needs_0 {v0 : Nat} {v1 : Int32} {v2 : Nat} {σ : sS} {z : sZ Int32} (hf : T_L_needs_0 v0 v1 v2 σ = some z) : s_lz σ z := by
  unfold T_L_needs_0 at hf
  obtain ⟨q1, hh, hf⟩ := s_bind hf
  refine s_lz.tr (l_X7_needs hh) ?_
  rcases s_sum_some hf with ⟨x2, -, hf⟩ | ⟨E3, -, hf⟩
  · obtain ⟨σ4, hh, hf⟩ := s_bind hf
    refine s_lz.tr (s_le2 (s_sl_2 hh)) ?_
    cases hf
    exact s_le.rf
  · rcases s_ite hf with ⟨-, hf⟩ | ⟨-, hf⟩
    · cases hf
      exact s_le.rf
    cases hf
theorem l_L_needs_s {x : sL} {z : sZ Int32} (hs : S_L_needs x = some z) : s_lz x.2.2 z := by
  obtain ⟨pc, vs, σ⟩ := x
  unfold S_L_needs at hs
  dsimp only at hs ⊢
  rcases s_ite hs with ⟨c, hs⟩ | ⟨-, hs⟩
  · subst c
    unfold U_L_needs_0 at hs
    obtain ⟨a0, g0, hs⟩ := s_bind hs
    obtain ⟨a1, g1, hs⟩ := s_bind hs
    obtain ⟨a2, g2, hs⟩ := s_bind hs
    obtain ⟨u9, ge, hs⟩ := s_bind hs
    exact l_L_needs_0 hs
  cases hs
theorem l_L_needs {v0 : Nat} {v1 : Int32} {v2 : Nat} {σ : sS} {q : Int32 × sS} (h : F_L_needs v0 v1 v2 σ = some q) : s_le σ q.2 := by
  unfold F_L_needs at h
  exact s_run_ind (V := fun x r => s_le x.2.2 r.2) (fun x z r hs hk => by
    have h9 := l_L_needs_s hs
    cases z with
    | inl y => exact s_le.tr h9 hk
    | inr q => cases hk; exact h9) h
set_option maxRecDepth 100000 in
set_option maxHeartbeats 4000000 in
theorem v_L_needs_0 {G : sG} {d : Nat} {vs0 : List Value} {σ0 : sS} {v0 : Nat} {v1 : Int32} {v2 : Nat} {σ : sS} {z : sZ Int32} {r : Int32 × sS} (hf : T_L_needs_0 v0 v1 v2 σ = some z) (k : s_K G (d + 3) M_L_needs vs0 σ0 Y_L_needs e_I z r) : s_V G (d + 3) M_L_needs vs0 σ0 Y_L_needs (0, [.ref v0, .int v1, .ref v2], σ) (e_I r) := by
  have le0 : s_le σ (e_I r).2 := s_lek hem_I (l_L_needs_0 hf) k
  refine ⟨le0, ?_⟩
  intro p e s m below meth c H locs cells slots ls X I hn1 hn2 hl
  have hn : cells + σ0.2.1 ≤ σ.2.1 ∧ slots + σ0.2.2.1 ≤ σ.2.2.1 := ⟨hn1, hn2⟩
  have hl : lv_has ls 4 [(0, .ref v0), (1, .int v1), (2, .ref v2)] := hl
  have hx := X.1
  have hb : c.code = cL_needs := X.2.1
  have hown : s.vm.findClass RL = some m.cls := X.2.2.2.2.2.1
  have hts := X.2.2.2.2.2.2.1
  refine W.eq (g2 := F0 m 0 ls []) rfl ?_
  unfold T_L_needs_0 at hf
  obtain ⟨q1, h1, hf⟩ := s_bind hf
  refine lv_aload_n hx hb dL_needs_0 rfl (lv_at hl 2 rfl) ?_
  refine lv_iconst (v := 0) hx hb dL_needs_1 (by decide) ?_
  refine lv_aload_n hx hb dL_needs_2 rfl (lv_at hl 0 rfl) ?_
  refine lv_iload_n hx hb dL_needs_3 rfl (lv_at hl 1 rfl) ?_
  rcases s_sum_some hf with ⟨x2, hq2, hf⟩ | ⟨E3, hq2, hf⟩
  · have le3 : s_le q1.2 (e_I r).2 := by
      refine s_lek hem_I ?_ k
      obtain ⟨σ4, hh, hf⟩ := s_bind hf
      refine s_lz.tr (s_le2 (s_sl_2 hh)) ?_
      cases hf
      exact s_le.rf
    refine r_callV (Y := M_X7_needs) (v := some (.long x2)) X I w_1210 my_X7_needs (by omega) (t_X7_needs (G := G) (d := d + 0) h1) (b_X7_needs h1) (e_JX_l hq2) rfl hl.1 rfl (Nat.le_of_ble_eq_true rfl) hn le3 dL_needs_4 (fun H locs cells slots I hn1 hn2 => ?_)
    have I : s_I G q1.2 s H locs := I
    have hn : cells + σ0.2.1 ≤ q1.2.2.1 ∧ slots + σ0.2.2.1 ≤ q1.2.2.2.1 := ⟨hn1, hn2⟩
    obtain ⟨σ4, h4, hf⟩ := s_bind hf
    cases hf
    have k : _ = r := k
    subst k
    have le5 : s_le σ4 σ4 := s_le.rf
    refine r_last X I h4 dL_needs_7 (fun H locs I => ?_)
    have hn := s_k2 (s_sl_2 h4) hn
    refine lv_goto (tgt := 14) hx hb dL_needs_8 (by decide) ?_
    refine lv_iconst (v := 0) hx hb dL_needs_14 (by decide) ?_
    exact r_iret X I rfl rfl rfl hn dL_needs_15
  · rcases s_ite hf with ⟨c6, hf⟩ | ⟨c6, hf⟩
    · subst c6
      have le7 : s_le q1.2 (e_I r).2 := by
        refine s_lek hem_I ?_ k
        cases hf
        exact s_le.rf
      refine r_callVh (x := (0, 8, 11, 27)) (Y := M_X7_needs) (E := "java/lang/IndexOutOfBoundsException") (name := "java/lang/IndexOutOfBoundsException") X I [] [] rfl (fun z hz => by cases hz) rfl (by decide) w_1011 (by decide +kernel) w_1210 my_X7_needs (by omega) (t_X7_needs (G := G) (d := d + 0) h1) (b_X7_needs h1) (e_JX_r hq2) rfl hl.1 rfl (Nat.le_of_ble_eq_true rfl) hn le7 dL_needs_4 (fun a5 H locs cells slots I hn1 hn2 => ?_)
      have I : s_I G q1.2 s H locs := I
      have hn : cells + σ0.2.1 ≤ q1.2.2.1 ∧ slots + σ0.2.2.1 ≤ q1.2.2.2.1 := ⟨hn1, hn2⟩
      cases hf
      have k : _ = r := k
      subst k
      refine lv_astore_n (lv' := [(3, .ref a5), (0, .ref v0), (1, .int v1), (2, .ref v2)]) hx hb dL_needs_11 rfl hl (by decide) rfl (fun ls hl => ?_)
      refine lv_iconst (v := 1) hx hb dL_needs_12 (by decide) ?_
      exact r_iret X I rfl rfl rfl hn dL_needs_13
    cases hf
theorem v_L_needs {G : sG} {d : Nat} {vs0 : List Value} {σ0 : sS} {x : sL} {z : sZ Int32} {r : Int32 × sS} (hs : S_L_needs x = some z) (k : s_K G (d + 3) M_L_needs vs0 σ0 Y_L_needs e_I z r) : s_V G (d + 3) M_L_needs vs0 σ0 Y_L_needs x (e_I r) := by
  obtain ⟨pc, vs, σ⟩ := x
  unfold S_L_needs at hs
  dsimp only at hs
  rcases s_ite hs with ⟨c, hs⟩ | ⟨-, hs⟩
  · subst c
    unfold U_L_needs_0 at hs
    obtain ⟨a0, g0, hs⟩ := s_bind hs
    obtain ⟨a1, g1, hs⟩ := s_bind hs
    obtain ⟨a2, g2, hs⟩ := s_bind hs
    obtain ⟨u9, ge, hs⟩ := s_bind hs
    rw [g_r_to g0, g_i_to g1, g_r_to g2, g_e_to ge]
    exact v_L_needs_0 hs k
  cases hs
theorem t_L_needs {G : sG} {d : Nat} {v0 : Nat} {v1 : Int32} {v2 : Nat} {σ : sS} {q : Int32 × sS} (h : F_L_needs v0 v1 v2 σ = some q) : s_T G (d + 3) M_L_needs [.ref v0, .int v1, .ref v2] σ (e_I q) := by
  unfold F_L_needs at h
  exact s_ofVH rfl (by decide) (Nat.le_of_ble_eq_true rfl) rfl rfl (s_run_ind (V := fun x r => s_V G (d + 3) M_L_needs [.ref v0, .int v1, .ref v2] σ Y_L_needs x (e_I r)) (fun x z r hs hk => v_L_needs hs (by cases z <;> exact hk)) h)
/-! X8_needs -/
noncomputable def T_X8_needs_0 (v0 : Nat) (v1 : Int32) (σ : sS) : Option (sZ Int64) :=
  (s_pf σ v0 8 0 (.int 0)).bind fun σ1 =>
  (F_X8_noLine v0 v1 σ1).bind fun q2 =>
  (F_X8_throwsIf v0 q2.1 1 q2.2).bind fun q3 =>
  if q3.1 = 0 then ((F_X8_goesThrough v0 q3.2).bind fun q4 =>
  (s_fr q4.2 v0 8 19).bind fun x5 =>
  (s_al q4.2 x5 v1).bind fun x6 =>
  some (.inr (x6, q4.2)))
  else (some (.inr (0, q3.2)))
noncomputable def U_X8_needs_0 (vs : List Value) (σ : sS) : Option (sZ Int64) := (g_r vs).bind fun a0 => (g_i a0.2).bind fun a1 => (g_e a1.2).bind fun _ => T_X8_needs_0 a0.1 a1.1 σ
noncomputable def S_X8_needs (x : sL) : Option (sZ Int64) := if x.1 = 0 then U_X8_needs_0 x.2.1 x.2.2 else none
def Y_X8_needs (pc : Nat) : List Nat := if pc = 0 then [0, 1] else []
noncomputable def F_X8_needs (v0 : Nat) (v1 : Int32) (σ : sS) : Option (Int64 × sS) := (s_is σ v0 8).bind fun _ => s_run S_X8_needs (0, [.ref v0, .int v1], σ)
theorem l_X8_needs_0 {v0 : Nat} {v1 : Int32} {σ : sS} {z : sZ Int64} (hf : T_X8_needs_0 v0 v1 σ = some z) : s_lz σ z := by
  unfold T_X8_needs_0 at hf
  obtain ⟨σ1, hh, hf⟩ := s_bind hf
  refine s_lz.tr (s_le2 (s_pf_2 hh)) ?_
  obtain ⟨q2, hh, hf⟩ := s_bind hf
  refine s_lz.tr (l_X8_noLine hh) ?_
  obtain ⟨q3, hh, hf⟩ := s_bind hf
  refine s_lz.tr (l_X8_throwsIf hh) ?_
  rcases s_ite hf with ⟨-, hf⟩ | ⟨-, hf⟩
  · obtain ⟨q4, hh, hf⟩ := s_bind hf
    refine s_lz.tr (l_X8_goesThrough hh) ?_
    obtain ⟨x5, -, hf⟩ := s_bind hf
    obtain ⟨x6, -, hf⟩ := s_bind hf
    cases hf
    exact s_le.rf
  · cases hf
    exact s_le.rf
theorem l_X8_needs_s {x : sL} {z : sZ Int64} (hs : S_X8_needs x = some z) : s_lz x.2.2 z := by
  obtain ⟨pc, vs, σ⟩ := x
  unfold S_X8_needs at hs
  dsimp only at hs ⊢
  rcases s_ite hs with ⟨c, hs⟩ | ⟨-, hs⟩
  · subst c
    unfold U_X8_needs_0 at hs
    obtain ⟨a0, g0, hs⟩ := s_bind hs
    obtain ⟨a1, g1, hs⟩ := s_bind hs
    obtain ⟨u9, ge, hs⟩ := s_bind hs
    exact l_X8_needs_0 hs
  cases hs
theorem l_X8_needs {v0 : Nat} {v1 : Int32} {σ : sS} {q : Int64 × sS} (h : F_X8_needs v0 v1 σ = some q) : s_le σ q.2 := by
  unfold F_X8_needs at h
  obtain ⟨-, -, h⟩ := s_bind h
  exact s_run_ind (V := fun x r => s_le x.2.2 r.2) (fun x z r hs hk => by
    have h9 := l_X8_needs_s hs
    cases z with
    | inl y => exact s_le.tr h9 hk
    | inr q => cases hk; exact h9) h
theorem b_X8_needs {v0 : Nat} {v1 : Int32} {σ : sS} {q : Int64 × sS} (h : F_X8_needs v0 v1 σ = some q) : ∃ fs, σ.1 v0 = some (.inr (8, fs)) := by
  unfold F_X8_needs at h
  obtain ⟨u, hu, -⟩ := s_bind h
  exact s_is_to hu
set_option maxRecDepth 100000 in
set_option maxHeartbeats 4000000 in
theorem v_X8_needs_0 {G : sG} {d : Nat} {vs0 : List Value} {σ0 : sS} {v0 : Nat} {v1 : Int32} {σ : sS} {z : sZ Int64} {r : Int64 × sS} (hf : T_X8_needs_0 v0 v1 σ = some z) (k : s_K G (d + 8) M_X8_needs vs0 σ0 Y_X8_needs e_J z r) : s_V G (d + 8) M_X8_needs vs0 σ0 Y_X8_needs (0, [.ref v0, .int v1], σ) (e_J r) := by
  have le0 : s_le σ (e_J r).2 := s_lek hem_J (l_X8_needs_0 hf) k
  refine ⟨le0, ?_⟩
  intro p e s m below meth c H locs cells slots ls X I hn1 hn2 hl
  have hn : cells + σ0.2.1 ≤ σ.2.1 ∧ slots + σ0.2.2.1 ≤ σ.2.2.1 := ⟨hn1, hn2⟩
  have hl : lv_has ls 2 [(0, .ref v0), (1, .int v1)] := hl
  have hx := X.1
  have hb : c.code = cX8_needs := X.2.1
  have hown : s.vm.findClass RX8 = some m.cls := X.2.2.2.2.2.1
  have hts := X.2.2.2.2.2.2.1
  refine W.eq (g2 := F0 m 0 ls []) rfl ?_
  unfold T_X8_needs_0 at hf
  obtain ⟨σ1, h1, hf⟩ := s_bind hf
  obtain ⟨q2, h2, hf⟩ := s_bind hf
  obtain ⟨q3, h3, hf⟩ := s_bind hf
  have le4 : s_le q3.2 (e_J r).2 := by
    refine s_lek hem_J ?_ k
    rcases s_ite hf with ⟨-, hf⟩ | ⟨-, hf⟩
    · obtain ⟨q4, hh, hf⟩ := s_bind hf
      refine s_lz.tr (l_X8_goesThrough hh) ?_
      obtain ⟨x5, -, hf⟩ := s_bind hf
      obtain ⟨x6, -, hf⟩ := s_bind hf
      cases hf
      exact s_le.rf
    · cases hf
      exact s_le.rf
  have le5 := s_le.tr (l_X8_throwsIf h3) le4
  have le6 := s_le.tr (l_X8_noLine h2) le5
  refine lv_aload_n hx hb dX8_needs_0 rfl (lv_at hl 0 rfl) ?_
  refine lv_iconst (v := 0) hx hb dX8_needs_1 (by decide) ?_
  refine r_put X I fp_X8_3 (fun h => by cases h) h1 rfl rfl dX8_needs_2 (fun H locs I => ?_)
  have hn := s_k2 (s_pf_2 h1) hn
  refine lv_aload_n hx hb dX8_needs_5 rfl (lv_at hl 0 rfl) ?_
  refine lv_aload_n hx hb dX8_needs_6 rfl (lv_at hl 0 rfl) ?_
  refine lv_iload_n hx hb dX8_needs_7 rfl (lv_at hl 1 rfl) ?_
  refine r_callV (Y := M_X8_noLine) (v := some (.int q2.1)) X I w_1999 my_X8_noLine (by omega) (t_X8_noLine (G := G) (d := d + 5) h2) (b_X8_noLine h2) rfl rfl hl.1 rfl (Nat.le_of_ble_eq_true rfl) hn le5 dX8_needs_8 (fun H locs cells slots I hn1 hn2 => ?_)
  have I : s_I G q2.2 s H locs := I
  have hn : cells + σ0.2.1 ≤ q2.2.2.1 ∧ slots + σ0.2.2.1 ≤ q2.2.2.2.1 := ⟨hn1, hn2⟩
  refine lv_iconst (v := 1) hx hb dX8_needs_11 (by decide) ?_
  refine r_callV (Y := M_X8_throwsIf) (v := some (.int q3.1)) X I w_1897 my_X8_throwsIf (by omega) (t_X8_throwsIf (G := G) (d := d + 6) h3) (b_X8_throwsIf h3) rfl rfl hl.1 rfl (Nat.le_of_ble_eq_true rfl) hn le4 dX8_needs_12 (fun H locs cells slots I hn1 hn2 => ?_)
  have I : s_I G q3.2 s H locs := I
  have hn : cells + σ0.2.1 ≤ q3.2.2.1 ∧ slots + σ0.2.2.1 ≤ q3.2.2.2.1 := ⟨hn1, hn2⟩
  rcases s_ite hf with ⟨c7, hf⟩ | ⟨c7, hf⟩
  · refine lv_if_eq (tgt := 20) hx hb dX8_needs_15 (by decide) (fun _ => ?_) (fun n => absurd c7 n)
    obtain ⟨q4, h8, hf⟩ := s_bind hf
    obtain ⟨x5, h9, hf⟩ := s_bind hf
    obtain ⟨x6, h10, hf⟩ := s_bind hf
    cases hf
    have k : _ = r := k
    subst k
    have le11 : s_le q4.2 q4.2 := s_le.rf
    refine lv_aload_n hx hb dX8_needs_20 rfl (lv_at hl 0 rfl) ?_
    refine r_callV (Y := M_X8_goesThrough) (v := none) X I w_2027 my_X8_goesThrough (by omega) (t_X8_goesThrough (G := G) (d := d + 0) h8) (b_X8_goesThrough h8) rfl rfl hl.1 rfl (Nat.le_of_ble_eq_true rfl) hn le11 dX8_needs_21 (fun H locs cells slots I hn1 hn2 => ?_)
    have I : s_I G q4.2 s H locs := I
    have hn : cells + σ0.2.1 ≤ q4.2.2.1 ∧ slots + σ0.2.2.1 ≤ q4.2.2.2.1 := ⟨hn1, hn2⟩
    refine lv_aload_n hx hb dX8_needs_24 rfl (lv_at hl 0 rfl) ?_
    refine r_gr X I fl_X8_47 h9 dX8_needs_25 ?_
    refine lv_iload_n hx hb dX8_needs_28 rfl (lv_at hl 1 rfl) ?_
    refine r_lald X I h10 dX8_needs_29 ?_
    exact r_lret X I rfl rfl hn dX8_needs_30
  · refine lv_if_eq (tgt := 20) hx hb dX8_needs_15 (by decide) (fun n => absurd n c7) (fun _ => ?_)
    cases hf
    have k : _ = r := k
    subst k
    refine lv_lconst (v := 0) hx hb dX8_needs_18 (by decide) ?_
    exact r_lret X I rfl rfl hn dX8_needs_19
theorem v_X8_needs {G : sG} {d : Nat} {vs0 : List Value} {σ0 : sS} {x : sL} {z : sZ Int64} {r : Int64 × sS} (hs : S_X8_needs x = some z) (k : s_K G (d + 8) M_X8_needs vs0 σ0 Y_X8_needs e_J z r) : s_V G (d + 8) M_X8_needs vs0 σ0 Y_X8_needs x (e_J r) := by
  obtain ⟨pc, vs, σ⟩ := x
  unfold S_X8_needs at hs
  dsimp only at hs
  rcases s_ite hs with ⟨c, hs⟩ | ⟨-, hs⟩
  · subst c
    unfold U_X8_needs_0 at hs
    obtain ⟨a0, g0, hs⟩ := s_bind hs
    obtain ⟨a1, g1, hs⟩ := s_bind hs
    obtain ⟨u9, ge, hs⟩ := s_bind hs
    rw [g_r_to g0, g_i_to g1, g_e_to ge]
    exact v_X8_needs_0 hs k
  cases hs
theorem t_X8_needs {G : sG} {d : Nat} {v0 : Nat} {v1 : Int32} {σ : sS} {q : Int64 × sS} (h : F_X8_needs v0 v1 σ = some q) : s_T G (d + 8) M_X8_needs [.ref v0, .int v1] σ (e_J q) := by
  unfold F_X8_needs at h
  obtain ⟨-, -, h⟩ := s_bind h
  exact s_ofV rfl (by decide) (Nat.le_of_ble_eq_true rfl) rfl rfl (s_run_ind (V := fun x r => s_V G (d + 8) M_X8_needs [.ref v0, .int v1] σ Y_X8_needs x (e_J r)) (fun x z r hs hk => v_X8_needs hs (by cases z <;> exact hk)) h)
/-! X0_costOfAll -/
noncomputable def T_X0_costOfAll_0 (v0 : Nat) (v1 : Int32) (σ : sS) : Option (sZ Int32) :=
  if v1 < 0 then (some (.inl (27, [.ref v0], σ)))
  else ((s_fr σ v0 0 5).bind fun x1 =>
  (s_fi σ x1 1 6).bind fun x2 =>
  if x2 ≤ v1 then (some (.inl (27, [.ref v0], σ)))
  else ((s_fr σ v0 0 5).bind fun x3 =>
  (s_fr σ x3 1 8).bind fun x4 =>
  (s_al σ x4 v1).bind fun x5 =>
  some (.inl (28, [.ref v0, .long x5], σ))))
noncomputable def U_X0_costOfAll_0 (vs : List Value) (σ : sS) : Option (sZ Int32) := (g_r vs).bind fun a0 => (g_i a0.2).bind fun a1 => (g_e a1.2).bind fun _ => T_X0_costOfAll_0 a0.1 a1.1 σ
noncomputable def T_X0_costOfAll_27 (v0 : Nat) (σ : sS) : Option (sZ Int32) :=
  some (.inl (28, [.ref v0, .long 0], σ))
noncomputable def U_X0_costOfAll_27 (vs : List Value) (σ : sS) : Option (sZ Int32) := (g_r vs).bind fun a0 => (g_e a0.2).bind fun _ => T_X0_costOfAll_27 a0.1 σ
noncomputable def T_X0_costOfAll_28 (v0 : Nat) (w0 : Int64) (σ : sS) : Option (sZ Int32) :=
  some (.inl (35, [.ref v0, .long w0, .int 0, .int 0], σ))
noncomputable def U_X0_costOfAll_28 (vs : List Value) (σ : sS) : Option (sZ Int32) := (g_r vs).bind fun a0 => (g_l a0.2).bind fun a1 => (g_e a1.2).bind fun _ => T_X0_costOfAll_28 a0.1 a1.1 σ
noncomputable def T_X0_costOfAll_35 (v0 : Nat) (v2 : Int64) (v4 : Int32) (v5 : Int32) (σ : sS) : Option (sZ Int32) :=
  (s_fr σ v0 0 5).bind fun x1 =>
  (s_fi σ x1 1 6).bind fun x2 =>
  if x2 ≤ v5 then (some (.inr (v4, σ)))
  else (if (lg_cmp (((v2 : Int64).toUInt64 >>> ((v5 : Int32).toInt64.toUInt64 &&& Int64.toUInt64 63)).toInt64 &&& 1) 0) = 0 then (some (.inl (69, [.ref v0, .long v2, .int v4, .int v5], σ)))
  else ((F_X0_costOf v0 v5 σ).bind fun q3 =>
  some (.inl (69, [.ref v0, .long v2, .int (v4 + q3.1), .int v5], q3.2))))
noncomputable def U_X0_costOfAll_35 (vs : List Value) (σ : sS) : Option (sZ Int32) := (g_r vs).bind fun a0 => (g_l a0.2).bind fun a1 => (g_i a1.2).bind fun a2 => (g_i a2.2).bind fun a3 => (g_e a3.2).bind fun _ => T_X0_costOfAll_35 a0.1 a1.1 a2.1 a3.1 σ
noncomputable def T_X0_costOfAll_69 (v0 : Nat) (v2 : Int64) (v4 : Int32) (v5 : Int32) (σ : sS) : Option (sZ Int32) :=
  some (.inl (35, [.ref v0, .long v2, .int v4, .int (v5 + 1)], σ))
noncomputable def U_X0_costOfAll_69 (vs : List Value) (σ : sS) : Option (sZ Int32) := (g_r vs).bind fun a0 => (g_l a0.2).bind fun a1 => (g_i a1.2).bind fun a2 => (g_i a2.2).bind fun a3 => (g_e a3.2).bind fun _ => T_X0_costOfAll_69 a0.1 a1.1 a2.1 a3.1 σ
noncomputable def S_X0_costOfAll (x : sL) : Option (sZ Int32) := if x.1 = 0 then U_X0_costOfAll_0 x.2.1 x.2.2 else if x.1 = 27 then U_X0_costOfAll_27 x.2.1 x.2.2 else if x.1 = 28 then U_X0_costOfAll_28 x.2.1 x.2.2 else if x.1 = 35 then U_X0_costOfAll_35 x.2.1 x.2.2 else if x.1 = 69 then U_X0_costOfAll_69 x.2.1 x.2.2 else none
def Y_X0_costOfAll (pc : Nat) : List Nat := if pc = 0 then [0, 1] else if pc = 27 then [0] else if pc = 28 then [0] else if pc = 35 then [0, 2, 4, 5] else if pc = 69 then [0, 2, 4, 5] else []
noncomputable def F_X0_costOfAll (v0 : Nat) (v1 : Int32) (σ : sS) : Option (Int32 × sS) := (s_is σ v0 0).bind fun _ => s_run S_X0_costOfAll (0, [.ref v0, .int v1], σ)
theorem l_X0_costOfAll_0 {v0 : Nat} {v1 : Int32} {σ : sS} {z : sZ Int32} (hf : T_X0_costOfAll_0 v0 v1 σ = some z) : s_lz σ z := by
  unfold T_X0_costOfAll_0 at hf
  rcases s_ite hf with ⟨-, hf⟩ | ⟨-, hf⟩
  · cases hf
    exact s_le.rf
  · obtain ⟨x1, -, hf⟩ := s_bind hf
    obtain ⟨x2, -, hf⟩ := s_bind hf
    rcases s_ite hf with ⟨-, hf⟩ | ⟨-, hf⟩
    · cases hf
      exact s_le.rf
    · obtain ⟨x3, -, hf⟩ := s_bind hf
      obtain ⟨x4, -, hf⟩ := s_bind hf
      obtain ⟨x5, -, hf⟩ := s_bind hf
      cases hf
      exact s_le.rf
theorem l_X0_costOfAll_27 {v0 : Nat} {σ : sS} {z : sZ Int32} (hf : T_X0_costOfAll_27 v0 σ = some z) : s_lz σ z := by
  unfold T_X0_costOfAll_27 at hf
  cases hf
  exact s_le.rf
theorem l_X0_costOfAll_28 {v0 : Nat} {w0 : Int64} {σ : sS} {z : sZ Int32} (hf : T_X0_costOfAll_28 v0 w0 σ = some z) : s_lz σ z := by
  unfold T_X0_costOfAll_28 at hf
  cases hf
  exact s_le.rf
theorem l_X0_costOfAll_35 {v0 : Nat} {v2 : Int64} {v4 : Int32} {v5 : Int32} {σ : sS} {z : sZ Int32} (hf : T_X0_costOfAll_35 v0 v2 v4 v5 σ = some z) : s_lz σ z := by
  unfold T_X0_costOfAll_35 at hf
  obtain ⟨x1, -, hf⟩ := s_bind hf
  obtain ⟨x2, -, hf⟩ := s_bind hf
  rcases s_ite hf with ⟨-, hf⟩ | ⟨-, hf⟩
  · cases hf
    exact s_le.rf
  · rcases s_ite hf with ⟨-, hf⟩ | ⟨-, hf⟩
    · cases hf
      exact s_le.rf
    · obtain ⟨q3, hh, hf⟩ := s_bind hf
      refine s_lz.tr (l_X0_costOf hh) ?_
      cases hf
      exact s_le.rf
theorem l_X0_costOfAll_69 {v0 : Nat} {v2 : Int64} {v4 : Int32} {v5 : Int32} {σ : sS} {z : sZ Int32} (hf : T_X0_costOfAll_69 v0 v2 v4 v5 σ = some z) : s_lz σ z := by
  unfold T_X0_costOfAll_69 at hf
  cases hf
  exact s_le.rf
theorem l_X0_costOfAll_s {x : sL} {z : sZ Int32} (hs : S_X0_costOfAll x = some z) : s_lz x.2.2 z := by
  obtain ⟨pc, vs, σ⟩ := x
  unfold S_X0_costOfAll at hs
  dsimp only at hs ⊢
  rcases s_ite hs with ⟨c, hs⟩ | ⟨-, hs⟩
  · subst c
    unfold U_X0_costOfAll_0 at hs
    obtain ⟨a0, g0, hs⟩ := s_bind hs
    obtain ⟨a1, g1, hs⟩ := s_bind hs
    obtain ⟨u9, ge, hs⟩ := s_bind hs
    exact l_X0_costOfAll_0 hs
  rcases s_ite hs with ⟨c, hs⟩ | ⟨-, hs⟩
  · subst c
    unfold U_X0_costOfAll_27 at hs
    obtain ⟨a0, g0, hs⟩ := s_bind hs
    obtain ⟨u9, ge, hs⟩ := s_bind hs
    exact l_X0_costOfAll_27 hs
  rcases s_ite hs with ⟨c, hs⟩ | ⟨-, hs⟩
  · subst c
    unfold U_X0_costOfAll_28 at hs
    obtain ⟨a0, g0, hs⟩ := s_bind hs
    obtain ⟨a1, g1, hs⟩ := s_bind hs
    obtain ⟨u9, ge, hs⟩ := s_bind hs
    exact l_X0_costOfAll_28 hs
  rcases s_ite hs with ⟨c, hs⟩ | ⟨-, hs⟩
  · subst c
    unfold U_X0_costOfAll_35 at hs
    obtain ⟨a0, g0, hs⟩ := s_bind hs
    obtain ⟨a1, g1, hs⟩ := s_bind hs
    obtain ⟨a2, g2, hs⟩ := s_bind hs
    obtain ⟨a3, g3, hs⟩ := s_bind hs
    obtain ⟨u9, ge, hs⟩ := s_bind hs
    exact l_X0_costOfAll_35 hs
  rcases s_ite hs with ⟨c, hs⟩ | ⟨-, hs⟩
  · subst c
    unfold U_X0_costOfAll_69 at hs
    obtain ⟨a0, g0, hs⟩ := s_bind hs
    obtain ⟨a1, g1, hs⟩ := s_bind hs
    obtain ⟨a2, g2, hs⟩ := s_bind hs
    obtain ⟨a3, g3, hs⟩ := s_bind hs
    obtain ⟨u9, ge, hs⟩ := s_bind hs
    exact l_X0_costOfAll_69 hs
  cases hs
theorem l_X0_costOfAll {v0 : Nat} {v1 : Int32} {σ : sS} {q : Int32 × sS} (h : F_X0_costOfAll v0 v1 σ = some q) : s_le σ q.2 := by
  unfold F_X0_costOfAll at h
  obtain ⟨-, -, h⟩ := s_bind h
  exact s_run_ind (V := fun x r => s_le x.2.2 r.2) (fun x z r hs hk => by
    have h9 := l_X0_costOfAll_s hs
    cases z with
    | inl y => exact s_le.tr h9 hk
    | inr q => cases hk; exact h9) h
theorem b_X0_costOfAll {v0 : Nat} {v1 : Int32} {σ : sS} {q : Int32 × sS} (h : F_X0_costOfAll v0 v1 σ = some q) : ∃ fs, σ.1 v0 = some (.inr (0, fs)) := by
  unfold F_X0_costOfAll at h
  obtain ⟨u, hu, -⟩ := s_bind h
  exact s_is_to hu
set_option maxRecDepth 100000 in
set_option maxHeartbeats 4000000 in
theorem v_X0_costOfAll_0 {G : sG} {d : Nat} {vs0 : List Value} {σ0 : sS} {v0 : Nat} {v1 : Int32} {σ : sS} {z : sZ Int32} {r : Int32 × sS} (hf : T_X0_costOfAll_0 v0 v1 σ = some z) (k : s_K G (d + 4) M_X0_costOfAll vs0 σ0 Y_X0_costOfAll e_I z r) : s_V G (d + 4) M_X0_costOfAll vs0 σ0 Y_X0_costOfAll (0, [.ref v0, .int v1], σ) (e_I r) := by
  have le0 : s_le σ (e_I r).2 := s_lek hem_I (l_X0_costOfAll_0 hf) k
  refine ⟨le0, ?_⟩
  intro p e s m below meth c H locs cells slots ls X I hn1 hn2 hl
  have hn : cells + σ0.2.1 ≤ σ.2.1 ∧ slots + σ0.2.2.1 ≤ σ.2.2.1 := ⟨hn1, hn2⟩
  have hl : lv_has ls 6 [(0, .ref v0), (1, .int v1)] := hl
  have hx := X.1
  have hb : c.code = cX0_costOfAll := X.2.1
  have hown : s.vm.findClass RX0 = some m.cls := X.2.2.2.2.2.1
  have hts := X.2.2.2.2.2.2.1
  refine W.eq (g2 := F0 m 0 ls []) rfl ?_
  unfold T_X0_costOfAll_0 at hf
  refine lv_iload_n hx hb dX0_costOfAll_0 rfl (lv_at hl 1 rfl) ?_
  rcases s_ite hf with ⟨c1, hf⟩ | ⟨c1, hf⟩
  · refine lv_if_lt (tgt := 27) hx hb dX0_costOfAll_1 (by decide) (fun _ => ?_) (fun n => absurd c1 n)
    cases hf
    have k : s_V G (d + 4) M_X0_costOfAll vs0 σ0 Y_X0_costOfAll (27, [.ref v0], σ) (e_I r) := k
    exact k.2 p e s m below meth c _ _ _ _ _ X I hn.1 hn.2 (lv_sub hl [0] rfl)
  · refine lv_if_lt (tgt := 27) hx hb dX0_costOfAll_1 (by decide) (fun n => absurd n c1) (fun _ => ?_)
    obtain ⟨x1, h2, hf⟩ := s_bind hf
    obtain ⟨x2, h3, hf⟩ := s_bind hf
    refine lv_iload_n hx hb dX0_costOfAll_4 rfl (lv_at hl 1 rfl) ?_
    refine lv_aload_n hx hb dX0_costOfAll_5 rfl (lv_at hl 0 rfl) ?_
    refine r_gr X I fl_X0_15 h2 dX0_costOfAll_6 ?_
    refine r_gi X I fl_X0_40 h3 dX0_costOfAll_9 ?_
    rcases s_ite hf with ⟨c4, hf⟩ | ⟨c4, hf⟩
    · refine lv_icmp_ge (tgt := 27) hx hb dX0_costOfAll_12 (by decide) (fun _ => ?_) (fun n => absurd c4 n)
      cases hf
      have k : s_V G (d + 4) M_X0_costOfAll vs0 σ0 Y_X0_costOfAll (27, [.ref v0], σ) (e_I r) := k
      exact k.2 p e s m below meth c _ _ _ _ _ X I hn.1 hn.2 (lv_sub hl [0] rfl)
    · refine lv_icmp_ge (tgt := 27) hx hb dX0_costOfAll_12 (by decide) (fun n => absurd n c4) (fun _ => ?_)
      obtain ⟨x3, h5, hf⟩ := s_bind hf
      obtain ⟨x4, h6, hf⟩ := s_bind hf
      obtain ⟨x5, h7, hf⟩ := s_bind hf
      cases hf
      have k : s_V G (d + 4) M_X0_costOfAll vs0 σ0 Y_X0_costOfAll (28, [.ref v0, .long x5], σ) (e_I r) := k
      refine lv_aload_n hx hb dX0_costOfAll_15 rfl (lv_at hl 0 rfl) ?_
      refine r_gr X I fl_X0_15 h5 dX0_costOfAll_16 ?_
      refine r_gr X I fl_X0_136 h6 dX0_costOfAll_19 ?_
      refine lv_iload_n hx hb dX0_costOfAll_22 rfl (lv_at hl 1 rfl) ?_
      refine r_lald X I h7 dX0_costOfAll_23 ?_
      refine lv_goto (tgt := 28) hx hb dX0_costOfAll_24 (by decide) ?_
      exact k.2 p e s m below meth c _ _ _ _ _ X I hn.1 hn.2 (lv_sub hl [0] rfl)
set_option maxRecDepth 100000 in
set_option maxHeartbeats 4000000 in
theorem v_X0_costOfAll_27 {G : sG} {d : Nat} {vs0 : List Value} {σ0 : sS} {v0 : Nat} {σ : sS} {z : sZ Int32} {r : Int32 × sS} (hf : T_X0_costOfAll_27 v0 σ = some z) (k : s_K G (d + 4) M_X0_costOfAll vs0 σ0 Y_X0_costOfAll e_I z r) : s_V G (d + 4) M_X0_costOfAll vs0 σ0 Y_X0_costOfAll (27, [.ref v0], σ) (e_I r) := by
  have le0 : s_le σ (e_I r).2 := s_lek hem_I (l_X0_costOfAll_27 hf) k
  refine ⟨le0, ?_⟩
  intro p e s m below meth c H locs cells slots ls X I hn1 hn2 hl
  have hn : cells + σ0.2.1 ≤ σ.2.1 ∧ slots + σ0.2.2.1 ≤ σ.2.2.1 := ⟨hn1, hn2⟩
  have hl : lv_has ls 6 [(0, .ref v0)] := hl
  have hx := X.1
  have hb : c.code = cX0_costOfAll := X.2.1
  have hown : s.vm.findClass RX0 = some m.cls := X.2.2.2.2.2.1
  have hts := X.2.2.2.2.2.2.1
  refine W.eq (g2 := F0 m 27 ls []) rfl ?_
  unfold T_X0_costOfAll_27 at hf
  cases hf
  have k : s_V G (d + 4) M_X0_costOfAll vs0 σ0 Y_X0_costOfAll (28, [.ref v0, .long 0], σ) (e_I r) := k
  refine lv_lconst (v := 0) hx hb dX0_costOfAll_27 (by decide) ?_
  exact k.2 p e s m below meth c _ _ _ _ _ X I hn.1 hn.2 (lv_sub hl [0] rfl)
set_option maxRecDepth 100000 in
set_option maxHeartbeats 4000000 in
theorem v_X0_costOfAll_28 {G : sG} {d : Nat} {vs0 : List Value} {σ0 : sS} {v0 : Nat} {w0 : Int64} {σ : sS} {z : sZ Int32} {r : Int32 × sS} (hf : T_X0_costOfAll_28 v0 w0 σ = some z) (k : s_K G (d + 4) M_X0_costOfAll vs0 σ0 Y_X0_costOfAll e_I z r) : s_V G (d + 4) M_X0_costOfAll vs0 σ0 Y_X0_costOfAll (28, [.ref v0, .long w0], σ) (e_I r) := by
  have le0 : s_le σ (e_I r).2 := s_lek hem_I (l_X0_costOfAll_28 hf) k
  refine ⟨le0, ?_⟩
  intro p e s m below meth c H locs cells slots ls X I hn1 hn2 hl
  have hn : cells + σ0.2.1 ≤ σ.2.1 ∧ slots + σ0.2.2.1 ≤ σ.2.2.1 := ⟨hn1, hn2⟩
  have hl : lv_has ls 6 [(0, .ref v0)] := hl
  have hx := X.1
  have hb : c.code = cX0_costOfAll := X.2.1
  have hown : s.vm.findClass RX0 = some m.cls := X.2.2.2.2.2.1
  have hts := X.2.2.2.2.2.2.1
  refine W.eq (g2 := F0 m 28 ls [.long w0]) rfl ?_
  unfold T_X0_costOfAll_28 at hf
  cases hf
  have k : s_V G (d + 4) M_X0_costOfAll vs0 σ0 Y_X0_costOfAll (35, [.ref v0, .long w0, .int 0, .int 0], σ) (e_I r) := k
  refine lv_lstore_n (lv' := [(2, .long w0), (0, .ref v0)]) hx hb dX0_costOfAll_28 rfl hl (by decide) rfl (fun ls hl => ?_)
  refine lv_iconst (v := 0) hx hb dX0_costOfAll_29 (by decide) ?_
  refine lv_istore (lv' := [(4, .int 0), (2, .long w0), (0, .ref v0)]) hx hb dX0_costOfAll_30 hl (by decide) rfl (fun ls hl => ?_)
  refine lv_iconst (v := 0) hx hb dX0_costOfAll_32 (by decide) ?_
  refine lv_istore (lv' := [(5, .int 0), (4, .int 0), (2, .long w0), (0, .ref v0)]) hx hb dX0_costOfAll_33 hl (by decide) rfl (fun ls hl => ?_)
  exact k.2 p e s m below meth c _ _ _ _ _ X I hn.1 hn.2 (lv_sub hl [3, 2, 1, 0] rfl)
set_option maxRecDepth 100000 in
set_option maxHeartbeats 4000000 in
theorem v_X0_costOfAll_35 {G : sG} {d : Nat} {vs0 : List Value} {σ0 : sS} {v0 : Nat} {v2 : Int64} {v4 : Int32} {v5 : Int32} {σ : sS} {z : sZ Int32} {r : Int32 × sS} (hf : T_X0_costOfAll_35 v0 v2 v4 v5 σ = some z) (k : s_K G (d + 4) M_X0_costOfAll vs0 σ0 Y_X0_costOfAll e_I z r) : s_V G (d + 4) M_X0_costOfAll vs0 σ0 Y_X0_costOfAll (35, [.ref v0, .long v2, .int v4, .int v5], σ) (e_I r) := by
  have le0 : s_le σ (e_I r).2 := s_lek hem_I (l_X0_costOfAll_35 hf) k
  refine ⟨le0, ?_⟩
  intro p e s m below meth c H locs cells slots ls X I hn1 hn2 hl
  have hn : cells + σ0.2.1 ≤ σ.2.1 ∧ slots + σ0.2.2.1 ≤ σ.2.2.1 := ⟨hn1, hn2⟩
  have hl : lv_has ls 6 [(0, .ref v0), (2, .long v2), (4, .int v4), (5, .int v5)] := hl
  have hx := X.1
  have hb : c.code = cX0_costOfAll := X.2.1
  have hown : s.vm.findClass RX0 = some m.cls := X.2.2.2.2.2.1
  have hts := X.2.2.2.2.2.2.1
  refine W.eq (g2 := F0 m 35 ls []) rfl ?_
  unfold T_X0_costOfAll_35 at hf
  obtain ⟨x1, h1, hf⟩ := s_bind hf
  obtain ⟨x2, h2, hf⟩ := s_bind hf
  refine lv_iload hx hb dX0_costOfAll_35 (lv_at hl 3 rfl) ?_
  refine lv_aload_n hx hb dX0_costOfAll_37 rfl (lv_at hl 0 rfl) ?_
  refine r_gr X I fl_X0_15 h1 dX0_costOfAll_38 ?_
  refine r_gi X I fl_X0_40 h2 dX0_costOfAll_41 ?_
  rcases s_ite hf with ⟨c3, hf⟩ | ⟨c3, hf⟩
  · refine lv_icmp_ge (tgt := 75) hx hb dX0_costOfAll_44 (by decide) (fun _ => ?_) (fun n => absurd c3 n)
    cases hf
    have k : _ = r := k
    subst k
    refine lv_iload hx hb dX0_costOfAll_75 (lv_at hl 2 rfl) ?_
    exact r_iret X I rfl rfl rfl hn dX0_costOfAll_77
  · refine lv_icmp_ge (tgt := 75) hx hb dX0_costOfAll_44 (by decide) (fun n => absurd n c3) (fun _ => ?_)
    refine lv_lload_n hx hb dX0_costOfAll_47 rfl (lv_at hl 1 rfl) ?_
    refine lv_iload hx hb dX0_costOfAll_48 (lv_at hl 3 rfl) ?_
    refine lv_lushr hx hb dX0_costOfAll_50 rfl ?_
    refine lv_lconst (v := 1) hx hb dX0_costOfAll_51 (by decide) ?_
    refine lv_land hx hb dX0_costOfAll_52 ?_
    refine lv_lconst (v := 0) hx hb dX0_costOfAll_53 (by decide) ?_
    refine W.lcmp hx hb dX0_costOfAll_54 ?_
    rcases s_ite hf with ⟨c4, hf⟩ | ⟨c4, hf⟩
    · refine lv_if_eq (tgt := 69) hx hb dX0_costOfAll_55 (by decide) (fun _ => ?_) (fun n => absurd c4 n)
      cases hf
      have k : s_V G (d + 4) M_X0_costOfAll vs0 σ0 Y_X0_costOfAll (69, [.ref v0, .long v2, .int v4, .int v5], σ) (e_I r) := k
      exact k.2 p e s m below meth c _ _ _ _ _ X I hn.1 hn.2 (lv_sub hl [0, 1, 2, 3] rfl)
    · refine lv_if_eq (tgt := 69) hx hb dX0_costOfAll_55 (by decide) (fun n => absurd n c4) (fun _ => ?_)
      obtain ⟨q3, h5, hf⟩ := s_bind hf
      cases hf
      have k : s_V G (d + 4) M_X0_costOfAll vs0 σ0 Y_X0_costOfAll (69, [.ref v0, .long v2, .int (v4 + q3.1), .int v5], q3.2) (e_I r) := k
      have le6 : s_le q3.2 (e_I r).2 := k.1
      refine lv_iload hx hb dX0_costOfAll_58 (lv_at hl 2 rfl) ?_
      refine lv_aload_n hx hb dX0_costOfAll_60 rfl (lv_at hl 0 rfl) ?_
      refine lv_iload hx hb dX0_costOfAll_61 (lv_at hl 3 rfl) ?_
      refine r_callV (Y := M_X0_costOf) (v := some (.int q3.1)) X I w_629 my_X0_costOf (by omega) (t_X0_costOf (G := G) (d := d + 0) h5) (b_X0_costOf h5) rfl rfl hl.1 rfl (Nat.le_of_ble_eq_true rfl) hn le6 dX0_costOfAll_63 (fun H locs cells slots I hn1 hn2 => ?_)
      have I : s_I G q3.2 s H locs := I
      have hn : cells + σ0.2.1 ≤ q3.2.2.1 ∧ slots + σ0.2.2.1 ≤ q3.2.2.2.1 := ⟨hn1, hn2⟩
      refine lv_iadd hx hb dX0_costOfAll_66 ?_
      refine lv_istore (lv' := [(4, .int (v4 + q3.1)), (0, .ref v0), (2, .long v2), (5, .int v5)]) hx hb dX0_costOfAll_67 hl (by decide) rfl (fun ls hl => ?_)
      exact k.2 p e s m below meth c _ _ _ _ _ X I hn.1 hn.2 (lv_sub hl [1, 2, 0, 3] rfl)
set_option maxRecDepth 100000 in
set_option maxHeartbeats 4000000 in
theorem v_X0_costOfAll_69 {G : sG} {d : Nat} {vs0 : List Value} {σ0 : sS} {v0 : Nat} {v2 : Int64} {v4 : Int32} {v5 : Int32} {σ : sS} {z : sZ Int32} {r : Int32 × sS} (hf : T_X0_costOfAll_69 v0 v2 v4 v5 σ = some z) (k : s_K G (d + 4) M_X0_costOfAll vs0 σ0 Y_X0_costOfAll e_I z r) : s_V G (d + 4) M_X0_costOfAll vs0 σ0 Y_X0_costOfAll (69, [.ref v0, .long v2, .int v4, .int v5], σ) (e_I r) := by
  have le0 : s_le σ (e_I r).2 := s_lek hem_I (l_X0_costOfAll_69 hf) k
  refine ⟨le0, ?_⟩
  intro p e s m below meth c H locs cells slots ls X I hn1 hn2 hl
  have hn : cells + σ0.2.1 ≤ σ.2.1 ∧ slots + σ0.2.2.1 ≤ σ.2.2.1 := ⟨hn1, hn2⟩
  have hl : lv_has ls 6 [(0, .ref v0), (2, .long v2), (4, .int v4), (5, .int v5)] := hl
  have hx := X.1
  have hb : c.code = cX0_costOfAll := X.2.1
  have hown : s.vm.findClass RX0 = some m.cls := X.2.2.2.2.2.1
  have hts := X.2.2.2.2.2.2.1
  refine W.eq (g2 := F0 m 69 ls []) rfl ?_
  unfold T_X0_costOfAll_69 at hf
  cases hf
  have k : s_V G (d + 4) M_X0_costOfAll vs0 σ0 Y_X0_costOfAll (35, [.ref v0, .long v2, .int v4, .int (v5 + 1)], σ) (e_I r) := k
  refine lv_iinc (v := (v5 + 1)) (lv' := [(5, .int (v5 + 1)), (0, .ref v0), (2, .long v2), (4, .int v4)]) hx hb dX0_costOfAll_69 hl (k := 3) rfl rfl (by decide) rfl (fun ls hl => ?_)
  refine lv_goto (tgt := 35) hx hb dX0_costOfAll_72 (by decide) ?_
  exact k.2 p e s m below meth c _ _ _ _ _ X I hn.1 hn.2 (lv_sub hl [1, 2, 3, 0] rfl)
theorem v_X0_costOfAll {G : sG} {d : Nat} {vs0 : List Value} {σ0 : sS} {x : sL} {z : sZ Int32} {r : Int32 × sS} (hs : S_X0_costOfAll x = some z) (k : s_K G (d + 4) M_X0_costOfAll vs0 σ0 Y_X0_costOfAll e_I z r) : s_V G (d + 4) M_X0_costOfAll vs0 σ0 Y_X0_costOfAll x (e_I r) := by
  obtain ⟨pc, vs, σ⟩ := x
  unfold S_X0_costOfAll at hs
  dsimp only at hs
  rcases s_ite hs with ⟨c, hs⟩ | ⟨-, hs⟩
  · subst c
    unfold U_X0_costOfAll_0 at hs
    obtain ⟨a0, g0, hs⟩ := s_bind hs
    obtain ⟨a1, g1, hs⟩ := s_bind hs
    obtain ⟨u9, ge, hs⟩ := s_bind hs
    rw [g_r_to g0, g_i_to g1, g_e_to ge]
    exact v_X0_costOfAll_0 hs k
  rcases s_ite hs with ⟨c, hs⟩ | ⟨-, hs⟩
  · subst c
    unfold U_X0_costOfAll_27 at hs
    obtain ⟨a0, g0, hs⟩ := s_bind hs
    obtain ⟨u9, ge, hs⟩ := s_bind hs
    rw [g_r_to g0, g_e_to ge]
    exact v_X0_costOfAll_27 hs k
  rcases s_ite hs with ⟨c, hs⟩ | ⟨-, hs⟩
  · subst c
    unfold U_X0_costOfAll_28 at hs
    obtain ⟨a0, g0, hs⟩ := s_bind hs
    obtain ⟨a1, g1, hs⟩ := s_bind hs
    obtain ⟨u9, ge, hs⟩ := s_bind hs
    rw [g_r_to g0, g_l_to g1, g_e_to ge]
    exact v_X0_costOfAll_28 hs k
  rcases s_ite hs with ⟨c, hs⟩ | ⟨-, hs⟩
  · subst c
    unfold U_X0_costOfAll_35 at hs
    obtain ⟨a0, g0, hs⟩ := s_bind hs
    obtain ⟨a1, g1, hs⟩ := s_bind hs
    obtain ⟨a2, g2, hs⟩ := s_bind hs
    obtain ⟨a3, g3, hs⟩ := s_bind hs
    obtain ⟨u9, ge, hs⟩ := s_bind hs
    rw [g_r_to g0, g_l_to g1, g_i_to g2, g_i_to g3, g_e_to ge]
    exact v_X0_costOfAll_35 hs k
  rcases s_ite hs with ⟨c, hs⟩ | ⟨-, hs⟩
  · subst c
    unfold U_X0_costOfAll_69 at hs
    obtain ⟨a0, g0, hs⟩ := s_bind hs
    obtain ⟨a1, g1, hs⟩ := s_bind hs
    obtain ⟨a2, g2, hs⟩ := s_bind hs
    obtain ⟨a3, g3, hs⟩ := s_bind hs
    obtain ⟨u9, ge, hs⟩ := s_bind hs
    rw [g_r_to g0, g_l_to g1, g_i_to g2, g_i_to g3, g_e_to ge]
    exact v_X0_costOfAll_69 hs k
  cases hs
theorem t_X0_costOfAll {G : sG} {d : Nat} {v0 : Nat} {v1 : Int32} {σ : sS} {q : Int32 × sS} (h : F_X0_costOfAll v0 v1 σ = some q) : s_T G (d + 4) M_X0_costOfAll [.ref v0, .int v1] σ (e_I q) := by
  unfold F_X0_costOfAll at h
  obtain ⟨-, -, h⟩ := s_bind h
  exact s_ofV rfl (by decide) (Nat.le_of_ble_eq_true rfl) rfl rfl (s_run_ind (V := fun x r => s_V G (d + 4) M_X0_costOfAll [.ref v0, .int v1] σ Y_X0_costOfAll x (e_I r)) (fun x z r hs hk => v_X0_costOfAll hs (by cases z <;> exact hk)) h)
/-! X7_spent -/
noncomputable def T_X7_spent_0 (v0 : Nat) (v1 : Int32) (σ : sS) : Option (sZ (Int32 ⊕ String)) :=
  (F_X7_needLine v0 v1 σ).bind fun q1 => s_sum q1.1 (fun x2 => (s_fr q1.2 v0 7 5).bind fun x4 =>
  (F_X0_costOfAll x4 v1 q1.2).bind fun q5 =>
  some (.inr (.inl q5.1, q5.2))) (fun E3 => some (.inr (.inr E3, q1.2)))
noncomputable def U_X7_spent_0 (vs : List Value) (σ : sS) : Option (sZ (Int32 ⊕ String)) := (g_r vs).bind fun a0 => (g_i a0.2).bind fun a1 => (g_e a1.2).bind fun _ => T_X7_spent_0 a0.1 a1.1 σ
noncomputable def S_X7_spent (x : sL) : Option (sZ (Int32 ⊕ String)) := if x.1 = 0 then U_X7_spent_0 x.2.1 x.2.2 else none
def Y_X7_spent (pc : Nat) : List Nat := if pc = 0 then [0, 1] else []
noncomputable def F_X7_spent (v0 : Nat) (v1 : Int32) (σ : sS) : Option ((Int32 ⊕ String) × sS) := (s_is σ v0 7).bind fun _ => s_run S_X7_spent (0, [.ref v0, .int v1], σ)
theorem l_X7_spent_0 {v0 : Nat} {v1 : Int32} {σ : sS} {z : sZ (Int32 ⊕ String)} (hf : T_X7_spent_0 v0 v1 σ = some z) : s_lz σ z := by
  unfold T_X7_spent_0 at hf
  obtain ⟨q1, hh, hf⟩ := s_bind hf
  refine s_lz.tr (l_X7_needLine hh) ?_
  rcases s_sum_some hf with ⟨x2, -, hf⟩ | ⟨E3, -, hf⟩
  · obtain ⟨x4, -, hf⟩ := s_bind hf
    obtain ⟨q5, hh, hf⟩ := s_bind hf
    refine s_lz.tr (l_X0_costOfAll hh) ?_
    cases hf
    exact s_le.rf
  · cases hf
    exact s_le.rf
theorem l_X7_spent_s {x : sL} {z : sZ (Int32 ⊕ String)} (hs : S_X7_spent x = some z) : s_lz x.2.2 z := by
  obtain ⟨pc, vs, σ⟩ := x
  unfold S_X7_spent at hs
  dsimp only at hs ⊢
  rcases s_ite hs with ⟨c, hs⟩ | ⟨-, hs⟩
  · subst c
    unfold U_X7_spent_0 at hs
    obtain ⟨a0, g0, hs⟩ := s_bind hs
    obtain ⟨a1, g1, hs⟩ := s_bind hs
    obtain ⟨u9, ge, hs⟩ := s_bind hs
    exact l_X7_spent_0 hs
  cases hs
theorem l_X7_spent {v0 : Nat} {v1 : Int32} {σ : sS} {q : (Int32 ⊕ String) × sS} (h : F_X7_spent v0 v1 σ = some q) : s_le σ q.2 := by
  unfold F_X7_spent at h
  obtain ⟨-, -, h⟩ := s_bind h
  exact s_run_ind (V := fun x r => s_le x.2.2 r.2) (fun x z r hs hk => by
    have h9 := l_X7_spent_s hs
    cases z with
    | inl y => exact s_le.tr h9 hk
    | inr q => cases hk; exact h9) h
theorem b_X7_spent {v0 : Nat} {v1 : Int32} {σ : sS} {q : (Int32 ⊕ String) × sS} (h : F_X7_spent v0 v1 σ = some q) : ∃ fs, σ.1 v0 = some (.inr (7, fs)) := by
  unfold F_X7_spent at h
  obtain ⟨u, hu, -⟩ := s_bind h
  exact s_is_to hu
set_option maxRecDepth 100000 in
set_option maxHeartbeats 4000000 in
theorem v_X7_spent_0 {G : sG} {d : Nat} {vs0 : List Value} {σ0 : sS} {v0 : Nat} {v1 : Int32} {σ : sS} {z : sZ (Int32 ⊕ String)} {r : (Int32 ⊕ String) × sS} (hf : T_X7_spent_0 v0 v1 σ = some z) (k : s_K G (d + 5) M_X7_spent vs0 σ0 Y_X7_spent e_IX z r) : s_V G (d + 5) M_X7_spent vs0 σ0 Y_X7_spent (0, [.ref v0, .int v1], σ) (e_IX r) := by
  have le0 : s_le σ (e_IX r).2 := s_lek hem_IX (l_X7_spent_0 hf) k
  refine ⟨le0, ?_⟩
  intro p e s m below meth c H locs cells slots ls X I hn1 hn2 hl
  have hn : cells + σ0.2.1 ≤ σ.2.1 ∧ slots + σ0.2.2.1 ≤ σ.2.2.1 := ⟨hn1, hn2⟩
  have hl : lv_has ls 2 [(0, .ref v0), (1, .int v1)] := hl
  have hx := X.1
  have hb : c.code = cX7_spent := X.2.1
  have hown : s.vm.findClass RX7 = some m.cls := X.2.2.2.2.2.1
  have hts := X.2.2.2.2.2.2.1
  refine W.eq (g2 := F0 m 0 ls []) rfl ?_
  unfold T_X7_spent_0 at hf
  obtain ⟨q1, h1, hf⟩ := s_bind hf
  refine lv_aload_n hx hb dX7_spent_0 rfl (lv_at hl 0 rfl) ?_
  refine lv_iload_n hx hb dX7_spent_1 rfl (lv_at hl 1 rfl) ?_
  rcases s_sum_some hf with ⟨x2, hq2, hf⟩ | ⟨E3, hq2, hf⟩
  · have le3 : s_le q1.2 (e_IX r).2 := by
      refine s_lek hem_IX ?_ k
      obtain ⟨x4, -, hf⟩ := s_bind hf
      obtain ⟨q5, hh, hf⟩ := s_bind hf
      refine s_lz.tr (l_X0_costOfAll hh) ?_
      cases hf
      exact s_le.rf
    refine r_callV (Y := M_X7_needLine) (v := none) X I w_1138 my_X7_needLine (by omega) (t_X7_needLine (G := G) (d := d + 3) h1) (b_X7_needLine h1) (e_VX_l hq2) rfl hl.1 rfl (Nat.le_of_ble_eq_true rfl) hn le3 dX7_spent_2 (fun H locs cells slots I hn1 hn2 => ?_)
    have I : s_I G q1.2 s H locs := I
    have hn : cells + σ0.2.1 ≤ q1.2.2.1 ∧ slots + σ0.2.2.1 ≤ q1.2.2.2.1 := ⟨hn1, hn2⟩
    obtain ⟨x4, h4, hf⟩ := s_bind hf
    obtain ⟨q5, h5, hf⟩ := s_bind hf
    cases hf
    have k : _ = r := k
    subst k
    have le6 : s_le q5.2 q5.2 := s_le.rf
    refine lv_aload_n hx hb dX7_spent_5 rfl (lv_at hl 0 rfl) ?_
    refine r_gr X I fl_X7_49 h4 dX7_spent_6 ?_
    refine lv_iload_n hx hb dX7_spent_9 rfl (lv_at hl 1 rfl) ?_
    refine r_callV (Y := M_X0_costOfAll) (v := some (.int q5.1)) X I w_1221 my_X0_costOfAll (by omega) (t_X0_costOfAll (G := G) (d := d + 0) h5) (b_X0_costOfAll h5) rfl rfl hl.1 rfl (Nat.le_of_ble_eq_true rfl) hn le6 dX7_spent_10 (fun H locs cells slots I hn1 hn2 => ?_)
    have I : s_I G q5.2 s H locs := I
    have hn : cells + σ0.2.1 ≤ q5.2.2.1 ∧ slots + σ0.2.2.1 ≤ q5.2.2.2.1 := ⟨hn1, hn2⟩
    exact r_iret X I rfl rfl rfl hn dX7_spent_13
  · cases hf
    have k : _ = r := k
    subst k
    exact r_callVx (Y := M_X7_needLine) X I rfl w_1138 my_X7_needLine (by omega) (t_X7_needLine (G := G) (d := d + 3) h1) (b_X7_needLine h1) (e_VX_r hq2) rfl hl.1 rfl (Nat.le_of_ble_eq_true rfl) hn rfl dX7_spent_2
theorem v_X7_spent {G : sG} {d : Nat} {vs0 : List Value} {σ0 : sS} {x : sL} {z : sZ (Int32 ⊕ String)} {r : (Int32 ⊕ String) × sS} (hs : S_X7_spent x = some z) (k : s_K G (d + 5) M_X7_spent vs0 σ0 Y_X7_spent e_IX z r) : s_V G (d + 5) M_X7_spent vs0 σ0 Y_X7_spent x (e_IX r) := by
  obtain ⟨pc, vs, σ⟩ := x
  unfold S_X7_spent at hs
  dsimp only at hs
  rcases s_ite hs with ⟨c, hs⟩ | ⟨-, hs⟩
  · subst c
    unfold U_X7_spent_0 at hs
    obtain ⟨a0, g0, hs⟩ := s_bind hs
    obtain ⟨a1, g1, hs⟩ := s_bind hs
    obtain ⟨u9, ge, hs⟩ := s_bind hs
    rw [g_r_to g0, g_i_to g1, g_e_to ge]
    exact v_X7_spent_0 hs k
  cases hs
theorem t_X7_spent {G : sG} {d : Nat} {v0 : Nat} {v1 : Int32} {σ : sS} {q : (Int32 ⊕ String) × sS} (h : F_X7_spent v0 v1 σ = some q) : s_T G (d + 5) M_X7_spent [.ref v0, .int v1] σ (e_IX q) := by
  unfold F_X7_spent at h
  obtain ⟨-, -, h⟩ := s_bind h
  exact s_ofV rfl (by decide) (Nat.le_of_ble_eq_true rfl) rfl rfl (s_run_ind (V := fun x r => s_V G (d + 5) M_X7_spent [.ref v0, .int v1] σ Y_X7_spent x (e_IX r)) (fun x z r hs hk => v_X7_spent hs (by cases z <;> exact hk)) h)
/-! L_spent -/
noncomputable def T_L_spent_0 (v0 : Nat) (v1 : Int32) (v2 : Nat) (σ : sS) : Option (sZ Int32) :=
  (F_X7_spent v0 v1 σ).bind fun q1 => s_sum q1.1 (fun x2 => (s_sl q1.2 v2 0 ((x2 : Int32).toInt64)).bind fun σ4 =>
  some (.inr (0, σ4))) (fun E3 => if E3 = "java/lang/IndexOutOfBoundsException" then (some (.inr (1, q1.2))) else none)
noncomputable def U_L_spent_0 (vs : List Value) (σ : sS) : Option (sZ Int32) := (g_r vs).bind fun a0 => (g_i a0.2).bind fun a1 => (g_r a1.2).bind fun a2 => (g_e a2.2).bind fun _ => T_L_spent_0 a0.1 a1.1 a2.1 σ
noncomputable def S_L_spent (x : sL) : Option (sZ Int32) := if x.1 = 0 then U_L_spent_0 x.2.1 x.2.2 else none
def Y_L_spent (pc : Nat) : List Nat := if pc = 0 then [0, 1, 2] else []
noncomputable def F_L_spent (v0 : Nat) (v1 : Int32) (v2 : Nat) (σ : sS) : Option (Int32 × sS) := s_run S_L_spent (0, [.ref v0, .int v1, .ref v2], σ)
theorem l_L_spent_0 {v0 : Nat} {v1 : Int32} {v2 : Nat} {σ : sS} {z : sZ Int32} (hf : T_L_spent_0 v0 v1 v2 σ = some z) : s_lz σ z := by
  unfold T_L_spent_0 at hf
  obtain ⟨q1, hh, hf⟩ := s_bind hf
  refine s_lz.tr (l_X7_spent hh) ?_
  rcases s_sum_some hf with ⟨x2, -, hf⟩ | ⟨E3, -, hf⟩
  · obtain ⟨σ4, hh, hf⟩ := s_bind hf
    refine s_lz.tr (s_le2 (s_sl_2 hh)) ?_
    cases hf
    exact s_le.rf
  · rcases s_ite hf with ⟨-, hf⟩ | ⟨-, hf⟩
    · cases hf
      exact s_le.rf
    cases hf
theorem l_L_spent_s {x : sL} {z : sZ Int32} (hs : S_L_spent x = some z) : s_lz x.2.2 z := by
  obtain ⟨pc, vs, σ⟩ := x
  unfold S_L_spent at hs
  dsimp only at hs ⊢
  rcases s_ite hs with ⟨c, hs⟩ | ⟨-, hs⟩
  · subst c
    unfold U_L_spent_0 at hs
    obtain ⟨a0, g0, hs⟩ := s_bind hs
    obtain ⟨a1, g1, hs⟩ := s_bind hs
    obtain ⟨a2, g2, hs⟩ := s_bind hs
    obtain ⟨u9, ge, hs⟩ := s_bind hs
    exact l_L_spent_0 hs
  cases hs
theorem l_L_spent {v0 : Nat} {v1 : Int32} {v2 : Nat} {σ : sS} {q : Int32 × sS} (h : F_L_spent v0 v1 v2 σ = some q) : s_le σ q.2 := by
  unfold F_L_spent at h
  exact s_run_ind (V := fun x r => s_le x.2.2 r.2) (fun x z r hs hk => by
    have h9 := l_L_spent_s hs
    cases z with
    | inl y => exact s_le.tr h9 hk
    | inr q => cases hk; exact h9) h
set_option maxRecDepth 100000 in
set_option maxHeartbeats 4000000 in
theorem v_L_spent_0 {G : sG} {d : Nat} {vs0 : List Value} {σ0 : sS} {v0 : Nat} {v1 : Int32} {v2 : Nat} {σ : sS} {z : sZ Int32} {r : Int32 × sS} (hf : T_L_spent_0 v0 v1 v2 σ = some z) (k : s_K G (d + 6) M_L_spent vs0 σ0 Y_L_spent e_I z r) : s_V G (d + 6) M_L_spent vs0 σ0 Y_L_spent (0, [.ref v0, .int v1, .ref v2], σ) (e_I r) := by
  have le0 : s_le σ (e_I r).2 := s_lek hem_I (l_L_spent_0 hf) k
  refine ⟨le0, ?_⟩
  intro p e s m below meth c H locs cells slots ls X I hn1 hn2 hl
  have hn : cells + σ0.2.1 ≤ σ.2.1 ∧ slots + σ0.2.2.1 ≤ σ.2.2.1 := ⟨hn1, hn2⟩
  have hl : lv_has ls 4 [(0, .ref v0), (1, .int v1), (2, .ref v2)] := hl
  have hx := X.1
  have hb : c.code = cL_spent := X.2.1
  have hown : s.vm.findClass RL = some m.cls := X.2.2.2.2.2.1
  have hts := X.2.2.2.2.2.2.1
  refine W.eq (g2 := F0 m 0 ls []) rfl ?_
  unfold T_L_spent_0 at hf
  obtain ⟨q1, h1, hf⟩ := s_bind hf
  refine lv_aload_n hx hb dL_spent_0 rfl (lv_at hl 2 rfl) ?_
  refine lv_iconst (v := 0) hx hb dL_spent_1 (by decide) ?_
  refine lv_aload_n hx hb dL_spent_2 rfl (lv_at hl 0 rfl) ?_
  refine lv_iload_n hx hb dL_spent_3 rfl (lv_at hl 1 rfl) ?_
  rcases s_sum_some hf with ⟨x2, hq2, hf⟩ | ⟨E3, hq2, hf⟩
  · have le3 : s_le q1.2 (e_I r).2 := by
      refine s_lek hem_I ?_ k
      obtain ⟨σ4, hh, hf⟩ := s_bind hf
      refine s_lz.tr (s_le2 (s_sl_2 hh)) ?_
      cases hf
      exact s_le.rf
    refine r_callV (Y := M_X7_spent) (v := some (.int x2)) X I w_1217 my_X7_spent (by omega) (t_X7_spent (G := G) (d := d + 0) h1) (b_X7_spent h1) (e_IX_l hq2) rfl hl.1 rfl (Nat.le_of_ble_eq_true rfl) hn le3 dL_spent_4 (fun H locs cells slots I hn1 hn2 => ?_)
    have I : s_I G q1.2 s H locs := I
    have hn : cells + σ0.2.1 ≤ q1.2.2.1 ∧ slots + σ0.2.2.1 ≤ q1.2.2.2.1 := ⟨hn1, hn2⟩
    obtain ⟨σ4, h4, hf⟩ := s_bind hf
    cases hf
    have k : _ = r := k
    subst k
    have le5 : s_le σ4 σ4 := s_le.rf
    refine lv_i2l hx hb dL_spent_7 rfl ?_
    refine r_last X I h4 dL_spent_8 (fun H locs I => ?_)
    have hn := s_k2 (s_sl_2 h4) hn
    refine lv_goto (tgt := 15) hx hb dL_spent_9 (by decide) ?_
    refine lv_iconst (v := 0) hx hb dL_spent_15 (by decide) ?_
    exact r_iret X I rfl rfl rfl hn dL_spent_16
  · rcases s_ite hf with ⟨c6, hf⟩ | ⟨c6, hf⟩
    · subst c6
      have le7 : s_le q1.2 (e_I r).2 := by
        refine s_lek hem_I ?_ k
        cases hf
        exact s_le.rf
      refine r_callVh (x := (0, 9, 12, 27)) (Y := M_X7_spent) (E := "java/lang/IndexOutOfBoundsException") (name := "java/lang/IndexOutOfBoundsException") X I [] [] rfl (fun z hz => by cases hz) rfl (by decide) w_1011 (by decide +kernel) w_1217 my_X7_spent (by omega) (t_X7_spent (G := G) (d := d + 0) h1) (b_X7_spent h1) (e_IX_r hq2) rfl hl.1 rfl (Nat.le_of_ble_eq_true rfl) hn le7 dL_spent_4 (fun a5 H locs cells slots I hn1 hn2 => ?_)
      have I : s_I G q1.2 s H locs := I
      have hn : cells + σ0.2.1 ≤ q1.2.2.1 ∧ slots + σ0.2.2.1 ≤ q1.2.2.2.1 := ⟨hn1, hn2⟩
      cases hf
      have k : _ = r := k
      subst k
      refine lv_astore_n (lv' := [(3, .ref a5), (0, .ref v0), (1, .int v1), (2, .ref v2)]) hx hb dL_spent_12 rfl hl (by decide) rfl (fun ls hl => ?_)
      refine lv_iconst (v := 1) hx hb dL_spent_13 (by decide) ?_
      exact r_iret X I rfl rfl rfl hn dL_spent_14
    cases hf
theorem v_L_spent {G : sG} {d : Nat} {vs0 : List Value} {σ0 : sS} {x : sL} {z : sZ Int32} {r : Int32 × sS} (hs : S_L_spent x = some z) (k : s_K G (d + 6) M_L_spent vs0 σ0 Y_L_spent e_I z r) : s_V G (d + 6) M_L_spent vs0 σ0 Y_L_spent x (e_I r) := by
  obtain ⟨pc, vs, σ⟩ := x
  unfold S_L_spent at hs
  dsimp only at hs
  rcases s_ite hs with ⟨c, hs⟩ | ⟨-, hs⟩
  · subst c
    unfold U_L_spent_0 at hs
    obtain ⟨a0, g0, hs⟩ := s_bind hs
    obtain ⟨a1, g1, hs⟩ := s_bind hs
    obtain ⟨a2, g2, hs⟩ := s_bind hs
    obtain ⟨u9, ge, hs⟩ := s_bind hs
    rw [g_r_to g0, g_i_to g1, g_r_to g2, g_e_to ge]
    exact v_L_spent_0 hs k
  cases hs
theorem t_L_spent {G : sG} {d : Nat} {v0 : Nat} {v1 : Int32} {v2 : Nat} {σ : sS} {q : Int32 × sS} (h : F_L_spent v0 v1 v2 σ = some q) : s_T G (d + 6) M_L_spent [.ref v0, .int v1, .ref v2] σ (e_I q) := by
  unfold F_L_spent at h
  exact s_ofVH rfl (by decide) (Nat.le_of_ble_eq_true rfl) rfl rfl (s_run_ind (V := fun x r => s_V G (d + 6) M_L_spent [.ref v0, .int v1, .ref v2] σ Y_L_spent x (e_I r)) (fun x z r hs hk => v_L_spent hs (by cases z <;> exact hk)) h)
