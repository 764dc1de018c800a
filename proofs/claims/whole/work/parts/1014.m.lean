/-! X0_isHonest -/
noncomputable def T_X0_isHonest_0 (v0 : Nat) (v1 : Int32) (σ : sS) : Option (sZ Int32) :=
  (s_fr σ v0 0 5).bind fun x1 =>
  (F_X1_ofLine x1 v1 2 σ).bind fun q2 =>
  (s_fr q2.2 v0 0 5).bind fun x3 =>
  (s_fr q2.2 v0 0 5).bind fun x4 =>
  (F_X1_ofLine x4 v1 0 q2.2).bind fun q5 =>
  (F_X1_hasRule x3 q5.1 q2.1 q5.2).bind fun q6 =>
  if q6.1 = 0 then (some (.inr (0, q6.2)))
  else ((F_X0_premisesOf v0 v1 q6.2).bind fun q7 =>
  (F_X0_asked v0 q2.1 q7.2).bind fun q8 =>
  if q7.1 = q8.1 then ((F_X0_fits v0 v1 q2.1 q8.2).bind fun q9 =>
  if q9.1 = 0 then (some (.inr (0, q9.2)))
  else (some (.inr (1, q9.2))))
  else (some (.inr (0, q8.2))))
noncomputable def U_X0_isHonest_0 (vs : List Value) (σ : sS) : Option (sZ Int32) := (g_r vs).bind fun a0 => (g_i a0.2).bind fun a1 => (g_e a1.2).bind fun _ => T_X0_isHonest_0 a0.1 a1.1 σ
noncomputable def S_X0_isHonest (x : sL) : Option (sZ Int32) := if x.1 = 0 then U_X0_isHonest_0 x.2.1 x.2.2 else none
def Y_X0_isHonest (pc : Nat) : List Nat := if pc = 0 then [0, 1] else []
noncomputable def F_X0_isHonest (v0 : Nat) (v1 : Int32) (σ : sS) : Option (Int32 × sS) := (s_is σ v0 0).bind fun _ => s_run S_X0_isHonest (0, [.ref v0, .int v1], σ)
theorem l_X0_isHonest_0 {v0 : Nat} {v1 : Int32} {σ : sS} {z : sZ Int32} (hf : T_X0_isHonest_0 v0 v1 σ = some z) : s_lz σ z := by
  unfold T_X0_isHonest_0 at hf
  obtain ⟨x1, -, hf⟩ := s_bind hf
  obtain ⟨q2, hh, hf⟩ := s_bind hf
  refine s_lz.tr (l_X1_ofLine hh) ?_
  obtain ⟨x3, -, hf⟩ := s_bind hf
  obtain ⟨x4, -, hf⟩ := s_bind hf
  obtain ⟨q5, hh, hf⟩ := s_bind hf
  refine s_lz.tr (l_X1_ofLine hh) ?_
  obtain ⟨q6, hh, hf⟩ := s_bind hf
  refine s_lz.tr (l_X1_hasRule hh) ?_
  rcases s_ite hf with ⟨-, hf⟩ | ⟨-, hf⟩
  · cases hf
    exact s_le.rf
  · obtain ⟨q7, hh, hf⟩ := s_bind hf
    refine s_lz.tr (l_X0_premisesOf hh) ?_
    obtain ⟨q8, hh, hf⟩ := s_bind hf
    refine s_lz.tr (l_X0_asked hh) ?_
    rcases s_ite hf with ⟨-, hf⟩ | ⟨-, hf⟩
    · obtain ⟨q9, hh, hf⟩ := s_bind hf
      refine s_lz.tr (l_X0_fits hh) ?_
      rcases s_ite hf with ⟨-, hf⟩ | ⟨-, hf⟩
      · cases hf
        exact s_le.rf
      · cases hf
        exact s_le.rf
    · cases hf
      exact s_le.rf
theorem l_X0_isHonest_s {x : sL} {z : sZ Int32} (hs : S_X0_isHonest x = some z) : s_lz x.2.2 z := by
  obtain ⟨pc, vs, σ⟩ := x
  unfold S_X0_isHonest at hs
  dsimp only at hs ⊢
  rcases s_ite hs with ⟨c, hs⟩ | ⟨-, hs⟩
  · subst c
    unfold U_X0_isHonest_0 at hs
    obtain ⟨a0, g0, hs⟩ := s_bind hs
    obtain ⟨a1, g1, hs⟩ := s_bind hs
    obtain ⟨u9, ge, hs⟩ := s_bind hs
    exact l_X0_isHonest_0 hs
  cases hs
theorem l_X0_isHonest {v0 : Nat} {v1 : Int32} {σ : sS} {q : Int32 × sS} (h : F_X0_isHonest v0 v1 σ = some q) : s_le σ q.2 := by
  unfold F_X0_isHonest at h
  obtain ⟨-, -, h⟩ := s_bind h
  exact s_run_ind (V := fun x r => s_le x.2.2 r.2) (fun x z r hs hk => by
    have h9 := l_X0_isHonest_s hs
    cases z with
    | inl y => exact s_le.tr h9 hk
    | inr q => cases hk; exact h9) h
theorem b_X0_isHonest {v0 : Nat} {v1 : Int32} {σ : sS} {q : Int32 × sS} (h : F_X0_isHonest v0 v1 σ = some q) : ∃ fs, σ.1 v0 = some (.inr (0, fs)) := by
  unfold F_X0_isHonest at h
  obtain ⟨u, hu, -⟩ := s_bind h
  exact s_is_to hu
set_option maxRecDepth 100000 in
set_option maxHeartbeats 4000000 in
theorem v_X0_isHonest_0 {G : sG} {d : Nat} {vs0 : List Value} {σ0 : sS} {v0 : Nat} {v1 : Int32} {σ : sS} {z : sZ Int32} {r : Int32 × sS} (hf : T_X0_isHonest_0 v0 v1 σ = some z) (k : s_K G (d + 5) M_X0_isHonest vs0 σ0 Y_X0_isHonest e_I z r) : s_V G (d + 5) M_X0_isHonest vs0 σ0 Y_X0_isHonest (0, [.ref v0, .int v1], σ) (e_I r) := by
  have le0 : s_le σ (e_I r).2 := s_lek hem_I (l_X0_isHonest_0 hf) k
  refine ⟨le0, ?_⟩
  intro p e s m below meth c H locs cells slots ls X I hn1 hn2 hl
  have hn : cells + σ0.2.1 ≤ σ.2.1 ∧ slots + σ0.2.2.1 ≤ σ.2.2.1 := ⟨hn1, hn2⟩
  have hl : lv_has ls 3 [(0, .ref v0), (1, .int v1)] := hl
  have hx := X.1
  have hb : c.code = cX0_isHonest := X.2.1
  have hown : s.vm.findClass RX0 = some m.cls := X.2.2.2.2.2.1
  have hts := X.2.2.2.2.2.2.1
  refine W.eq (g2 := F0 m 0 ls []) rfl ?_
  unfold T_X0_isHonest_0 at hf
  obtain ⟨x1, h1, hf⟩ := s_bind hf
  obtain ⟨q2, h2, hf⟩ := s_bind hf
  obtain ⟨x3, h3, hf⟩ := s_bind hf
  obtain ⟨x4, h4, hf⟩ := s_bind hf
  obtain ⟨q5, h5, hf⟩ := s_bind hf
  obtain ⟨q6, h6, hf⟩ := s_bind hf
  have le7 : s_le q6.2 (e_I r).2 := by
    refine s_lek hem_I ?_ k
    rcases s_ite hf with ⟨-, hf⟩ | ⟨-, hf⟩
    · cases hf
      exact s_le.rf
    · obtain ⟨q7, hh, hf⟩ := s_bind hf
      refine s_lz.tr (l_X0_premisesOf hh) ?_
      obtain ⟨q8, hh, hf⟩ := s_bind hf
      refine s_lz.tr (l_X0_asked hh) ?_
      rcases s_ite hf with ⟨-, hf⟩ | ⟨-, hf⟩
      · obtain ⟨q9, hh, hf⟩ := s_bind hf
        refine s_lz.tr (l_X0_fits hh) ?_
        rcases s_ite hf with ⟨-, hf⟩ | ⟨-, hf⟩
        · cases hf
          exact s_le.rf
        · cases hf
          exact s_le.rf
      · cases hf
        exact s_le.rf
  have le8 := s_le.tr (l_X1_hasRule h6) le7
  have le9 := s_le.tr (l_X1_ofLine h5) le8
  refine lv_aload_n hx hb dX0_isHonest_0 rfl (lv_at hl 0 rfl) ?_
  refine r_gr X I fl_X0_15 h1 dX0_isHonest_1 ?_
  refine lv_iload_n hx hb dX0_isHonest_4 rfl (lv_at hl 1 rfl) ?_
  refine lv_iconst (v := 2) hx hb dX0_isHonest_5 (by decide) ?_
  refine r_callV (Y := M_X1_ofLine) (v := some (.int q2.1)) X I w_517 my_X1_ofLine (by omega) (t_X1_ofLine (G := G) (d := d + 3) h2) (b_X1_ofLine h2) rfl rfl hl.1 rfl (Nat.le_of_ble_eq_true rfl) hn le9 dX0_isHonest_6 (fun H locs cells slots I hn1 hn2 => ?_)
  have I : s_I G q2.2 s H locs := I
  have hn : cells + σ0.2.1 ≤ q2.2.2.1 ∧ slots + σ0.2.2.1 ≤ q2.2.2.2.1 := ⟨hn1, hn2⟩
  refine lv_istore_n (lv' := [(2, .int q2.1), (0, .ref v0), (1, .int v1)]) hx hb dX0_isHonest_9 rfl hl (by decide) rfl (fun ls hl => ?_)
  refine lv_aload_n hx hb dX0_isHonest_10 rfl (lv_at hl 1 rfl) ?_
  refine r_gr X I fl_X0_15 h3 dX0_isHonest_11 ?_
  refine lv_aload_n hx hb dX0_isHonest_14 rfl (lv_at hl 1 rfl) ?_
  refine r_gr X I fl_X0_15 h4 dX0_isHonest_15 ?_
  refine lv_iload_n hx hb dX0_isHonest_18 rfl (lv_at hl 2 rfl) ?_
  refine lv_iconst (v := 0) hx hb dX0_isHonest_19 (by decide) ?_
  refine r_callV (Y := M_X1_ofLine) (v := some (.int q5.1)) X I w_517 my_X1_ofLine (by omega) (t_X1_ofLine (G := G) (d := d + 3) h5) (b_X1_ofLine h5) rfl rfl hl.1 rfl (Nat.le_of_ble_eq_true rfl) hn le8 dX0_isHonest_20 (fun H locs cells slots I hn1 hn2 => ?_)
  have I : s_I G q5.2 s H locs := I
  have hn : cells + σ0.2.1 ≤ q5.2.2.1 ∧ slots + σ0.2.2.1 ≤ q5.2.2.2.1 := ⟨hn1, hn2⟩
  refine lv_iload_n hx hb dX0_isHonest_23 rfl (lv_at hl 0 rfl) ?_
  refine r_callV (Y := M_X1_hasRule) (v := some (.int q6.1)) X I w_546 my_X1_hasRule (by omega) (t_X1_hasRule (G := G) (d := d + 3) h6) (b_X1_hasRule h6) rfl rfl hl.1 rfl (Nat.le_of_ble_eq_true rfl) hn le7 dX0_isHonest_24 (fun H locs cells slots I hn1 hn2 => ?_)
  have I : s_I G q6.2 s H locs := I
  have hn : cells + σ0.2.1 ≤ q6.2.2.1 ∧ slots + σ0.2.2.1 ≤ q6.2.2.2.1 := ⟨hn1, hn2⟩
  rcases s_ite hf with ⟨c10, hf⟩ | ⟨c10, hf⟩
  · refine lv_if_eq (tgt := 56) hx hb dX0_isHonest_27 (by decide) (fun _ => ?_) (fun n => absurd c10 n)
    cases hf
    have k : _ = r := k
    subst k
    refine lv_iconst (v := 0) hx hb dX0_isHonest_56 (by decide) ?_
    exact r_iret X I rfl rfl rfl hn dX0_isHonest_57
  · refine lv_if_eq (tgt := 56) hx hb dX0_isHonest_27 (by decide) (fun n => absurd n c10) (fun _ => ?_)
    obtain ⟨q7, h11, hf⟩ := s_bind hf
    obtain ⟨q8, h12, hf⟩ := s_bind hf
    have le13 : s_le q8.2 (e_I r).2 := by
      refine s_lek hem_I ?_ k
      rcases s_ite hf with ⟨-, hf⟩ | ⟨-, hf⟩
      · obtain ⟨q9, hh, hf⟩ := s_bind hf
        refine s_lz.tr (l_X0_fits hh) ?_
        rcases s_ite hf with ⟨-, hf⟩ | ⟨-, hf⟩
        · cases hf
          exact s_le.rf
        · cases hf
          exact s_le.rf
      · cases hf
        exact s_le.rf
    have le14 := s_le.tr (l_X0_asked h12) le13
    refine lv_aload_n hx hb dX0_isHonest_30 rfl (lv_at hl 1 rfl) ?_
    refine lv_iload_n hx hb dX0_isHonest_31 rfl (lv_at hl 2 rfl) ?_
    refine r_callV (Y := M_X0_premisesOf) (v := some (.int q7.1)) X I w_550 my_X0_premisesOf (by omega) (t_X0_premisesOf (G := G) (d := d + 1) h11) (b_X0_premisesOf h11) rfl rfl hl.1 rfl (Nat.le_of_ble_eq_true rfl) hn le14 dX0_isHonest_32 (fun H locs cells slots I hn1 hn2 => ?_)
    have I : s_I G q7.2 s H locs := I
    have hn : cells + σ0.2.1 ≤ q7.2.2.1 ∧ slots + σ0.2.2.1 ≤ q7.2.2.2.1 := ⟨hn1, hn2⟩
    refine lv_aload_n hx hb dX0_isHonest_35 rfl (lv_at hl 1 rfl) ?_
    refine lv_iload_n hx hb dX0_isHonest_36 rfl (lv_at hl 0 rfl) ?_
    refine r_callV (Y := M_X0_asked) (v := some (.int q8.1)) X I w_558 my_X0_asked (by omega) (t_X0_asked (G := G) (d := d + 3) h12) (b_X0_asked h12) rfl rfl hl.1 rfl (Nat.le_of_ble_eq_true rfl) hn le13 dX0_isHonest_37 (fun H locs cells slots I hn1 hn2 => ?_)
    have I : s_I G q8.2 s H locs := I
    have hn : cells + σ0.2.1 ≤ q8.2.2.1 ∧ slots + σ0.2.2.1 ≤ q8.2.2.2.1 := ⟨hn1, hn2⟩
    rcases s_ite hf with ⟨c15, hf⟩ | ⟨c15, hf⟩
    · refine lv_icmp_ne (tgt := 56) hx hb dX0_isHonest_40 (by decide) (fun n => absurd c15 n) (fun _ => ?_)
      obtain ⟨q9, h16, hf⟩ := s_bind hf
      have le17 : s_le q9.2 (e_I r).2 := by
        refine s_lek hem_I ?_ k
        rcases s_ite hf with ⟨-, hf⟩ | ⟨-, hf⟩
        · cases hf
          exact s_le.rf
        · cases hf
          exact s_le.rf
      refine lv_aload_n hx hb dX0_isHonest_43 rfl (lv_at hl 1 rfl) ?_
      refine lv_iload_n hx hb dX0_isHonest_44 rfl (lv_at hl 2 rfl) ?_
      refine lv_iload_n hx hb dX0_isHonest_45 rfl (lv_at hl 0 rfl) ?_
      refine r_callV (Y := M_X0_fits) (v := some (.int q9.1)) X I w_564 my_X0_fits (by omega) (t_X0_fits (G := G) (d := d + 0) h16) (b_X0_fits h16) rfl rfl hl.1 rfl (Nat.le_of_ble_eq_true rfl) hn le17 dX0_isHonest_46 (fun H locs cells slots I hn1 hn2 => ?_)
      have I : s_I G q9.2 s H locs := I
      have hn : cells + σ0.2.1 ≤ q9.2.2.1 ∧ slots + σ0.2.2.1 ≤ q9.2.2.2.1 := ⟨hn1, hn2⟩
      rcases s_ite hf with ⟨c18, hf⟩ | ⟨c18, hf⟩
      · refine lv_if_eq (tgt := 56) hx hb dX0_isHonest_49 (by decide) (fun _ => ?_) (fun n => absurd c18 n)
        cases hf
        have k : _ = r := k
        subst k
        refine lv_iconst (v := 0) hx hb dX0_isHonest_56 (by decide) ?_
        exact r_iret X I rfl rfl rfl hn dX0_isHonest_57
      · refine lv_if_eq (tgt := 56) hx hb dX0_isHonest_49 (by decide) (fun n => absurd n c18) (fun _ => ?_)
        cases hf
        have k : _ = r := k
        subst k
        refine lv_iconst (v := 1) hx hb dX0_isHonest_52 (by decide) ?_
        refine lv_goto (tgt := 57) hx hb dX0_isHonest_53 (by decide) ?_
        exact r_iret X I rfl rfl rfl hn dX0_isHonest_57
    · refine lv_icmp_ne (tgt := 56) hx hb dX0_isHonest_40 (by decide) (fun _ => ?_) (fun n => absurd n c15)
      cases hf
      have k : _ = r := k
      subst k
      refine lv_iconst (v := 0) hx hb dX0_isHonest_56 (by decide) ?_
      exact r_iret X I rfl rfl rfl hn dX0_isHonest_57
theorem v_X0_isHonest {G : sG} {d : Nat} {vs0 : List Value} {σ0 : sS} {x : sL} {z : sZ Int32} {r : Int32 × sS} (hs : S_X0_isHonest x = some z) (k : s_K G (d + 5) M_X0_isHonest vs0 σ0 Y_X0_isHonest e_I z r) : s_V G (d + 5) M_X0_isHonest vs0 σ0 Y_X0_isHonest x (e_I r) := by
  obtain ⟨pc, vs, σ⟩ := x
  unfold S_X0_isHonest at hs
  dsimp only at hs
  rcases s_ite hs with ⟨c, hs⟩ | ⟨-, hs⟩
  · subst c
    unfold U_X0_isHonest_0 at hs
    obtain ⟨a0, g0, hs⟩ := s_bind hs
    obtain ⟨a1, g1, hs⟩ := s_bind hs
    obtain ⟨u9, ge, hs⟩ := s_bind hs
    rw [g_r_to g0, g_i_to g1, g_e_to ge]
    exact v_X0_isHonest_0 hs k
  cases hs
theorem t_X0_isHonest {G : sG} {d : Nat} {v0 : Nat} {v1 : Int32} {σ : sS} {q : Int32 × sS} (h : F_X0_isHonest v0 v1 σ = some q) : s_T G (d + 5) M_X0_isHonest [.ref v0, .int v1] σ (e_I q) := by
  unfold F_X0_isHonest at h
  obtain ⟨-, -, h⟩ := s_bind h
  exact s_ofV rfl (by decide) (Nat.le_of_ble_eq_true rfl) rfl rfl (s_run_ind (V := fun x r => s_V G (d + 5) M_X0_isHonest [.ref v0, .int v1] σ Y_X0_isHonest x (e_I r)) (fun x z r hs hk => v_X0_isHonest hs (by cases z <;> exact hk)) h)
/-! X0_standsOnSound -/
noncomputable def T_X0_standsOnSound_0 (v0 : Nat) (v1 : Int32) (σ : sS) : Option (sZ Int32) :=
  some (.inl (2, [.ref v0, .int v1, .int 0], σ))
noncomputable def U_X0_standsOnSound_0 (vs : List Value) (σ : sS) : Option (sZ Int32) := (g_r vs).bind fun a0 => (g_i a0.2).bind fun a1 => (g_e a1.2).bind fun _ => T_X0_standsOnSound_0 a0.1 a1.1 σ
noncomputable def T_X0_standsOnSound_2 (v0 : Nat) (v1 : Int32) (v2 : Int32) (σ : sS) : Option (sZ Int32) :=
  if (3 : Int32) ≤ v2 then (some (.inr (1, σ)))
  else ((s_fr σ v0 0 5).bind fun x1 =>
  (F_X1_premiseOf x1 v1 v2 σ).bind fun q2 =>
  if q2.1 = (-1) then (some (.inl (37, [.ref v0, .int v1, .int v2], q2.2)))
  else ((s_fl q2.2 v0 0 1).bind fun x3 =>
  if (lg_cmp (((x3 : Int64).toUInt64 >>> ((q2.1 : Int32).toInt64.toUInt64 &&& Int64.toUInt64 63)).toInt64 &&& 1) 0) = 0 then (some (.inr (0, q2.2)))
  else (some (.inl (37, [.ref v0, .int v1, .int v2], q2.2)))))
noncomputable def U_X0_standsOnSound_2 (vs : List Value) (σ : sS) : Option (sZ Int32) := (g_r vs).bind fun a0 => (g_i a0.2).bind fun a1 => (g_i a1.2).bind fun a2 => (g_e a2.2).bind fun _ => T_X0_standsOnSound_2 a0.1 a1.1 a2.1 σ
noncomputable def T_X0_standsOnSound_37 (v0 : Nat) (v1 : Int32) (v2 : Int32) (σ : sS) : Option (sZ Int32) :=
  some (.inl (2, [.ref v0, .int v1, .int (v2 + 1)], σ))
noncomputable def U_X0_standsOnSound_37 (vs : List Value) (σ : sS) : Option (sZ Int32) := (g_r vs).bind fun a0 => (g_i a0.2).bind fun a1 => (g_i a1.2).bind fun a2 => (g_e a2.2).bind fun _ => T_X0_standsOnSound_37 a0.1 a1.1 a2.1 σ
noncomputable def S_X0_standsOnSound (x : sL) : Option (sZ Int32) := if x.1 = 0 then U_X0_standsOnSound_0 x.2.1 x.2.2 else if x.1 = 2 then U_X0_standsOnSound_2 x.2.1 x.2.2 else if x.1 = 37 then U_X0_standsOnSound_37 x.2.1 x.2.2 else none
def Y_X0_standsOnSound (pc : Nat) : List Nat := if pc = 0 then [0, 1] else if pc = 2 then [0, 1, 2] else if pc = 37 then [0, 1, 2] else []
noncomputable def F_X0_standsOnSound (v0 : Nat) (v1 : Int32) (σ : sS) : Option (Int32 × sS) := (s_is σ v0 0).bind fun _ => s_run S_X0_standsOnSound (0, [.ref v0, .int v1], σ)
theorem l_X0_standsOnSound_0 {v0 : Nat} {v1 : Int32} {σ : sS} {z : sZ Int32} (hf : T_X0_standsOnSound_0 v0 v1 σ = some z) : s_lz σ z := by
  unfold T_X0_standsOnSound_0 at hf
  cases hf
  exact s_le.rf
theorem l_X0_standsOnSound_2 {v0 : Nat} {v1 : Int32} {v2 : Int32} {σ : sS} {z : sZ Int32} (hf : T_X0_standsOnSound_2 v0 v1 v2 σ = some z) : s_lz σ z := by
  unfold T_X0_standsOnSound_2 at hf
  rcases s_ite hf with ⟨-, hf⟩ | ⟨-, hf⟩
  · cases hf
    exact s_le.rf
  · obtain ⟨x1, -, hf⟩ := s_bind hf
    obtain ⟨q2, hh, hf⟩ := s_bind hf
    refine s_lz.tr (l_X1_premiseOf hh) ?_
    rcases s_ite hf with ⟨-, hf⟩ | ⟨-, hf⟩
    · cases hf
      exact s_le.rf
    · obtain ⟨x3, -, hf⟩ := s_bind hf
      rcases s_ite hf with ⟨-, hf⟩ | ⟨-, hf⟩
      · cases hf
        exact s_le.rf
      · cases hf
        exact s_le.rf
theorem l_X0_standsOnSound_37 {v0 : Nat} {v1 : Int32} {v2 : Int32} {σ : sS} {z : sZ Int32} (hf : T_X0_standsOnSound_37 v0 v1 v2 σ = some z) : s_lz σ z := by
  unfold T_X0_standsOnSound_37 at hf
  cases hf
  exact s_le.rf
theorem l_X0_standsOnSound_s {x : sL} {z : sZ Int32} (hs : S_X0_standsOnSound x = some z) : s_lz x.2.2 z := by
  obtain ⟨pc, vs, σ⟩ := x
  unfold S_X0_standsOnSound at hs
  dsimp only at hs ⊢
  rcases s_ite hs with ⟨c, hs⟩ | ⟨-, hs⟩
  · subst c
    unfold U_X0_standsOnSound_0 at hs
    obtain ⟨a0, g0, hs⟩ := s_bind hs
    obtain ⟨a1, g1, hs⟩ := s_bind hs
    obtain ⟨u9, ge, hs⟩ := s_bind hs
    exact l_X0_standsOnSound_0 hs
  rcases s_ite hs with ⟨c, hs⟩ | ⟨-, hs⟩
  · subst c
    unfold U_X0_standsOnSound_2 at hs
    obtain ⟨a0, g0, hs⟩ := s_bind hs
    obtain ⟨a1, g1, hs⟩ := s_bind hs
    obtain ⟨a2, g2, hs⟩ := s_bind hs
    obtain ⟨u9, ge, hs⟩ := s_bind hs
    exact l_X0_standsOnSound_2 hs
  rcases s_ite hs with ⟨c, hs⟩ | ⟨-, hs⟩
  · subst c
    unfold U_X0_standsOnSound_37 at hs
    obtain ⟨a0, g0, hs⟩ := s_bind hs
    obtain ⟨a1, g1, hs⟩ := s_bind hs
    obtain ⟨a2, g2, hs⟩ := s_bind hs
    obtain ⟨u9, ge, hs⟩ := s_bind hs
    exact l_X0_standsOnSound_37 hs
  cases hs
theorem l_X0_standsOnSound {v0 : Nat} {v1 : Int32} {σ : sS} {q : Int32 × sS} (h : F_X0_standsOnSound v0 v1 σ = some q) : s_le σ q.2 := by
  unfold F_X0_standsOnSound at h
  obtain ⟨-, -, h⟩ := s_bind h
  exact s_run_ind (V := fun x r => s_le x.2.2 r.2) (fun x z r hs hk => by
    have h9 := l_X0_standsOnSound_s hs
    cases z with
    | inl y => exact s_le.tr h9 hk
    | inr q => cases hk; exact h9) h
theorem b_X0_standsOnSound {v0 : Nat} {v1 : Int32} {σ : sS} {q : Int32 × sS} (h : F_X0_standsOnSound v0 v1 σ = some q) : ∃ fs, σ.1 v0 = some (.inr (0, fs)) := by
  unfold F_X0_standsOnSound at h
  obtain ⟨u, hu, -⟩ := s_bind h
  exact s_is_to hu
set_option maxRecDepth 100000 in
set_option maxHeartbeats 4000000 in
theorem v_X0_standsOnSound_0 {G : sG} {d : Nat} {vs0 : List Value} {σ0 : sS} {v0 : Nat} {v1 : Int32} {σ : sS} {z : sZ Int32} {r : Int32 × sS} (hf : T_X0_standsOnSound_0 v0 v1 σ = some z) (k : s_K G (d + 3) M_X0_standsOnSound vs0 σ0 Y_X0_standsOnSound e_I z r) : s_V G (d + 3) M_X0_standsOnSound vs0 σ0 Y_X0_standsOnSound (0, [.ref v0, .int v1], σ) (e_I r) := by
  have le0 : s_le σ (e_I r).2 := s_lek hem_I (l_X0_standsOnSound_0 hf) k
  refine ⟨le0, ?_⟩
  intro p e s m below meth c H locs cells slots ls X I hn1 hn2 hl
  have hn : cells + σ0.2.1 ≤ σ.2.1 ∧ slots + σ0.2.2.1 ≤ σ.2.2.1 := ⟨hn1, hn2⟩
  have hl : lv_has ls 4 [(0, .ref v0), (1, .int v1)] := hl
  have hx := X.1
  have hb : c.code = cX0_standsOnSound := X.2.1
  have hown : s.vm.findClass RX0 = some m.cls := X.2.2.2.2.2.1
  have hts := X.2.2.2.2.2.2.1
  refine W.eq (g2 := F0 m 0 ls []) rfl ?_
  unfold T_X0_standsOnSound_0 at hf
  cases hf
  have k : s_V G (d + 3) M_X0_standsOnSound vs0 σ0 Y_X0_standsOnSound (2, [.ref v0, .int v1, .int 0], σ) (e_I r) := k
  refine lv_iconst (v := 0) hx hb dX0_standsOnSound_0 (by decide) ?_
  refine lv_istore_n (lv' := [(2, .int 0), (0, .ref v0), (1, .int v1)]) hx hb dX0_standsOnSound_1 rfl hl (by decide) rfl (fun ls hl => ?_)
  exact k.2 p e s m below meth c _ _ _ _ _ X I hn.1 hn.2 (lv_sub hl [1, 2, 0] rfl)
set_option maxRecDepth 100000 in
set_option maxHeartbeats 4000000 in
theorem v_X0_standsOnSound_2 {G : sG} {d : Nat} {vs0 : List Value} {σ0 : sS} {v0 : Nat} {v1 : Int32} {v2 : Int32} {σ : sS} {z : sZ Int32} {r : Int32 × sS} (hf : T_X0_standsOnSound_2 v0 v1 v2 σ = some z) (k : s_K G (d + 3) M_X0_standsOnSound vs0 σ0 Y_X0_standsOnSound e_I z r) : s_V G (d + 3) M_X0_standsOnSound vs0 σ0 Y_X0_standsOnSound (2, [.ref v0, .int v1, .int v2], σ) (e_I r) := by
  have le0 : s_le σ (e_I r).2 := s_lek hem_I (l_X0_standsOnSound_2 hf) k
  refine ⟨le0, ?_⟩
  intro p e s m below meth c H locs cells slots ls X I hn1 hn2 hl
  have hn : cells + σ0.2.1 ≤ σ.2.1 ∧ slots + σ0.2.2.1 ≤ σ.2.2.1 := ⟨hn1, hn2⟩
  have hl : lv_has ls 4 [(0, .ref v0), (1, .int v1), (2, .int v2)] := hl
  have hx := X.1
  have hb : c.code = cX0_standsOnSound := X.2.1
  have hown : s.vm.findClass RX0 = some m.cls := X.2.2.2.2.2.1
  have hts := X.2.2.2.2.2.2.1
  refine W.eq (g2 := F0 m 2 ls []) rfl ?_
  unfold T_X0_standsOnSound_2 at hf
  refine lv_iload_n hx hb dX0_standsOnSound_2 rfl (lv_at hl 2 rfl) ?_
  refine lv_iconst (v := 3) hx hb dX0_standsOnSound_3 (by decide) ?_
  rcases s_ite hf with ⟨c1, hf⟩ | ⟨c1, hf⟩
  · refine lv_icmp_ge (tgt := 43) hx hb dX0_standsOnSound_4 (by decide) (fun _ => ?_) (fun n => absurd c1 n)
    cases hf
    have k : _ = r := k
    subst k
    refine lv_iconst (v := 1) hx hb dX0_standsOnSound_43 (by decide) ?_
    exact r_iret X I rfl rfl rfl hn dX0_standsOnSound_44
  · refine lv_icmp_ge (tgt := 43) hx hb dX0_standsOnSound_4 (by decide) (fun n => absurd n c1) (fun _ => ?_)
    obtain ⟨x1, h2, hf⟩ := s_bind hf
    obtain ⟨q2, h3, hf⟩ := s_bind hf
    have le4 : s_le q2.2 (e_I r).2 := by
      refine s_lek hem_I ?_ k
      rcases s_ite hf with ⟨-, hf⟩ | ⟨-, hf⟩
      · cases hf
        exact s_le.rf
      · obtain ⟨x3, -, hf⟩ := s_bind hf
        rcases s_ite hf with ⟨-, hf⟩ | ⟨-, hf⟩
        · cases hf
          exact s_le.rf
        · cases hf
          exact s_le.rf
    refine lv_aload_n hx hb dX0_standsOnSound_7 rfl (lv_at hl 0 rfl) ?_
    refine r_gr X I fl_X0_15 h2 dX0_standsOnSound_8 ?_
    refine lv_iload_n hx hb dX0_standsOnSound_11 rfl (lv_at hl 1 rfl) ?_
    refine lv_iload_n hx hb dX0_standsOnSound_12 rfl (lv_at hl 2 rfl) ?_
    refine r_callV (Y := M_X1_premiseOf) (v := some (.int q2.1)) X I w_554 my_X1_premiseOf (by omega) (t_X1_premiseOf (G := G) (d := d + 0) h3) (b_X1_premiseOf h3) rfl rfl hl.1 rfl (Nat.le_of_ble_eq_true rfl) hn le4 dX0_standsOnSound_13 (fun H locs cells slots I hn1 hn2 => ?_)
    have I : s_I G q2.2 s H locs := I
    have hn : cells + σ0.2.1 ≤ q2.2.2.1 ∧ slots + σ0.2.2.1 ≤ q2.2.2.2.1 := ⟨hn1, hn2⟩
    refine lv_istore_n (lv' := [(3, .int q2.1), (0, .ref v0), (1, .int v1), (2, .int v2)]) hx hb dX0_standsOnSound_16 rfl hl (by decide) rfl (fun ls hl => ?_)
    refine lv_iload_n hx hb dX0_standsOnSound_17 rfl (lv_at hl 0 rfl) ?_
    refine lv_iconst (v := (-1)) hx hb dX0_standsOnSound_18 (by decide) ?_
    rcases s_ite hf with ⟨c5, hf⟩ | ⟨c5, hf⟩
    · refine lv_icmp_eq (tgt := 37) hx hb dX0_standsOnSound_19 (by decide) (fun _ => ?_) (fun n => absurd c5 n)
      cases hf
      have k : s_V G (d + 3) M_X0_standsOnSound vs0 σ0 Y_X0_standsOnSound (37, [.ref v0, .int v1, .int v2], q2.2) (e_I r) := k
      exact k.2 p e s m below meth c _ _ _ _ _ X I hn.1 hn.2 (lv_sub hl [1, 2, 3] rfl)
    · refine lv_icmp_eq (tgt := 37) hx hb dX0_standsOnSound_19 (by decide) (fun n => absurd n c5) (fun _ => ?_)
      obtain ⟨x3, h6, hf⟩ := s_bind hf
      refine lv_aload_n hx hb dX0_standsOnSound_22 rfl (lv_at hl 1 rfl) ?_
      refine r_gl X I fl_X0_23 h6 dX0_standsOnSound_23 ?_
      refine lv_iload_n hx hb dX0_standsOnSound_26 rfl (lv_at hl 0 rfl) ?_
      refine lv_lushr hx hb dX0_standsOnSound_27 rfl ?_
      refine lv_lconst (v := 1) hx hb dX0_standsOnSound_28 (by decide) ?_
      refine lv_land hx hb dX0_standsOnSound_29 ?_
      refine lv_lconst (v := 0) hx hb dX0_standsOnSound_30 (by decide) ?_
      refine W.lcmp hx hb dX0_standsOnSound_31 ?_
      rcases s_ite hf with ⟨c7, hf⟩ | ⟨c7, hf⟩
      · refine lv_if_ne (tgt := 37) hx hb dX0_standsOnSound_32 (by decide) (fun n => absurd c7 n) (fun _ => ?_)
        cases hf
        have k : _ = r := k
        subst k
        refine lv_iconst (v := 0) hx hb dX0_standsOnSound_35 (by decide) ?_
        exact r_iret X I rfl rfl rfl hn dX0_standsOnSound_36
      · refine lv_if_ne (tgt := 37) hx hb dX0_standsOnSound_32 (by decide) (fun _ => ?_) (fun n => absurd n c7)
        cases hf
        have k : s_V G (d + 3) M_X0_standsOnSound vs0 σ0 Y_X0_standsOnSound (37, [.ref v0, .int v1, .int v2], q2.2) (e_I r) := k
        exact k.2 p e s m below meth c _ _ _ _ _ X I hn.1 hn.2 (lv_sub hl [1, 2, 3] rfl)
set_option maxRecDepth 100000 in
set_option maxHeartbeats 4000000 in
theorem v_X0_standsOnSound_37 {G : sG} {d : Nat} {vs0 : List Value} {σ0 : sS} {v0 : Nat} {v1 : Int32} {v2 : Int32} {σ : sS} {z : sZ Int32} {r : Int32 × sS} (hf : T_X0_standsOnSound_37 v0 v1 v2 σ = some z) (k : s_K G (d + 3) M_X0_standsOnSound vs0 σ0 Y_X0_standsOnSound e_I z r) : s_V G (d + 3) M_X0_standsOnSound vs0 σ0 Y_X0_standsOnSound (37, [.ref v0, .int v1, .int v2], σ) (e_I r) := by
  have le0 : s_le σ (e_I r).2 := s_lek hem_I (l_X0_standsOnSound_37 hf) k
  refine ⟨le0, ?_⟩
  intro p e s m below meth c H locs cells slots ls X I hn1 hn2 hl
  have hn : cells + σ0.2.1 ≤ σ.2.1 ∧ slots + σ0.2.2.1 ≤ σ.2.2.1 := ⟨hn1, hn2⟩
  have hl : lv_has ls 4 [(0, .ref v0), (1, .int v1), (2, .int v2)] := hl
  have hx := X.1
  have hb : c.code = cX0_standsOnSound := X.2.1
  have hown : s.vm.findClass RX0 = some m.cls := X.2.2.2.2.2.1
  have hts := X.2.2.2.2.2.2.1
  refine W.eq (g2 := F0 m 37 ls []) rfl ?_
  unfold T_X0_standsOnSound_37 at hf
  cases hf
  have k : s_V G (d + 3) M_X0_standsOnSound vs0 σ0 Y_X0_standsOnSound (2, [.ref v0, .int v1, .int (v2 + 1)], σ) (e_I r) := k
  refine lv_iinc (v := (v2 + 1)) (lv' := [(2, .int (v2 + 1)), (0, .ref v0), (1, .int v1)]) hx hb dX0_standsOnSound_37 hl (k := 2) rfl rfl (by decide) rfl (fun ls hl => ?_)
  refine lv_goto (tgt := 2) hx hb dX0_standsOnSound_40 (by decide) ?_
  exact k.2 p e s m below meth c _ _ _ _ _ X I hn.1 hn.2 (lv_sub hl [1, 2, 0] rfl)
theorem v_X0_standsOnSound {G : sG} {d : Nat} {vs0 : List Value} {σ0 : sS} {x : sL} {z : sZ Int32} {r : Int32 × sS} (hs : S_X0_standsOnSound x = some z) (k : s_K G (d + 3) M_X0_standsOnSound vs0 σ0 Y_X0_standsOnSound e_I z r) : s_V G (d + 3) M_X0_standsOnSound vs0 σ0 Y_X0_standsOnSound x (e_I r) := by
  obtain ⟨pc, vs, σ⟩ := x
  unfold S_X0_standsOnSound at hs
  dsimp only at hs
  rcases s_ite hs with ⟨c, hs⟩ | ⟨-, hs⟩
  · subst c
    unfold U_X0_standsOnSound_0 at hs
    obtain ⟨a0, g0, hs⟩ := s_bind hs
    obtain ⟨a1, g1, hs⟩ := s_bind hs
    obtain ⟨u9, ge, hs⟩ := s_bind hs
    rw [g_r_to g0, g_i_to g1, g_e_to ge]
    exact v_X0_standsOnSound_0 hs k
  rcases s_ite hs with ⟨c, hs⟩ | ⟨-, hs⟩
  · subst c
    unfold U_X0_standsOnSound_2 at hs
    obtain ⟨a0, g0, hs⟩ := s_bind hs
    obtain ⟨a1, g1, hs⟩ := s_bind hs
    obtain ⟨a2, g2, hs⟩ := s_bind hs
    obtain ⟨u9, ge, hs⟩ := s_bind hs
    rw [g_r_to g0, g_i_to g1, g_i_to g2, g_e_to ge]
    exact v_X0_standsOnSound_2 hs k
  rcases s_ite hs with ⟨c, hs⟩ | ⟨-, hs⟩
  · subst c
    unfold U_X0_standsOnSound_37 at hs
    obtain ⟨a0, g0, hs⟩ := s_bind hs
    obtain ⟨a1, g1, hs⟩ := s_bind hs
    obtain ⟨a2, g2, hs⟩ := s_bind hs
    obtain ⟨u9, ge, hs⟩ := s_bind hs
    rw [g_r_to g0, g_i_to g1, g_i_to g2, g_e_to ge]
    exact v_X0_standsOnSound_37 hs k
  cases hs
theorem t_X0_standsOnSound {G : sG} {d : Nat} {v0 : Nat} {v1 : Int32} {σ : sS} {q : Int32 × sS} (h : F_X0_standsOnSound v0 v1 σ = some q) : s_T G (d + 3) M_X0_standsOnSound [.ref v0, .int v1] σ (e_I q) := by
  unfold F_X0_standsOnSound at h
  obtain ⟨-, -, h⟩ := s_bind h
  exact s_ofV rfl (by decide) (Nat.le_of_ble_eq_true rfl) rfl rfl (s_run_ind (V := fun x r => s_V G (d + 3) M_X0_standsOnSound [.ref v0, .int v1] σ Y_X0_standsOnSound x (e_I r)) (fun x z r hs hk => v_X0_standsOnSound hs (by cases z <;> exact hk)) h)
/-! X0_audit -/
noncomputable def T_X0_audit_0 (v0 : Nat) (σ : sS) : Option (sZ Unit) :=
  (s_pf σ v0 0 0 (.long 0)).bind fun σ1 =>
  (s_pf σ1 v0 0 1 (.long 0)).bind fun σ2 =>
  (s_pf σ2 v0 0 2 (.long 0)).bind fun σ3 =>
  (F_X0_staleIf v0 (-1) 0 σ3).bind fun q4 =>
  (s_pf q4.2 v0 0 3 (.long q4.1)).bind fun σ5 =>
  (F_X0_linesOf v0 1 σ5).bind fun q6 =>
  some (.inl (33, [.ref v0, .long q6.1, .int 0], q6.2))
noncomputable def U_X0_audit_0 (vs : List Value) (σ : sS) : Option (sZ Unit) := (g_r vs).bind fun a0 => (g_e a0.2).bind fun _ => T_X0_audit_0 a0.1 σ
noncomputable def T_X0_audit_33 (v0 : Nat) (v1 : Int64) (v3 : Int32) (σ : sS) : Option (sZ Unit) :=
  (s_fr σ v0 0 5).bind fun x1 =>
  (s_fi σ x1 1 6).bind fun x2 =>
  if x2 ≤ v3 then (some (.inr ((), σ)))
  else ((F_X0_isHonest v0 v3 σ).bind fun q3 =>
  if q3.1 = 0 then (some (.inl (91, [.ref v0, .long v1, .int v3, .long (1 <<< ((v3 : Int32).toInt64 &&& 63))], q3.2)))
  else ((s_fl q3.2 v0 0 0).bind fun x4 =>
  (s_pf q3.2 v0 0 0 (.long (x4 ||| (1 <<< ((v3 : Int32).toInt64 &&& 63))))).bind fun σ5 =>
  (s_fl σ5 v0 0 1).bind fun x6 =>
  (F_X0_standsOnSound v0 v3 σ5).bind fun q7 =>
  if q7.1 = 0 then (some (.inl (87, [.ref v0, .long v1, .int v3, .long (1 <<< ((v3 : Int32).toInt64 &&& 63)), .long 0, .long x6, .ref v0], q7.2)))
  else (some (.inl (87, [.ref v0, .long v1, .int v3, .long (1 <<< ((v3 : Int32).toInt64 &&& 63)), .long (1 <<< ((v3 : Int32).toInt64 &&& 63)), .long x6, .ref v0], q7.2)))))
noncomputable def U_X0_audit_33 (vs : List Value) (σ : sS) : Option (sZ Unit) := (g_r vs).bind fun a0 => (g_l a0.2).bind fun a1 => (g_i a1.2).bind fun a2 => (g_e a2.2).bind fun _ => T_X0_audit_33 a0.1 a1.1 a2.1 σ
noncomputable def T_X0_audit_87 (v0 : Nat) (v1 : Int64) (v3 : Int32) (v4 : Int64) (w0 : Int64) (w1 : Int64) (w2 : Nat) (σ : sS) : Option (sZ Unit) :=
  (s_pf σ w2 0 1 (.long (w1 ||| w0))).bind fun σ1 =>
  some (.inl (91, [.ref v0, .long v1, .int v3, .long v4], σ1))
noncomputable def U_X0_audit_87 (vs : List Value) (σ : sS) : Option (sZ Unit) := (g_r vs).bind fun a0 => (g_l a0.2).bind fun a1 => (g_i a1.2).bind fun a2 => (g_l a2.2).bind fun a3 => (g_l a3.2).bind fun a4 => (g_l a4.2).bind fun a5 => (g_r a5.2).bind fun a6 => (g_e a6.2).bind fun _ => T_X0_audit_87 a0.1 a1.1 a2.1 a3.1 a4.1 a5.1 a6.1 σ
noncomputable def T_X0_audit_91 (v0 : Nat) (v1 : Int64) (v3 : Int32) (v4 : Int64) (σ : sS) : Option (sZ Unit) :=
  (s_fr σ v0 0 5).bind fun x1 =>
  (s_fr σ x1 1 7).bind fun x2 =>
  (s_al σ x2 v3).bind fun x3 =>
  if (lg_cmp (x3 &&& v1) 0) = 0 then (some (.inl (118, [.ref v0, .long v1, .int v3], σ)))
  else ((s_fl σ v0 0 2).bind fun x4 =>
  (s_pf σ v0 0 2 (.long (x4 ||| v4))).bind fun σ5 =>
  some (.inl (118, [.ref v0, .long v1, .int v3], σ5)))
noncomputable def U_X0_audit_91 (vs : List Value) (σ : sS) : Option (sZ Unit) := (g_r vs).bind fun a0 => (g_l a0.2).bind fun a1 => (g_i a1.2).bind fun a2 => (g_l a2.2).bind fun a3 => (g_e a3.2).bind fun _ => T_X0_audit_91 a0.1 a1.1 a2.1 a3.1 σ
noncomputable def T_X0_audit_118 (v0 : Nat) (v1 : Int64) (v3 : Int32) (σ : sS) : Option (sZ Unit) :=
  some (.inl (33, [.ref v0, .long v1, .int (v3 + 1)], σ))
noncomputable def U_X0_audit_118 (vs : List Value) (σ : sS) : Option (sZ Unit) := (g_r vs).bind fun a0 => (g_l a0.2).bind fun a1 => (g_i a1.2).bind fun a2 => (g_e a2.2).bind fun _ => T_X0_audit_118 a0.1 a1.1 a2.1 σ
noncomputable def S_X0_audit (x : sL) : Option (sZ Unit) := if x.1 = 0 then U_X0_audit_0 x.2.1 x.2.2 else if x.1 = 33 then U_X0_audit_33 x.2.1 x.2.2 else if x.1 = 87 then U_X0_audit_87 x.2.1 x.2.2 else if x.1 = 91 then U_X0_audit_91 x.2.1 x.2.2 else if x.1 = 118 then U_X0_audit_118 x.2.1 x.2.2 else none
def Y_X0_audit (pc : Nat) : List Nat := if pc = 0 then [0] else if pc = 33 then [0, 1, 3] else if pc = 87 then [0, 1, 3, 4] else if pc = 91 then [0, 1, 3, 4] else if pc = 118 then [0, 1, 3] else []
noncomputable def F_X0_audit (v0 : Nat) (σ : sS) : Option (Unit × sS) := (s_is σ v0 0).bind fun _ => s_run S_X0_audit (0, [.ref v0], σ)
theorem l_X0_audit_0 {v0 : Nat} {σ : sS} {z : sZ Unit} (hf : T_X0_audit_0 v0 σ = some z) : s_lz σ z := by
  unfold T_X0_audit_0 at hf
  obtain ⟨σ1, hh, hf⟩ := s_bind hf
  refine s_lz.tr (s_le2 (s_pf_2 hh)) ?_
  obtain ⟨σ2, hh, hf⟩ := s_bind hf
  refine s_lz.tr (s_le2 (s_pf_2 hh)) ?_
  obtain ⟨σ3, hh, hf⟩ := s_bind hf
  refine s_lz.tr (s_le2 (s_pf_2 hh)) ?_
  obtain ⟨q4, hh, hf⟩ := s_bind hf
  refine s_lz.tr (l_X0_staleIf hh) ?_
  obtain ⟨σ5, hh, hf⟩ := s_bind hf
  refine s_lz.tr (s_le2 (s_pf_2 hh)) ?_
  obtain ⟨q6, hh, hf⟩ := s_bind hf
  refine s_lz.tr (l_X0_linesOf hh) ?_
  cases hf
  exact s_le.rf
theorem l_X0_audit_33 {v0 : Nat} {v1 : Int64} {v3 : Int32} {σ : sS} {z : sZ Unit} (hf : T_X0_audit_33 v0 v1 v3 σ = some z) : s_lz σ z := by
  unfold T_X0_audit_33 at hf
  obtain ⟨x1, -, hf⟩ := s_bind hf
  obtain ⟨x2, -, hf⟩ := s_bind hf
  rcases s_ite hf with ⟨-, hf⟩ | ⟨-, hf⟩
  · cases hf
    exact s_le.rf
  · obtain ⟨q3, hh, hf⟩ := s_bind hf
    refine s_lz.tr (l_X0_isHonest hh) ?_
    rcases s_ite hf with ⟨-, hf⟩ | ⟨-, hf⟩
    · cases hf
      exact s_le.rf
    · obtain ⟨x4, -, hf⟩ := s_bind hf
      obtain ⟨σ5, hh, hf⟩ := s_bind hf
      refine s_lz.tr (s_le2 (s_pf_2 hh)) ?_
      obtain ⟨x6, -, hf⟩ := s_bind hf
      obtain ⟨q7, hh, hf⟩ := s_bind hf
      refine s_lz.tr (l_X0_standsOnSound hh) ?_
      rcases s_ite hf with ⟨-, hf⟩ | ⟨-, hf⟩
      · cases hf
        exact s_le.rf
      · cases hf
        exact s_le.rf
theorem l_X0_audit_87 {v0 : Nat} {v1 : Int64} {v3 : Int32} {v4 : Int64} {w0 : Int64} {w1 : Int64} {w2 : Nat} {σ : sS} {z : sZ Unit} (hf : T_X0_audit_87 v0 v1 v3 v4 w0 w1 w2 σ = some z) : s_lz σ z := by
  unfold T_X0_audit_87 at hf
  obtain ⟨σ1, hh, hf⟩ := s_bind hf
  refine s_lz.tr (s_le2 (s_pf_2 hh)) ?_
  cases hf
  exact s_le.rf
theorem l_X0_audit_91 {v0 : Nat} {v1 : Int64} {v3 : Int32} {v4 : Int64} {σ : sS} {z : sZ Unit} (hf : T_X0_audit_91 v0 v1 v3 v4 σ = some z) : s_lz σ z := by
  unfold T_X0_audit_91 at hf
  obtain ⟨x1, -, hf⟩ := s_bind hf
  obtain ⟨x2, -, hf⟩ := s_bind hf
  obtain ⟨x3, -, hf⟩ := s_bind hf
  rcases s_ite hf with ⟨-, hf⟩ | ⟨-, hf⟩
  · cases hf
    exact s_le.rf
  · obtain ⟨x4, -, hf⟩ := s_bind hf
    obtain ⟨σ5, hh, hf⟩ := s_bind hf
    refine s_lz.tr (s_le2 (s_pf_2 hh)) ?_
    cases hf
    exact s_le.rf
theorem l_X0_audit_118 {v0 : Nat} {v1 : Int64} {v3 : Int32} {σ : sS} {z : sZ Unit} (hf : T_X0_audit_118 v0 v1 v3 σ = some z) : s_lz σ z := by
  unfold T_X0_audit_118 at hf
  cases hf
  exact s_le.rf
theorem l_X0_audit_s {x : sL} {z : sZ Unit} (hs : S_X0_audit x = some z) : s_lz x.2.2 z := by
  obtain ⟨pc, vs, σ⟩ := x
  unfold S_X0_audit at hs
  dsimp only at hs ⊢
  rcases s_ite hs with ⟨c, hs⟩ | ⟨-, hs⟩
  · subst c
    unfold U_X0_audit_0 at hs
    obtain ⟨a0, g0, hs⟩ := s_bind hs
    obtain ⟨u9, ge, hs⟩ := s_bind hs
    exact l_X0_audit_0 hs
  rcases s_ite hs with ⟨c, hs⟩ | ⟨-, hs⟩
  · subst c
    unfold U_X0_audit_33 at hs
    obtain ⟨a0, g0, hs⟩ := s_bind hs
    obtain ⟨a1, g1, hs⟩ := s_bind hs
    obtain ⟨a2, g2, hs⟩ := s_bind hs
    obtain ⟨u9, ge, hs⟩ := s_bind hs
    exact l_X0_audit_33 hs
  rcases s_ite hs with ⟨c, hs⟩ | ⟨-, hs⟩
  · subst c
    unfold U_X0_audit_87 at hs
    obtain ⟨a0, g0, hs⟩ := s_bind hs
    obtain ⟨a1, g1, hs⟩ := s_bind hs
    obtain ⟨a2, g2, hs⟩ := s_bind hs
    obtain ⟨a3, g3, hs⟩ := s_bind hs
    obtain ⟨a4, g4, hs⟩ := s_bind hs
    obtain ⟨a5, g5, hs⟩ := s_bind hs
    obtain ⟨a6, g6, hs⟩ := s_bind hs
    obtain ⟨u9, ge, hs⟩ := s_bind hs
    exact l_X0_audit_87 hs
  rcases s_ite hs with ⟨c, hs⟩ | ⟨-, hs⟩
  · subst c
    unfold U_X0_audit_91 at hs
    obtain ⟨a0, g0, hs⟩ := s_bind hs
    obtain ⟨a1, g1, hs⟩ := s_bind hs
    obtain ⟨a2, g2, hs⟩ := s_bind hs
    obtain ⟨a3, g3, hs⟩ := s_bind hs
    obtain ⟨u9, ge, hs⟩ := s_bind hs
    exact l_X0_audit_91 hs
  rcases s_ite hs with ⟨c, hs⟩ | ⟨-, hs⟩
  · subst c
    unfold U_X0_audit_118 at hs
    obtain ⟨a0, g0, hs⟩ := s_bind hs
    obtain ⟨a1, g1, hs⟩ := s_bind hs
    obtain ⟨a2, g2, hs⟩ := s_bind hs
    obtain ⟨u9, ge, hs⟩ := s_bind hs
    exact l_X0_audit_118 hs
  cases hs
theorem l_X0_audit {v0 : Nat} {σ : sS} {q : Unit × sS} (h : F_X0_audit v0 σ = some q) : s_le σ q.2 := by
  unfold F_X0_audit at h
  obtain ⟨-, -, h⟩ := s_bind h
  exact s_run_ind (V := fun x r => s_le x.2.2 r.2) (fun x z r hs hk => by
    have h9 := l_X0_audit_s hs
    cases z with
    | inl y => exact s_le.tr h9 hk
    | inr q => cases hk; exact h9) h
theorem b_X0_audit {v0 : Nat} {σ : sS} {q : Unit × sS} (h : F_X0_audit v0 σ = some q) : ∃ fs, σ.1 v0 = some (.inr (0, fs)) := by
  unfold F_X0_audit at h
  obtain ⟨u, hu, -⟩ := s_bind h
  exact s_is_to hu
set_option maxRecDepth 100000 in
set_option maxHeartbeats 4000000 in
theorem v_X0_audit_0 {G : sG} {d : Nat} {vs0 : List Value} {σ0 : sS} {v0 : Nat} {σ : sS} {z : sZ Unit} {r : Unit × sS} (hf : T_X0_audit_0 v0 σ = some z) (k : s_K G (d + 6) M_X0_audit vs0 σ0 Y_X0_audit e_V z r) : s_V G (d + 6) M_X0_audit vs0 σ0 Y_X0_audit (0, [.ref v0], σ) (e_V r) := by
  have le0 : s_le σ (e_V r).2 := s_lek hem_V (l_X0_audit_0 hf) k
  refine ⟨le0, ?_⟩
  intro p e s m below meth c H locs cells slots ls X I hn1 hn2 hl
  have hn : cells + σ0.2.1 ≤ σ.2.1 ∧ slots + σ0.2.2.1 ≤ σ.2.2.1 := ⟨hn1, hn2⟩
  have hl : lv_has ls 6 [(0, .ref v0)] := hl
  have hx := X.1
  have hb : c.code = cX0_audit := X.2.1
  have hown : s.vm.findClass RX0 = some m.cls := X.2.2.2.2.2.1
  have hts := X.2.2.2.2.2.2.1
  refine W.eq (g2 := F0 m 0 ls []) rfl ?_
  unfold T_X0_audit_0 at hf
  obtain ⟨σ1, h1, hf⟩ := s_bind hf
  obtain ⟨σ2, h2, hf⟩ := s_bind hf
  obtain ⟨σ3, h3, hf⟩ := s_bind hf
  obtain ⟨q4, h4, hf⟩ := s_bind hf
  obtain ⟨σ5, h5, hf⟩ := s_bind hf
  obtain ⟨q6, h6, hf⟩ := s_bind hf
  cases hf
  have k : s_V G (d + 6) M_X0_audit vs0 σ0 Y_X0_audit (33, [.ref v0, .long q6.1, .int 0], q6.2) (e_V r) := k
  have le7 : s_le q6.2 (e_V r).2 := k.1
  have le8 := s_le.tr (l_X0_linesOf h6) le7
  have le9 := s_le.tr (s_le2 (s_pf_2 h5)) le8
  have le10 := s_le.tr (l_X0_staleIf h4) le9
  have le11 := s_le.tr (s_le2 (s_pf_2 h3)) le10
  have le12 := s_le.tr (s_le2 (s_pf_2 h2)) le11
  refine lv_aload_n hx hb dX0_audit_0 rfl (lv_at hl 0 rfl) ?_
  refine lv_lconst (v := 0) hx hb dX0_audit_1 (by decide) ?_
  refine r_put X I fp_X0_19 (fun h => by cases h) h1 rfl rfl dX0_audit_2 (fun H locs I => ?_)
  have hn := s_k2 (s_pf_2 h1) hn
  refine lv_aload_n hx hb dX0_audit_5 rfl (lv_at hl 0 rfl) ?_
  refine lv_lconst (v := 0) hx hb dX0_audit_6 (by decide) ?_
  refine r_put X I fp_X0_23 (fun h => by cases h) h2 rfl rfl dX0_audit_7 (fun H locs I => ?_)
  have hn := s_k2 (s_pf_2 h2) hn
  refine lv_aload_n hx hb dX0_audit_10 rfl (lv_at hl 0 rfl) ?_
  refine lv_lconst (v := 0) hx hb dX0_audit_11 (by decide) ?_
  refine r_put X I fp_X0_26 (fun h => by cases h) h3 rfl rfl dX0_audit_12 (fun H locs I => ?_)
  have hn := s_k2 (s_pf_2 h3) hn
  refine lv_aload_n hx hb dX0_audit_15 rfl (lv_at hl 0 rfl) ?_
  refine lv_aload_n hx hb dX0_audit_16 rfl (lv_at hl 0 rfl) ?_
  refine lv_iconst (v := (-1)) hx hb dX0_audit_17 (by decide) ?_
  refine lv_iconst (v := 0) hx hb dX0_audit_18 (by decide) ?_
  refine r_callV (Y := M_X0_staleIf) (v := some (.long q4.1)) X I w_513 my_X0_staleIf (by omega) (t_X0_staleIf (G := G) (d := d + 2) h4) (b_X0_staleIf h4) rfl rfl hl.1 rfl (Nat.le_of_ble_eq_true rfl) hn le9 dX0_audit_19 (fun H locs cells slots I hn1 hn2 => ?_)
  have I : s_I G q4.2 s H locs := I
  have hn : cells + σ0.2.1 ≤ q4.2.2.1 ∧ slots + σ0.2.2.1 ≤ q4.2.2.2.1 := ⟨hn1, hn2⟩
  refine r_put X I fp_X0_33 (fun h => by cases h) h5 rfl rfl dX0_audit_22 (fun H locs I => ?_)
  have hn := s_k2 (s_pf_2 h5) hn
  refine lv_aload_n hx hb dX0_audit_25 rfl (lv_at hl 0 rfl) ?_
  refine lv_iconst (v := 1) hx hb dX0_audit_26 (by decide) ?_
  refine r_callV (Y := M_X0_linesOf) (v := some (.long q6.1)) X I w_538 my_X0_linesOf (by omega) (t_X0_linesOf (G := G) (d := d + 3) h6) (b_X0_linesOf h6) rfl rfl hl.1 rfl (Nat.le_of_ble_eq_true rfl) hn le7 dX0_audit_27 (fun H locs cells slots I hn1 hn2 => ?_)
  have I : s_I G q6.2 s H locs := I
  have hn : cells + σ0.2.1 ≤ q6.2.2.1 ∧ slots + σ0.2.2.1 ≤ q6.2.2.2.1 := ⟨hn1, hn2⟩
  refine lv_lstore_n (lv' := [(1, .long q6.1), (0, .ref v0)]) hx hb dX0_audit_30 rfl hl (by decide) rfl (fun ls hl => ?_)
  refine lv_iconst (v := 0) hx hb dX0_audit_31 (by decide) ?_
  refine lv_istore_n (lv' := [(3, .int 0), (1, .long q6.1), (0, .ref v0)]) hx hb dX0_audit_32 rfl hl (by decide) rfl (fun ls hl => ?_)
  exact k.2 p e s m below meth c _ _ _ _ _ X I hn.1 hn.2 (lv_sub hl [2, 1, 0] rfl)
set_option maxRecDepth 100000 in
set_option maxHeartbeats 4000000 in
theorem v_X0_audit_33 {G : sG} {d : Nat} {vs0 : List Value} {σ0 : sS} {v0 : Nat} {v1 : Int64} {v3 : Int32} {σ : sS} {z : sZ Unit} {r : Unit × sS} (hf : T_X0_audit_33 v0 v1 v3 σ = some z) (k : s_K G (d + 6) M_X0_audit vs0 σ0 Y_X0_audit e_V z r) : s_V G (d + 6) M_X0_audit vs0 σ0 Y_X0_audit (33, [.ref v0, .long v1, .int v3], σ) (e_V r) := by
  have le0 : s_le σ (e_V r).2 := s_lek hem_V (l_X0_audit_33 hf) k
  refine ⟨le0, ?_⟩
  intro p e s m below meth c H locs cells slots ls X I hn1 hn2 hl
  have hn : cells + σ0.2.1 ≤ σ.2.1 ∧ slots + σ0.2.2.1 ≤ σ.2.2.1 := ⟨hn1, hn2⟩
  have hl : lv_has ls 6 [(0, .ref v0), (1, .long v1), (3, .int v3)] := hl
  have hx := X.1
  have hb : c.code = cX0_audit := X.2.1
  have hown : s.vm.findClass RX0 = some m.cls := X.2.2.2.2.2.1
  have hts := X.2.2.2.2.2.2.1
  refine W.eq (g2 := F0 m 33 ls []) rfl ?_
  unfold T_X0_audit_33 at hf
  obtain ⟨x1, h1, hf⟩ := s_bind hf
  obtain ⟨x2, h2, hf⟩ := s_bind hf
  refine lv_iload_n hx hb dX0_audit_33 rfl (lv_at hl 2 rfl) ?_
  refine lv_aload_n hx hb dX0_audit_34 rfl (lv_at hl 0 rfl) ?_
  refine r_gr X I fl_X0_15 h1 dX0_audit_35 ?_
  refine r_gi X I fl_X0_40 h2 dX0_audit_38 ?_
  rcases s_ite hf with ⟨c3, hf⟩ | ⟨c3, hf⟩
  · refine lv_icmp_ge (tgt := 124) hx hb dX0_audit_41 (by decide) (fun _ => ?_) (fun n => absurd c3 n)
    cases hf
    have k : _ = r := k
    subst k
    exact r_vret X I rfl rfl hn dX0_audit_124
  · refine lv_icmp_ge (tgt := 124) hx hb dX0_audit_41 (by decide) (fun n => absurd n c3) (fun _ => ?_)
    obtain ⟨q3, h4, hf⟩ := s_bind hf
    have le5 : s_le q3.2 (e_V r).2 := by
      refine s_lek hem_V ?_ k
      rcases s_ite hf with ⟨-, hf⟩ | ⟨-, hf⟩
      · cases hf
        exact s_le.rf
      · obtain ⟨x4, -, hf⟩ := s_bind hf
        obtain ⟨σ5, hh, hf⟩ := s_bind hf
        refine s_lz.tr (s_le2 (s_pf_2 hh)) ?_
        obtain ⟨x6, -, hf⟩ := s_bind hf
        obtain ⟨q7, hh, hf⟩ := s_bind hf
        refine s_lz.tr (l_X0_standsOnSound hh) ?_
        rcases s_ite hf with ⟨-, hf⟩ | ⟨-, hf⟩
        · cases hf
          exact s_le.rf
        · cases hf
          exact s_le.rf
    refine lv_lconst (v := 1) hx hb dX0_audit_44 (by decide) ?_
    refine lv_iload_n hx hb dX0_audit_45 rfl (lv_at hl 2 rfl) ?_
    refine lv_lshl hx hb dX0_audit_46 rfl ?_
    refine lv_lstore (lv' := [(4, .long (1 <<< ((v3 : Int32).toInt64 &&& 63))), (0, .ref v0), (1, .long v1), (3, .int v3)]) hx hb dX0_audit_47 hl (by decide) rfl (fun ls hl => ?_)
    refine lv_aload_n hx hb dX0_audit_49 rfl (lv_at hl 1 rfl) ?_
    refine lv_iload_n hx hb dX0_audit_50 rfl (lv_at hl 3 rfl) ?_
    refine r_callV (Y := M_X0_isHonest) (v := some (.int q3.1)) X I w_542 my_X0_isHonest (by omega) (t_X0_isHonest (G := G) (d := d + 0) h4) (b_X0_isHonest h4) rfl rfl hl.1 rfl (Nat.le_of_ble_eq_true rfl) hn le5 dX0_audit_51 (fun H locs cells slots I hn1 hn2 => ?_)
    have I : s_I G q3.2 s H locs := I
    have hn : cells + σ0.2.1 ≤ q3.2.2.1 ∧ slots + σ0.2.2.1 ≤ q3.2.2.2.1 := ⟨hn1, hn2⟩
    rcases s_ite hf with ⟨c6, hf⟩ | ⟨c6, hf⟩
    · refine lv_if_eq (tgt := 91) hx hb dX0_audit_54 (by decide) (fun _ => ?_) (fun n => absurd c6 n)
      cases hf
      have k : s_V G (d + 6) M_X0_audit vs0 σ0 Y_X0_audit (91, [.ref v0, .long v1, .int v3, .long (1 <<< ((v3 : Int32).toInt64 &&& 63))], q3.2) (e_V r) := k
      exact k.2 p e s m below meth c _ _ _ _ _ X I hn.1 hn.2 (lv_sub hl [1, 2, 3, 0] rfl)
    · refine lv_if_eq (tgt := 91) hx hb dX0_audit_54 (by decide) (fun n => absurd n c6) (fun _ => ?_)
      obtain ⟨x4, h7, hf⟩ := s_bind hf
      obtain ⟨σ5, h8, hf⟩ := s_bind hf
      obtain ⟨x6, h9, hf⟩ := s_bind hf
      obtain ⟨q7, h10, hf⟩ := s_bind hf
      have le11 : s_le q7.2 (e_V r).2 := by
        refine s_lek hem_V ?_ k
        rcases s_ite hf with ⟨-, hf⟩ | ⟨-, hf⟩
        · cases hf
          exact s_le.rf
        · cases hf
          exact s_le.rf
      have le12 := s_le.tr (l_X0_standsOnSound h10) le11
      refine lv_aload_n hx hb dX0_audit_57 rfl (lv_at hl 1 rfl) ?_
      refine lv_dup hx hb dX0_audit_58 rfl ?_
      refine r_gl X I fl_X0_19 h7 dX0_audit_59 ?_
      refine lv_lload hx hb dX0_audit_62 (lv_at hl 0 rfl) ?_
      refine lv_lor hx hb dX0_audit_64 ?_
      refine r_put X I fp_X0_19 (fun h => by cases h) h8 rfl rfl dX0_audit_65 (fun H locs I => ?_)
      have hn := s_k2 (s_pf_2 h8) hn
      refine lv_aload_n hx hb dX0_audit_68 rfl (lv_at hl 1 rfl) ?_
      refine lv_dup hx hb dX0_audit_69 rfl ?_
      refine r_gl X I fl_X0_23 h9 dX0_audit_70 ?_
      refine lv_aload_n hx hb dX0_audit_73 rfl (lv_at hl 1 rfl) ?_
      refine lv_iload_n hx hb dX0_audit_74 rfl (lv_at hl 3 rfl) ?_
      refine r_callV (Y := M_X0_standsOnSound) (v := some (.int q7.1)) X I w_604 my_X0_standsOnSound (by omega) (t_X0_standsOnSound (G := G) (d := d + 2) h10) (b_X0_standsOnSound h10) rfl rfl hl.1 rfl (Nat.le_of_ble_eq_true rfl) hn le11 dX0_audit_75 (fun H locs cells slots I hn1 hn2 => ?_)
      have I : s_I G q7.2 s H locs := I
      have hn : cells + σ0.2.1 ≤ q7.2.2.1 ∧ slots + σ0.2.2.1 ≤ q7.2.2.2.1 := ⟨hn1, hn2⟩
      rcases s_ite hf with ⟨c13, hf⟩ | ⟨c13, hf⟩
      · refine lv_if_eq (tgt := 86) hx hb dX0_audit_78 (by decide) (fun _ => ?_) (fun n => absurd c13 n)
        cases hf
        have k : s_V G (d + 6) M_X0_audit vs0 σ0 Y_X0_audit (87, [.ref v0, .long v1, .int v3, .long (1 <<< ((v3 : Int32).toInt64 &&& 63)), .long 0, .long x6, .ref v0], q7.2) (e_V r) := k
        refine lv_lconst (v := 0) hx hb dX0_audit_86 (by decide) ?_
        exact k.2 p e s m below meth c _ _ _ _ _ X I hn.1 hn.2 (lv_sub hl [1, 2, 3, 0] rfl)
      · refine lv_if_eq (tgt := 86) hx hb dX0_audit_78 (by decide) (fun n => absurd n c13) (fun _ => ?_)
        cases hf
        have k : s_V G (d + 6) M_X0_audit vs0 σ0 Y_X0_audit (87, [.ref v0, .long v1, .int v3, .long (1 <<< ((v3 : Int32).toInt64 &&& 63)), .long (1 <<< ((v3 : Int32).toInt64 &&& 63)), .long x6, .ref v0], q7.2) (e_V r) := k
        refine lv_lload hx hb dX0_audit_81 (lv_at hl 0 rfl) ?_
        refine lv_goto (tgt := 87) hx hb dX0_audit_83 (by decide) ?_
        exact k.2 p e s m below meth c _ _ _ _ _ X I hn.1 hn.2 (lv_sub hl [1, 2, 3, 0] rfl)
set_option maxRecDepth 100000 in
set_option maxHeartbeats 4000000 in
theorem v_X0_audit_87 {G : sG} {d : Nat} {vs0 : List Value} {σ0 : sS} {v0 : Nat} {v1 : Int64} {v3 : Int32} {v4 : Int64} {w0 : Int64} {w1 : Int64} {w2 : Nat} {σ : sS} {z : sZ Unit} {r : Unit × sS} (hf : T_X0_audit_87 v0 v1 v3 v4 w0 w1 w2 σ = some z) (k : s_K G (d + 6) M_X0_audit vs0 σ0 Y_X0_audit e_V z r) : s_V G (d + 6) M_X0_audit vs0 σ0 Y_X0_audit (87, [.ref v0, .long v1, .int v3, .long v4, .long w0, .long w1, .ref w2], σ) (e_V r) := by
  have le0 : s_le σ (e_V r).2 := s_lek hem_V (l_X0_audit_87 hf) k
  refine ⟨le0, ?_⟩
  intro p e s m below meth c H locs cells slots ls X I hn1 hn2 hl
  have hn : cells + σ0.2.1 ≤ σ.2.1 ∧ slots + σ0.2.2.1 ≤ σ.2.2.1 := ⟨hn1, hn2⟩
  have hl : lv_has ls 6 [(0, .ref v0), (1, .long v1), (3, .int v3), (4, .long v4)] := hl
  have hx := X.1
  have hb : c.code = cX0_audit := X.2.1
  have hown : s.vm.findClass RX0 = some m.cls := X.2.2.2.2.2.1
  have hts := X.2.2.2.2.2.2.1
  refine W.eq (g2 := F0 m 87 ls [.long w0, .long w1, .ref w2]) rfl ?_
  unfold T_X0_audit_87 at hf
  obtain ⟨σ1, h1, hf⟩ := s_bind hf
  cases hf
  have k : s_V G (d + 6) M_X0_audit vs0 σ0 Y_X0_audit (91, [.ref v0, .long v1, .int v3, .long v4], σ1) (e_V r) := k
  have le2 : s_le σ1 (e_V r).2 := k.1
  refine lv_lor hx hb dX0_audit_87 ?_
  refine r_put X I fp_X0_23 (fun h => by cases h) h1 rfl rfl dX0_audit_88 (fun H locs I => ?_)
  have hn := s_k2 (s_pf_2 h1) hn
  exact k.2 p e s m below meth c _ _ _ _ _ X I hn.1 hn.2 (lv_sub hl [0, 1, 2, 3] rfl)
set_option maxRecDepth 100000 in
set_option maxHeartbeats 4000000 in
theorem v_X0_audit_91 {G : sG} {d : Nat} {vs0 : List Value} {σ0 : sS} {v0 : Nat} {v1 : Int64} {v3 : Int32} {v4 : Int64} {σ : sS} {z : sZ Unit} {r : Unit × sS} (hf : T_X0_audit_91 v0 v1 v3 v4 σ = some z) (k : s_K G (d + 6) M_X0_audit vs0 σ0 Y_X0_audit e_V z r) : s_V G (d + 6) M_X0_audit vs0 σ0 Y_X0_audit (91, [.ref v0, .long v1, .int v3, .long v4], σ) (e_V r) := by
  have le0 : s_le σ (e_V r).2 := s_lek hem_V (l_X0_audit_91 hf) k
  refine ⟨le0, ?_⟩
  intro p e s m below meth c H locs cells slots ls X I hn1 hn2 hl
  have hn : cells + σ0.2.1 ≤ σ.2.1 ∧ slots + σ0.2.2.1 ≤ σ.2.2.1 := ⟨hn1, hn2⟩
  have hl : lv_has ls 6 [(0, .ref v0), (1, .long v1), (3, .int v3), (4, .long v4)] := hl
  have hx := X.1
  have hb : c.code = cX0_audit := X.2.1
  have hown : s.vm.findClass RX0 = some m.cls := X.2.2.2.2.2.1
  have hts := X.2.2.2.2.2.2.1
  refine W.eq (g2 := F0 m 91 ls []) rfl ?_
  unfold T_X0_audit_91 at hf
  obtain ⟨x1, h1, hf⟩ := s_bind hf
  obtain ⟨x2, h2, hf⟩ := s_bind hf
  obtain ⟨x3, h3, hf⟩ := s_bind hf
  refine lv_aload_n hx hb dX0_audit_91 rfl (lv_at hl 0 rfl) ?_
  refine r_gr X I fl_X0_15 h1 dX0_audit_92 ?_
  refine r_gr X I fl_X0_53 h2 dX0_audit_95 ?_
  refine lv_iload_n hx hb dX0_audit_98 rfl (lv_at hl 2 rfl) ?_
  refine r_lald X I h3 dX0_audit_99 ?_
  refine lv_lload_n hx hb dX0_audit_100 rfl (lv_at hl 1 rfl) ?_
  refine lv_land hx hb dX0_audit_101 ?_
  refine lv_lconst (v := 0) hx hb dX0_audit_102 (by decide) ?_
  refine W.lcmp hx hb dX0_audit_103 ?_
  rcases s_ite hf with ⟨c4, hf⟩ | ⟨c4, hf⟩
  · refine lv_if_eq (tgt := 118) hx hb dX0_audit_104 (by decide) (fun _ => ?_) (fun n => absurd c4 n)
    cases hf
    have k : s_V G (d + 6) M_X0_audit vs0 σ0 Y_X0_audit (118, [.ref v0, .long v1, .int v3], σ) (e_V r) := k
    exact k.2 p e s m below meth c _ _ _ _ _ X I hn.1 hn.2 (lv_sub hl [0, 1, 2] rfl)
  · refine lv_if_eq (tgt := 118) hx hb dX0_audit_104 (by decide) (fun n => absurd n c4) (fun _ => ?_)
    obtain ⟨x4, h5, hf⟩ := s_bind hf
    obtain ⟨σ5, h6, hf⟩ := s_bind hf
    cases hf
    have k : s_V G (d + 6) M_X0_audit vs0 σ0 Y_X0_audit (118, [.ref v0, .long v1, .int v3], σ5) (e_V r) := k
    have le7 : s_le σ5 (e_V r).2 := k.1
    refine lv_aload_n hx hb dX0_audit_107 rfl (lv_at hl 0 rfl) ?_
    refine lv_dup hx hb dX0_audit_108 rfl ?_
    refine r_gl X I fl_X0_26 h5 dX0_audit_109 ?_
    refine lv_lload hx hb dX0_audit_112 (lv_at hl 3 rfl) ?_
    refine lv_lor hx hb dX0_audit_114 ?_
    refine r_put X I fp_X0_26 (fun h => by cases h) h6 rfl rfl dX0_audit_115 (fun H locs I => ?_)
    have hn := s_k2 (s_pf_2 h6) hn
    exact k.2 p e s m below meth c _ _ _ _ _ X I hn.1 hn.2 (lv_sub hl [0, 1, 2] rfl)
set_option maxRecDepth 100000 in
set_option maxHeartbeats 4000000 in
theorem v_X0_audit_118 {G : sG} {d : Nat} {vs0 : List Value} {σ0 : sS} {v0 : Nat} {v1 : Int64} {v3 : Int32} {σ : sS} {z : sZ Unit} {r : Unit × sS} (hf : T_X0_audit_118 v0 v1 v3 σ = some z) (k : s_K G (d + 6) M_X0_audit vs0 σ0 Y_X0_audit e_V z r) : s_V G (d + 6) M_X0_audit vs0 σ0 Y_X0_audit (118, [.ref v0, .long v1, .int v3], σ) (e_V r) := by
  have le0 : s_le σ (e_V r).2 := s_lek hem_V (l_X0_audit_118 hf) k
  refine ⟨le0, ?_⟩
  intro p e s m below meth c H locs cells slots ls X I hn1 hn2 hl
  have hn : cells + σ0.2.1 ≤ σ.2.1 ∧ slots + σ0.2.2.1 ≤ σ.2.2.1 := ⟨hn1, hn2⟩
  have hl : lv_has ls 6 [(0, .ref v0), (1, .long v1), (3, .int v3)] := hl
  have hx := X.1
  have hb : c.code = cX0_audit := X.2.1
  have hown : s.vm.findClass RX0 = some m.cls := X.2.2.2.2.2.1
  have hts := X.2.2.2.2.2.2.1
  refine W.eq (g2 := F0 m 118 ls []) rfl ?_
  unfold T_X0_audit_118 at hf
  cases hf
  have k : s_V G (d + 6) M_X0_audit vs0 σ0 Y_X0_audit (33, [.ref v0, .long v1, .int (v3 + 1)], σ) (e_V r) := k
  refine lv_iinc (v := (v3 + 1)) (lv' := [(3, .int (v3 + 1)), (0, .ref v0), (1, .long v1)]) hx hb dX0_audit_118 hl (k := 2) rfl rfl (by decide) rfl (fun ls hl => ?_)
  refine lv_goto (tgt := 33) hx hb dX0_audit_121 (by decide) ?_
  exact k.2 p e s m below meth c _ _ _ _ _ X I hn.1 hn.2 (lv_sub hl [1, 2, 0] rfl)
theorem v_X0_audit {G : sG} {d : Nat} {vs0 : List Value} {σ0 : sS} {x : sL} {z : sZ Unit} {r : Unit × sS} (hs : S_X0_audit x = some z) (k : s_K G (d + 6) M_X0_audit vs0 σ0 Y_X0_audit e_V z r) : s_V G (d + 6) M_X0_audit vs0 σ0 Y_X0_audit x (e_V r) := by
  obtain ⟨pc, vs, σ⟩ := x
  unfold S_X0_audit at hs
  dsimp only at hs
  rcases s_ite hs with ⟨c, hs⟩ | ⟨-, hs⟩
  · subst c
    unfold U_X0_audit_0 at hs
    obtain ⟨a0, g0, hs⟩ := s_bind hs
    obtain ⟨u9, ge, hs⟩ := s_bind hs
    rw [g_r_to g0, g_e_to ge]
    exact v_X0_audit_0 hs k
  rcases s_ite hs with ⟨c, hs⟩ | ⟨-, hs⟩
  · subst c
    unfold U_X0_audit_33 at hs
    obtain ⟨a0, g0, hs⟩ := s_bind hs
    obtain ⟨a1, g1, hs⟩ := s_bind hs
    obtain ⟨a2, g2, hs⟩ := s_bind hs
    obtain ⟨u9, ge, hs⟩ := s_bind hs
    rw [g_r_to g0, g_l_to g1, g_i_to g2, g_e_to ge]
    exact v_X0_audit_33 hs k
  rcases s_ite hs with ⟨c, hs⟩ | ⟨-, hs⟩
  · subst c
    unfold U_X0_audit_87 at hs
    obtain ⟨a0, g0, hs⟩ := s_bind hs
    obtain ⟨a1, g1, hs⟩ := s_bind hs
    obtain ⟨a2, g2, hs⟩ := s_bind hs
    obtain ⟨a3, g3, hs⟩ := s_bind hs
    obtain ⟨a4, g4, hs⟩ := s_bind hs
    obtain ⟨a5, g5, hs⟩ := s_bind hs
    obtain ⟨a6, g6, hs⟩ := s_bind hs
    obtain ⟨u9, ge, hs⟩ := s_bind hs
    rw [g_r_to g0, g_l_to g1, g_i_to g2, g_l_to g3, g_l_to g4, g_l_to g5, g_r_to g6, g_e_to ge]
    exact v_X0_audit_87 hs k
  rcases s_ite hs with ⟨c, hs⟩ | ⟨-, hs⟩
  · subst c
    unfold U_X0_audit_91 at hs
    obtain ⟨a0, g0, hs⟩ := s_bind hs
    obtain ⟨a1, g1, hs⟩ := s_bind hs
    obtain ⟨a2, g2, hs⟩ := s_bind hs
    obtain ⟨a3, g3, hs⟩ := s_bind hs
    obtain ⟨u9, ge, hs⟩ := s_bind hs
    rw [g_r_to g0, g_l_to g1, g_i_to g2, g_l_to g3, g_e_to ge]
    exact v_X0_audit_91 hs k
  rcases s_ite hs with ⟨c, hs⟩ | ⟨-, hs⟩
  · subst c
    unfold U_X0_audit_118 at hs
    obtain ⟨a0, g0, hs⟩ := s_bind hs
    obtain ⟨a1, g1, hs⟩ := s_bind hs
    obtain ⟨a2, g2, hs⟩ := s_bind hs
    obtain ⟨u9, ge, hs⟩ := s_bind hs
    rw [g_r_to g0, g_l_to g1, g_i_to g2, g_e_to ge]
    exact v_X0_audit_118 hs k
  cases hs
theorem t_X0_audit {G : sG} {d : Nat} {v0 : Nat} {σ : sS} {q : Unit × sS} (h : F_X0_audit v0 σ = some q) : s_T G (d + 6) M_X0_audit [.ref v0] σ (e_V q) := by
  unfold F_X0_audit at h
  obtain ⟨-, -, h⟩ := s_bind h
  exact s_ofV rfl (by decide) (Nat.le_of_ble_eq_true rfl) rfl rfl (s_run_ind (V := fun x r => s_V G (d + 6) M_X0_audit [.ref v0] σ Y_X0_audit x (e_V r)) (fun x z r hs hk => v_X0_audit hs (by cases z <;> exact hk)) h)
/-! X1_isVoid -/
noncomputable def T_X1_isVoid_0 (v0 : Nat) (v1 : Int32) (σ : sS) : Option (sZ Int32) :=
  (s_fi σ v0 1 10).bind fun x1 =>
  if ((x1 >>> (v1 &&& 31)) &&& 1) = 0 then (some (.inr (0, σ)))
  else (some (.inr (1, σ)))
noncomputable def U_X1_isVoid_0 (vs : List Value) (σ : sS) : Option (sZ Int32) := (g_r vs).bind fun a0 => (g_i a0.2).bind fun a1 => (g_e a1.2).bind fun _ => T_X1_isVoid_0 a0.1 a1.1 σ
noncomputable def S_X1_isVoid (x : sL) : Option (sZ Int32) := if x.1 = 0 then U_X1_isVoid_0 x.2.1 x.2.2 else none
def Y_X1_isVoid (pc : Nat) : List Nat := if pc = 0 then [0, 1] else []
noncomputable def F_X1_isVoid (v0 : Nat) (v1 : Int32) (σ : sS) : Option (Int32 × sS) := (s_is σ v0 1).bind fun _ => s_run S_X1_isVoid (0, [.ref v0, .int v1], σ)
theorem l_X1_isVoid_0 {v0 : Nat} {v1 : Int32} {σ : sS} {z : sZ Int32} (hf : T_X1_isVoid_0 v0 v1 σ = some z) : s_lz σ z := by
  unfold T_X1_isVoid_0 at hf
  obtain ⟨x1, -, hf⟩ := s_bind hf
  rcases s_ite hf with ⟨-, hf⟩ | ⟨-, hf⟩
  · cases hf
    exact s_le.rf
  · cases hf
    exact s_le.rf
theorem l_X1_isVoid_s {x : sL} {z : sZ Int32} (hs : S_X1_isVoid x = some z) : s_lz x.2.2 z := by
  obtain ⟨pc, vs, σ⟩ := x
  unfold S_X1_isVoid at hs
  dsimp only at hs ⊢
  rcases s_ite hs with ⟨c, hs⟩ | ⟨-, hs⟩
  · subst c
    unfold U_X1_isVoid_0 at hs
    obtain ⟨a0, g0, hs⟩ := s_bind hs
    obtain ⟨a1, g1, hs⟩ := s_bind hs
    obtain ⟨u9, ge, hs⟩ := s_bind hs
    exact l_X1_isVoid_0 hs
  cases hs
theorem l_X1_isVoid {v0 : Nat} {v1 : Int32} {σ : sS} {q : Int32 × sS} (h : F_X1_isVoid v0 v1 σ = some q) : s_le σ q.2 := by
  unfold F_X1_isVoid at h
  obtain ⟨-, -, h⟩ := s_bind h
  exact s_run_ind (V := fun x r => s_le x.2.2 r.2) (fun x z r hs hk => by
    have h9 := l_X1_isVoid_s hs
    cases z with
    | inl y => exact s_le.tr h9 hk
    | inr q => cases hk; exact h9) h
theorem b_X1_isVoid {v0 : Nat} {v1 : Int32} {σ : sS} {q : Int32 × sS} (h : F_X1_isVoid v0 v1 σ = some q) : ∃ fs, σ.1 v0 = some (.inr (1, fs)) := by
  unfold F_X1_isVoid at h
  obtain ⟨u, hu, -⟩ := s_bind h
  exact s_is_to hu
set_option maxRecDepth 100000 in
set_option maxHeartbeats 4000000 in
theorem v_X1_isVoid_0 {G : sG} {d : Nat} {vs0 : List Value} {σ0 : sS} {v0 : Nat} {v1 : Int32} {σ : sS} {z : sZ Int32} {r : Int32 × sS} (hf : T_X1_isVoid_0 v0 v1 σ = some z) (k : s_K G (d + 1) M_X1_isVoid vs0 σ0 Y_X1_isVoid e_I z r) : s_V G (d + 1) M_X1_isVoid vs0 σ0 Y_X1_isVoid (0, [.ref v0, .int v1], σ) (e_I r) := by
  have le0 : s_le σ (e_I r).2 := s_lek hem_I (l_X1_isVoid_0 hf) k
  refine ⟨le0, ?_⟩
  intro p e s m below meth c H locs cells slots ls X I hn1 hn2 hl
  have hn : cells + σ0.2.1 ≤ σ.2.1 ∧ slots + σ0.2.2.1 ≤ σ.2.2.1 := ⟨hn1, hn2⟩
  have hl : lv_has ls 2 [(0, .ref v0), (1, .int v1)] := hl
  have hx := X.1
  have hb : c.code = cX1_isVoid := X.2.1
  have hown : s.vm.findClass RX1 = some m.cls := X.2.2.2.2.2.1
  have hts := X.2.2.2.2.2.2.1
  refine W.eq (g2 := F0 m 0 ls []) rfl ?_
  unfold T_X1_isVoid_0 at hf
  obtain ⟨x1, h1, hf⟩ := s_bind hf
  refine lv_aload_n hx hb dX1_isVoid_0 rfl (lv_at hl 0 rfl) ?_
  refine r_gi X I fl_X1_57 h1 dX1_isVoid_1 ?_
  refine lv_iload_n hx hb dX1_isVoid_4 rfl (lv_at hl 1 rfl) ?_
  refine lv_ishr hx hb dX1_isVoid_5 ?_
  refine lv_iconst (v := 1) hx hb dX1_isVoid_6 (by decide) ?_
  refine lv_iand hx hb dX1_isVoid_7 ?_
  rcases s_ite hf with ⟨c2, hf⟩ | ⟨c2, hf⟩
  · refine lv_if_eq (tgt := 15) hx hb dX1_isVoid_8 (by decide) (fun _ => ?_) (fun n => absurd c2 n)
    cases hf
    have k : _ = r := k
    subst k
    refine lv_iconst (v := 0) hx hb dX1_isVoid_15 (by decide) ?_
    exact r_iret X I rfl rfl rfl hn dX1_isVoid_16
  · refine lv_if_eq (tgt := 15) hx hb dX1_isVoid_8 (by decide) (fun n => absurd n c2) (fun _ => ?_)
    cases hf
    have k : _ = r := k
    subst k
    refine lv_iconst (v := 1) hx hb dX1_isVoid_11 (by decide) ?_
    refine lv_goto (tgt := 16) hx hb dX1_isVoid_12 (by decide) ?_
    exact r_iret X I rfl rfl rfl hn dX1_isVoid_16
theorem v_X1_isVoid {G : sG} {d : Nat} {vs0 : List Value} {σ0 : sS} {x : sL} {z : sZ Int32} {r : Int32 × sS} (hs : S_X1_isVoid x = some z) (k : s_K G (d + 1) M_X1_isVoid vs0 σ0 Y_X1_isVoid e_I z r) : s_V G (d + 1) M_X1_isVoid vs0 σ0 Y_X1_isVoid x (e_I r) := by
  obtain ⟨pc, vs, σ⟩ := x
  unfold S_X1_isVoid at hs
  dsimp only at hs
  rcases s_ite hs with ⟨c, hs⟩ | ⟨-, hs⟩
  · subst c
    unfold U_X1_isVoid_0 at hs
    obtain ⟨a0, g0, hs⟩ := s_bind hs
    obtain ⟨a1, g1, hs⟩ := s_bind hs
    obtain ⟨u9, ge, hs⟩ := s_bind hs
    rw [g_r_to g0, g_i_to g1, g_e_to ge]
    exact v_X1_isVoid_0 hs k
  cases hs
theorem t_X1_isVoid {G : sG} {d : Nat} {v0 : Nat} {v1 : Int32} {σ : sS} {q : Int32 × sS} (h : F_X1_isVoid v0 v1 σ = some q) : s_T G (d + 1) M_X1_isVoid [.ref v0, .int v1] σ (e_I q) := by
  unfold F_X1_isVoid at h
  obtain ⟨-, -, h⟩ := s_bind h
  exact s_ofV rfl (by decide) (Nat.le_of_ble_eq_true rfl) rfl rfl (s_run_ind (V := fun x r => s_V G (d + 1) M_X1_isVoid [.ref v0, .int v1] σ Y_X1_isVoid x (e_I r)) (fun x z r hs hk => v_X1_isVoid hs (by cases z <;> exact hk)) h)
/-! X1_ofReceipt -/
noncomputable def T_X1_ofReceipt_0 (v0 : Nat) (v1 : Int32) (v2 : Int32) (σ : sS) : Option (sZ Int32) :=
  if v1 < 0 then (some (.inl (25, [.ref v0, .int v1, .int v2], σ)))
  else ((s_fi σ v0 1 9).bind fun x1 =>
  if x1 ≤ v1 then (some (.inl (25, [.ref v0, .int v1, .int v2], σ)))
  else (if v2 < 0 then (some (.inl (25, [.ref v0, .int v1, .int v2], σ)))
  else (if (4 : Int32) ≤ v2 then (some (.inl (25, [.ref v0, .int v1, .int v2], σ)))
  else (some (.inl (26, [.ref v0, .int v1, .int v2, .int 1], σ))))))
noncomputable def U_X1_ofReceipt_0 (vs : List Value) (σ : sS) : Option (sZ Int32) := (g_r vs).bind fun a0 => (g_i a0.2).bind fun a1 => (g_i a1.2).bind fun a2 => (g_e a2.2).bind fun _ => T_X1_ofReceipt_0 a0.1 a1.1 a2.1 σ
noncomputable def T_X1_ofReceipt_25 (v0 : Nat) (v1 : Int32) (v2 : Int32) (σ : sS) : Option (sZ Int32) :=
  some (.inl (26, [.ref v0, .int v1, .int v2, .int 0], σ))
noncomputable def U_X1_ofReceipt_25 (vs : List Value) (σ : sS) : Option (sZ Int32) := (g_r vs).bind fun a0 => (g_i a0.2).bind fun a1 => (g_i a1.2).bind fun a2 => (g_e a2.2).bind fun _ => T_X1_ofReceipt_25 a0.1 a1.1 a2.1 σ
noncomputable def T_X1_ofReceipt_26 (v0 : Nat) (v1 : Int32) (v2 : Int32) (w0 : Int32) (σ : sS) : Option (sZ Int32) :=
  if w0 = 0 then (some (.inr ((-1), σ)))
  else ((s_fr σ v0 1 14).bind fun x1 =>
  (s_ai σ x1 ((v1 * 4) + v2)).bind fun x2 =>
  some (.inr (x2, σ)))
noncomputable def U_X1_ofReceipt_26 (vs : List Value) (σ : sS) : Option (sZ Int32) := (g_r vs).bind fun a0 => (g_i a0.2).bind fun a1 => (g_i a1.2).bind fun a2 => (g_i a2.2).bind fun a3 => (g_e a3.2).bind fun _ => T_X1_ofReceipt_26 a0.1 a1.1 a2.1 a3.1 σ
noncomputable def S_X1_ofReceipt (x : sL) : Option (sZ Int32) := if x.1 = 0 then U_X1_ofReceipt_0 x.2.1 x.2.2 else if x.1 = 25 then U_X1_ofReceipt_25 x.2.1 x.2.2 else if x.1 = 26 then U_X1_ofReceipt_26 x.2.1 x.2.2 else none
def Y_X1_ofReceipt (pc : Nat) : List Nat := if pc = 0 then [0, 1, 2] else if pc = 25 then [0, 1, 2] else if pc = 26 then [0, 1, 2] else []
noncomputable def F_X1_ofReceipt (v0 : Nat) (v1 : Int32) (v2 : Int32) (σ : sS) : Option (Int32 × sS) := (s_is σ v0 1).bind fun _ => s_run S_X1_ofReceipt (0, [.ref v0, .int v1, .int v2], σ)
theorem l_X1_ofReceipt_0 {v0 : Nat} {v1 : Int32} {v2 : Int32} {σ : sS} {z : sZ Int32} (hf : T_X1_ofReceipt_0 v0 v1 v2 σ = some z) : s_lz σ z := by
  unfold T_X1_ofReceipt_0 at hf
  rcases s_ite hf with ⟨-, hf⟩ | ⟨-, hf⟩
  · cases hf
    exact s_le.rf
  · obtain ⟨x1, -, hf⟩ := s_bind hf
    rcases s_ite hf with ⟨-, hf⟩ | ⟨-, hf⟩
    · cases hf
      exact s_le.rf
    · rcases s_ite hf with ⟨-, hf⟩ | ⟨-, hf⟩
      · cases hf
        exact s_le.rf
      · rcases s_ite hf with ⟨-, hf⟩ | ⟨-, hf⟩
        · cases hf
          exact s_le.rf
        · cases hf
          exact s_le.rf
theorem l_X1_ofReceipt_25 {v0 : Nat} {v1 : Int32} {v2 : Int32} {σ : sS} {z : sZ Int32} (hf : T_X1_ofReceipt_25 v0 v1 v2 σ = some z) : s_lz σ z := by
  unfold T_X1_ofReceipt_25 at hf
  cases hf
  exact s_le.rf
theorem l_X1_ofReceipt_26 {v0 : Nat} {v1 : Int32} {v2 : Int32} {w0 : Int32} {σ : sS} {z : sZ Int32} (hf : T_X1_ofReceipt_26 v0 v1 v2 w0 σ = some z) : s_lz σ z := by
  unfold T_X1_ofReceipt_26 at hf
  rcases s_ite hf with ⟨-, hf⟩ | ⟨-, hf⟩
  · cases hf
    exact s_le.rf
  · obtain ⟨x1, -, hf⟩ := s_bind hf
    obtain ⟨x2, -, hf⟩ := s_bind hf
    cases hf
    exact s_le.rf
theorem l_X1_ofReceipt_s {x : sL} {z : sZ Int32} (hs : S_X1_ofReceipt x = some z) : s_lz x.2.2 z := by
  obtain ⟨pc, vs, σ⟩ := x
  unfold S_X1_ofReceipt at hs
  dsimp only at hs ⊢
  rcases s_ite hs with ⟨c, hs⟩ | ⟨-, hs⟩
  · subst c
    unfold U_X1_ofReceipt_0 at hs
    obtain ⟨a0, g0, hs⟩ := s_bind hs
    obtain ⟨a1, g1, hs⟩ := s_bind hs
    obtain ⟨a2, g2, hs⟩ := s_bind hs
    obtain ⟨u9, ge, hs⟩ := s_bind hs
    exact l_X1_ofReceipt_0 hs
  rcases s_ite hs with ⟨c, hs⟩ | ⟨-, hs⟩
  · subst c
    unfold U_X1_ofReceipt_25 at hs
    obtain ⟨a0, g0, hs⟩ := s_bind hs
    obtain ⟨a1, g1, hs⟩ := s_bind hs
    obtain ⟨a2, g2, hs⟩ := s_bind hs
    obtain ⟨u9, ge, hs⟩ := s_bind hs
    exact l_X1_ofReceipt_25 hs
  rcases s_ite hs with ⟨c, hs⟩ | ⟨-, hs⟩
  · subst c
    unfold U_X1_ofReceipt_26 at hs
    obtain ⟨a0, g0, hs⟩ := s_bind hs
    obtain ⟨a1, g1, hs⟩ := s_bind hs
    obtain ⟨a2, g2, hs⟩ := s_bind hs
    obtain ⟨a3, g3, hs⟩ := s_bind hs
    obtain ⟨u9, ge, hs⟩ := s_bind hs
    exact l_X1_ofReceipt_26 hs
  cases hs
theorem l_X1_ofReceipt {v0 : Nat} {v1 : Int32} {v2 : Int32} {σ : sS} {q : Int32 × sS} (h : F_X1_ofReceipt v0 v1 v2 σ = some q) : s_le σ q.2 := by
  unfold F_X1_ofReceipt at h
  obtain ⟨-, -, h⟩ := s_bind h
  exact s_run_ind (V := fun x r => s_le x.2.2 r.2) (fun x z r hs hk => by
    have h9 := l_X1_ofReceipt_s hs
    cases z with
    | inl y => exact s_le.tr h9 hk
    | inr q => cases hk; exact h9) h
theorem b_X1_ofReceipt {v0 : Nat} {v1 : Int32} {v2 : Int32} {σ : sS} {q : Int32 × sS} (h : F_X1_ofReceipt v0 v1 v2 σ = some q) : ∃ fs, σ.1 v0 = some (.inr (1, fs)) := by
  unfold F_X1_ofReceipt at h
  obtain ⟨u, hu, -⟩ := s_bind h
  exact s_is_to hu
set_option maxRecDepth 100000 in
set_option maxHeartbeats 4000000 in
theorem v_X1_ofReceipt_0 {G : sG} {d : Nat} {vs0 : List Value} {σ0 : sS} {v0 : Nat} {v1 : Int32} {v2 : Int32} {σ : sS} {z : sZ Int32} {r : Int32 × sS} (hf : T_X1_ofReceipt_0 v0 v1 v2 σ = some z) (k : s_K G (d + 1) M_X1_ofReceipt vs0 σ0 Y_X1_ofReceipt e_I z r) : s_V G (d + 1) M_X1_ofReceipt vs0 σ0 Y_X1_ofReceipt (0, [.ref v0, .int v1, .int v2], σ) (e_I r) := by
  have le0 : s_le σ (e_I r).2 := s_lek hem_I (l_X1_ofReceipt_0 hf) k
  refine ⟨le0, ?_⟩
  intro p e s m below meth c H locs cells slots ls X I hn1 hn2 hl
  have hn : cells + σ0.2.1 ≤ σ.2.1 ∧ slots + σ0.2.2.1 ≤ σ.2.2.1 := ⟨hn1, hn2⟩
  have hl : lv_has ls 4 [(0, .ref v0), (1, .int v1), (2, .int v2)] := hl
  have hx := X.1
  have hb : c.code = cX1_ofReceipt := X.2.1
  have hown : s.vm.findClass RX1 = some m.cls := X.2.2.2.2.2.1
  have hts := X.2.2.2.2.2.2.1
  refine W.eq (g2 := F0 m 0 ls []) rfl ?_
  unfold T_X1_ofReceipt_0 at hf
  refine lv_iload_n hx hb dX1_ofReceipt_0 rfl (lv_at hl 1 rfl) ?_
  rcases s_ite hf with ⟨c1, hf⟩ | ⟨c1, hf⟩
  · refine lv_if_lt (tgt := 25) hx hb dX1_ofReceipt_1 (by decide) (fun _ => ?_) (fun n => absurd c1 n)
    cases hf
    have k : s_V G (d + 1) M_X1_ofReceipt vs0 σ0 Y_X1_ofReceipt (25, [.ref v0, .int v1, .int v2], σ) (e_I r) := k
    exact k.2 p e s m below meth c _ _ _ _ _ X I hn.1 hn.2 (lv_sub hl [0, 1, 2] rfl)
  · refine lv_if_lt (tgt := 25) hx hb dX1_ofReceipt_1 (by decide) (fun n => absurd n c1) (fun _ => ?_)
    obtain ⟨x1, h2, hf⟩ := s_bind hf
    refine lv_iload_n hx hb dX1_ofReceipt_4 rfl (lv_at hl 1 rfl) ?_
    refine lv_aload_n hx hb dX1_ofReceipt_5 rfl (lv_at hl 0 rfl) ?_
    refine r_gi X I fl_X1_54 h2 dX1_ofReceipt_6 ?_
    rcases s_ite hf with ⟨c3, hf⟩ | ⟨c3, hf⟩
    · refine lv_icmp_ge (tgt := 25) hx hb dX1_ofReceipt_9 (by decide) (fun _ => ?_) (fun n => absurd c3 n)
      cases hf
      have k : s_V G (d + 1) M_X1_ofReceipt vs0 σ0 Y_X1_ofReceipt (25, [.ref v0, .int v1, .int v2], σ) (e_I r) := k
      exact k.2 p e s m below meth c _ _ _ _ _ X I hn.1 hn.2 (lv_sub hl [0, 1, 2] rfl)
    · refine lv_icmp_ge (tgt := 25) hx hb dX1_ofReceipt_9 (by decide) (fun n => absurd n c3) (fun _ => ?_)
      refine lv_iload_n hx hb dX1_ofReceipt_12 rfl (lv_at hl 2 rfl) ?_
      rcases s_ite hf with ⟨c4, hf⟩ | ⟨c4, hf⟩
      · refine lv_if_lt (tgt := 25) hx hb dX1_ofReceipt_13 (by decide) (fun _ => ?_) (fun n => absurd c4 n)
        cases hf
        have k : s_V G (d + 1) M_X1_ofReceipt vs0 σ0 Y_X1_ofReceipt (25, [.ref v0, .int v1, .int v2], σ) (e_I r) := k
        exact k.2 p e s m below meth c _ _ _ _ _ X I hn.1 hn.2 (lv_sub hl [0, 1, 2] rfl)
      · refine lv_if_lt (tgt := 25) hx hb dX1_ofReceipt_13 (by decide) (fun n => absurd n c4) (fun _ => ?_)
        refine lv_iload_n hx hb dX1_ofReceipt_16 rfl (lv_at hl 2 rfl) ?_
        refine lv_iconst (v := 4) hx hb dX1_ofReceipt_17 (by decide) ?_
        rcases s_ite hf with ⟨c5, hf⟩ | ⟨c5, hf⟩
        · refine lv_icmp_ge (tgt := 25) hx hb dX1_ofReceipt_18 (by decide) (fun _ => ?_) (fun n => absurd c5 n)
          cases hf
          have k : s_V G (d + 1) M_X1_ofReceipt vs0 σ0 Y_X1_ofReceipt (25, [.ref v0, .int v1, .int v2], σ) (e_I r) := k
          exact k.2 p e s m below meth c _ _ _ _ _ X I hn.1 hn.2 (lv_sub hl [0, 1, 2] rfl)
        · refine lv_icmp_ge (tgt := 25) hx hb dX1_ofReceipt_18 (by decide) (fun n => absurd n c5) (fun _ => ?_)
          cases hf
          have k : s_V G (d + 1) M_X1_ofReceipt vs0 σ0 Y_X1_ofReceipt (26, [.ref v0, .int v1, .int v2, .int 1], σ) (e_I r) := k
          refine lv_iconst (v := 1) hx hb dX1_ofReceipt_21 (by decide) ?_
          refine lv_goto (tgt := 26) hx hb dX1_ofReceipt_22 (by decide) ?_
          exact k.2 p e s m below meth c _ _ _ _ _ X I hn.1 hn.2 (lv_sub hl [0, 1, 2] rfl)
set_option maxRecDepth 100000 in
set_option maxHeartbeats 4000000 in
theorem v_X1_ofReceipt_25 {G : sG} {d : Nat} {vs0 : List Value} {σ0 : sS} {v0 : Nat} {v1 : Int32} {v2 : Int32} {σ : sS} {z : sZ Int32} {r : Int32 × sS} (hf : T_X1_ofReceipt_25 v0 v1 v2 σ = some z) (k : s_K G (d + 1) M_X1_ofReceipt vs0 σ0 Y_X1_ofReceipt e_I z r) : s_V G (d + 1) M_X1_ofReceipt vs0 σ0 Y_X1_ofReceipt (25, [.ref v0, .int v1, .int v2], σ) (e_I r) := by
  have le0 : s_le σ (e_I r).2 := s_lek hem_I (l_X1_ofReceipt_25 hf) k
  refine ⟨le0, ?_⟩
  intro p e s m below meth c H locs cells slots ls X I hn1 hn2 hl
  have hn : cells + σ0.2.1 ≤ σ.2.1 ∧ slots + σ0.2.2.1 ≤ σ.2.2.1 := ⟨hn1, hn2⟩
  have hl : lv_has ls 4 [(0, .ref v0), (1, .int v1), (2, .int v2)] := hl
  have hx := X.1
  have hb : c.code = cX1_ofReceipt := X.2.1
  have hown : s.vm.findClass RX1 = some m.cls := X.2.2.2.2.2.1
  have hts := X.2.2.2.2.2.2.1
  refine W.eq (g2 := F0 m 25 ls []) rfl ?_
  unfold T_X1_ofReceipt_25 at hf
  cases hf
  have k : s_V G (d + 1) M_X1_ofReceipt vs0 σ0 Y_X1_ofReceipt (26, [.ref v0, .int v1, .int v2, .int 0], σ) (e_I r) := k
  refine lv_iconst (v := 0) hx hb dX1_ofReceipt_25 (by decide) ?_
  exact k.2 p e s m below meth c _ _ _ _ _ X I hn.1 hn.2 (lv_sub hl [0, 1, 2] rfl)
set_option maxRecDepth 100000 in
set_option maxHeartbeats 4000000 in
theorem v_X1_ofReceipt_26 {G : sG} {d : Nat} {vs0 : List Value} {σ0 : sS} {v0 : Nat} {v1 : Int32} {v2 : Int32} {w0 : Int32} {σ : sS} {z : sZ Int32} {r : Int32 × sS} (hf : T_X1_ofReceipt_26 v0 v1 v2 w0 σ = some z) (k : s_K G (d + 1) M_X1_ofReceipt vs0 σ0 Y_X1_ofReceipt e_I z r) : s_V G (d + 1) M_X1_ofReceipt vs0 σ0 Y_X1_ofReceipt (26, [.ref v0, .int v1, .int v2, .int w0], σ) (e_I r) := by
  have le0 : s_le σ (e_I r).2 := s_lek hem_I (l_X1_ofReceipt_26 hf) k
  refine ⟨le0, ?_⟩
  intro p e s m below meth c H locs cells slots ls X I hn1 hn2 hl
  have hn : cells + σ0.2.1 ≤ σ.2.1 ∧ slots + σ0.2.2.1 ≤ σ.2.2.1 := ⟨hn1, hn2⟩
  have hl : lv_has ls 4 [(0, .ref v0), (1, .int v1), (2, .int v2)] := hl
  have hx := X.1
  have hb : c.code = cX1_ofReceipt := X.2.1
  have hown : s.vm.findClass RX1 = some m.cls := X.2.2.2.2.2.1
  have hts := X.2.2.2.2.2.2.1
  refine W.eq (g2 := F0 m 26 ls [.int w0]) rfl ?_
  unfold T_X1_ofReceipt_26 at hf
  refine lv_istore_n (lv' := [(3, .int w0), (0, .ref v0), (1, .int v1), (2, .int v2)]) hx hb dX1_ofReceipt_26 rfl hl (by decide) rfl (fun ls hl => ?_)
  refine lv_iload_n hx hb dX1_ofReceipt_27 rfl (lv_at hl 0 rfl) ?_
  rcases s_ite hf with ⟨c1, hf⟩ | ⟨c1, hf⟩
  · refine lv_if_eq (tgt := 44) hx hb dX1_ofReceipt_28 (by decide) (fun _ => ?_) (fun n => absurd c1 n)
    cases hf
    have k : _ = r := k
    subst k
    refine lv_iconst (v := (-1)) hx hb dX1_ofReceipt_44 (by decide) ?_
    exact r_iret X I rfl rfl rfl hn dX1_ofReceipt_45
  · refine lv_if_eq (tgt := 44) hx hb dX1_ofReceipt_28 (by decide) (fun n => absurd n c1) (fun _ => ?_)
    obtain ⟨x1, h2, hf⟩ := s_bind hf
    obtain ⟨x2, h3, hf⟩ := s_bind hf
    cases hf
    have k : _ = r := k
    subst k
    refine lv_aload_n hx hb dX1_ofReceipt_31 rfl (lv_at hl 1 rfl) ?_
    refine r_gr X I fl_X1_41 h2 dX1_ofReceipt_32 ?_
    refine lv_iload_n hx hb dX1_ofReceipt_35 rfl (lv_at hl 2 rfl) ?_
    refine lv_iconst (v := 4) hx hb dX1_ofReceipt_36 (by decide) ?_
    refine lv_imul hx hb dX1_ofReceipt_37 ?_
    refine lv_iload_n hx hb dX1_ofReceipt_38 rfl (lv_at hl 3 rfl) ?_
    refine lv_iadd hx hb dX1_ofReceipt_39 ?_
    refine r_iald X I h3 dX1_ofReceipt_40 ?_
    refine lv_goto (tgt := 45) hx hb dX1_ofReceipt_41 (by decide) ?_
    exact r_iret X I rfl rfl rfl hn dX1_ofReceipt_45
theorem v_X1_ofReceipt {G : sG} {d : Nat} {vs0 : List Value} {σ0 : sS} {x : sL} {z : sZ Int32} {r : Int32 × sS} (hs : S_X1_ofReceipt x = some z) (k : s_K G (d + 1) M_X1_ofReceipt vs0 σ0 Y_X1_ofReceipt e_I z r) : s_V G (d + 1) M_X1_ofReceipt vs0 σ0 Y_X1_ofReceipt x (e_I r) := by
  obtain ⟨pc, vs, σ⟩ := x
  unfold S_X1_ofReceipt at hs
  dsimp only at hs
  rcases s_ite hs with ⟨c, hs⟩ | ⟨-, hs⟩
  · subst c
    unfold U_X1_ofReceipt_0 at hs
    obtain ⟨a0, g0, hs⟩ := s_bind hs
    obtain ⟨a1, g1, hs⟩ := s_bind hs
    obtain ⟨a2, g2, hs⟩ := s_bind hs
    obtain ⟨u9, ge, hs⟩ := s_bind hs
    rw [g_r_to g0, g_i_to g1, g_i_to g2, g_e_to ge]
    exact v_X1_ofReceipt_0 hs k
  rcases s_ite hs with ⟨c, hs⟩ | ⟨-, hs⟩
  · subst c
    unfold U_X1_ofReceipt_25 at hs
    obtain ⟨a0, g0, hs⟩ := s_bind hs
    obtain ⟨a1, g1, hs⟩ := s_bind hs
    obtain ⟨a2, g2, hs⟩ := s_bind hs
    obtain ⟨u9, ge, hs⟩ := s_bind hs
    rw [g_r_to g0, g_i_to g1, g_i_to g2, g_e_to ge]
    exact v_X1_ofReceipt_25 hs k
  rcases s_ite hs with ⟨c, hs⟩ | ⟨-, hs⟩
  · subst c
    unfold U_X1_ofReceipt_26 at hs
    obtain ⟨a0, g0, hs⟩ := s_bind hs
    obtain ⟨a1, g1, hs⟩ := s_bind hs
    obtain ⟨a2, g2, hs⟩ := s_bind hs
    obtain ⟨a3, g3, hs⟩ := s_bind hs
    obtain ⟨u9, ge, hs⟩ := s_bind hs
    rw [g_r_to g0, g_i_to g1, g_i_to g2, g_i_to g3, g_e_to ge]
    exact v_X1_ofReceipt_26 hs k
  cases hs
theorem t_X1_ofReceipt {G : sG} {d : Nat} {v0 : Nat} {v1 : Int32} {v2 : Int32} {σ : sS} {q : Int32 × sS} (h : F_X1_ofReceipt v0 v1 v2 σ = some q) : s_T G (d + 1) M_X1_ofReceipt [.ref v0, .int v1, .int v2] σ (e_I q) := by
  unfold F_X1_ofReceipt at h
  obtain ⟨-, -, h⟩ := s_bind h
  exact s_ofV rfl (by decide) (Nat.le_of_ble_eq_true rfl) rfl rfl (s_run_ind (V := fun x r => s_V G (d + 1) M_X1_ofReceipt [.ref v0, .int v1, .int v2] σ Y_X1_ofReceipt x (e_I r)) (fun x z r hs hk => v_X1_ofReceipt hs (by cases z <;> exact hk)) h)
/-! X0_isSaved -/
noncomputable def T_X0_isSaved_0 (v0 : Nat) (v1 : Int32) (σ : sS) : Option (sZ Int32) :=
  (s_fl σ v0 0 1).bind fun x1 =>
  (s_fl σ v0 0 2).bind fun x2 =>
  (s_fl σ v0 0 3).bind fun x3 =>
  some (.inl (26, [.ref v0, .int v1, .long ((x1 &&& (x2 ^^^ (-1))) &&& (x3 ^^^ (-1))), .int 0], σ))
noncomputable def U_X0_isSaved_0 (vs : List Value) (σ : sS) : Option (sZ Int32) := (g_r vs).bind fun a0 => (g_i a0.2).bind fun a1 => (g_e a1.2).bind fun _ => T_X0_isSaved_0 a0.1 a1.1 σ
noncomputable def T_X0_isSaved_26 (v0 : Nat) (v1 : Int32) (v2 : Int64) (v4 : Int32) (σ : sS) : Option (sZ Int32) :=
  (s_fr σ v0 0 5).bind fun x1 =>
  (s_fi σ x1 1 6).bind fun x2 =>
  if x2 ≤ v4 then (some (.inr (0, σ)))
  else (if (lg_cmp (((v2 : Int64).toUInt64 >>> ((v4 : Int32).toInt64.toUInt64 &&& Int64.toUInt64 63)).toInt64 &&& 1) 0) = 0 then (some (.inl (71, [.ref v0, .int v1, .long v2, .int v4], σ)))
  else ((s_fr σ v0 0 5).bind fun x3 =>
  (F_X1_nodeOfLine x3 v4 σ).bind fun q4 =>
  (s_fr q4.2 v0 0 5).bind fun x5 =>
  (F_X1_nodeOfLine x5 v1 q4.2).bind fun q6 =>
  if q4.1 = q6.1 then (some (.inr (1, q6.2)))
  else (some (.inl (71, [.ref v0, .int v1, .long v2, .int v4], q6.2)))))
noncomputable def U_X0_isSaved_26 (vs : List Value) (σ : sS) : Option (sZ Int32) := (g_r vs).bind fun a0 => (g_i a0.2).bind fun a1 => (g_l a1.2).bind fun a2 => (g_i a2.2).bind fun a3 => (g_e a3.2).bind fun _ => T_X0_isSaved_26 a0.1 a1.1 a2.1 a3.1 σ
noncomputable def T_X0_isSaved_71 (v0 : Nat) (v1 : Int32) (v2 : Int64) (v4 : Int32) (σ : sS) : Option (sZ Int32) :=
  some (.inl (26, [.ref v0, .int v1, .long v2, .int (v4 + 1)], σ))
noncomputable def U_X0_isSaved_71 (vs : List Value) (σ : sS) : Option (sZ Int32) := (g_r vs).bind fun a0 => (g_i a0.2).bind fun a1 => (g_l a1.2).bind fun a2 => (g_i a2.2).bind fun a3 => (g_e a3.2).bind fun _ => T_X0_isSaved_71 a0.1 a1.1 a2.1 a3.1 σ
noncomputable def S_X0_isSaved (x : sL) : Option (sZ Int32) := if x.1 = 0 then U_X0_isSaved_0 x.2.1 x.2.2 else if x.1 = 26 then U_X0_isSaved_26 x.2.1 x.2.2 else if x.1 = 71 then U_X0_isSaved_71 x.2.1 x.2.2 else none
def Y_X0_isSaved (pc : Nat) : List Nat := if pc = 0 then [0, 1] else if pc = 26 then [0, 1, 2, 4] else if pc = 71 then [0, 1, 2, 4] else []
noncomputable def F_X0_isSaved (v0 : Nat) (v1 : Int32) (σ : sS) : Option (Int32 × sS) := (s_is σ v0 0).bind fun _ => s_run S_X0_isSaved (0, [.ref v0, .int v1], σ)
theorem l_X0_isSaved_0 {v0 : Nat} {v1 : Int32} {σ : sS} {z : sZ Int32} (hf : T_X0_isSaved_0 v0 v1 σ = some z) : s_lz σ z := by
  unfold T_X0_isSaved_0 at hf
  obtain ⟨x1, -, hf⟩ := s_bind hf
  obtain ⟨x2, -, hf⟩ := s_bind hf
  obtain ⟨x3, -, hf⟩ := s_bind hf
  cases hf
  exact s_le.rf
theorem l_X0_isSaved_26 {v0 : Nat} {v1 : Int32} {v2 : Int64} {v4 : Int32} {σ : sS} {z : sZ Int32} (hf : T_X0_isSaved_26 v0 v1 v2 v4 σ = some z) : s_lz σ z := by
  unfold T_X0_isSaved_26 at hf
  obtain ⟨x1, -, hf⟩ := s_bind hf
  obtain ⟨x2, -, hf⟩ := s_bind hf
  rcases s_ite hf with ⟨-, hf⟩ | ⟨-, hf⟩
  · cases hf
    exact s_le.rf
  · rcases s_ite hf with ⟨-, hf⟩ | ⟨-, hf⟩
    · cases hf
      exact s_le.rf
    · obtain ⟨x3, -, hf⟩ := s_bind hf
      obtain ⟨q4, hh, hf⟩ := s_bind hf
      refine s_lz.tr (l_X1_nodeOfLine hh) ?_
      obtain ⟨x5, -, hf⟩ := s_bind hf
      obtain ⟨q6, hh, hf⟩ := s_bind hf
      refine s_lz.tr (l_X1_nodeOfLine hh) ?_
      rcases s_ite hf with ⟨-, hf⟩ | ⟨-, hf⟩
      · cases hf
        exact s_le.rf
      · cases hf
        exact s_le.rf
theorem l_X0_isSaved_71 {v0 : Nat} {v1 : Int32} {v2 : Int64} {v4 : Int32} {σ : sS} {z : sZ Int32} (hf : T_X0_isSaved_71 v0 v1 v2 v4 σ = some z) : s_lz σ z := by
  unfold T_X0_isSaved_71 at hf
  cases hf
  exact s_le.rf
theorem l_X0_isSaved_s {x : sL} {z : sZ Int32} (hs : S_X0_isSaved x = some z) : s_lz x.2.2 z := by
  obtain ⟨pc, vs, σ⟩ := x
  unfold S_X0_isSaved at hs
  dsimp only at hs ⊢
  rcases s_ite hs with ⟨c, hs⟩ | ⟨-, hs⟩
  · subst c
    unfold U_X0_isSaved_0 at hs
    obtain ⟨a0, g0, hs⟩ := s_bind hs
    obtain ⟨a1, g1, hs⟩ := s_bind hs
    obtain ⟨u9, ge, hs⟩ := s_bind hs
    exact l_X0_isSaved_0 hs
  rcases s_ite hs with ⟨c, hs⟩ | ⟨-, hs⟩
  · subst c
    unfold U_X0_isSaved_26 at hs
    obtain ⟨a0, g0, hs⟩ := s_bind hs
    obtain ⟨a1, g1, hs⟩ := s_bind hs
    obtain ⟨a2, g2, hs⟩ := s_bind hs
    obtain ⟨a3, g3, hs⟩ := s_bind hs
    obtain ⟨u9, ge, hs⟩ := s_bind hs
    exact l_X0_isSaved_26 hs
  rcases s_ite hs with ⟨c, hs⟩ | ⟨-, hs⟩
  · subst c
    unfold U_X0_isSaved_71 at hs
    obtain ⟨a0, g0, hs⟩ := s_bind hs
    obtain ⟨a1, g1, hs⟩ := s_bind hs
    obtain ⟨a2, g2, hs⟩ := s_bind hs
    obtain ⟨a3, g3, hs⟩ := s_bind hs
    obtain ⟨u9, ge, hs⟩ := s_bind hs
    exact l_X0_isSaved_71 hs
  cases hs
theorem l_X0_isSaved {v0 : Nat} {v1 : Int32} {σ : sS} {q : Int32 × sS} (h : F_X0_isSaved v0 v1 σ = some q) : s_le σ q.2 := by
  unfold F_X0_isSaved at h
  obtain ⟨-, -, h⟩ := s_bind h
  exact s_run_ind (V := fun x r => s_le x.2.2 r.2) (fun x z r hs hk => by
    have h9 := l_X0_isSaved_s hs
    cases z with
    | inl y => exact s_le.tr h9 hk
    | inr q => cases hk; exact h9) h
theorem b_X0_isSaved {v0 : Nat} {v1 : Int32} {σ : sS} {q : Int32 × sS} (h : F_X0_isSaved v0 v1 σ = some q) : ∃ fs, σ.1 v0 = some (.inr (0, fs)) := by
  unfold F_X0_isSaved at h
  obtain ⟨u, hu, -⟩ := s_bind h
  exact s_is_to hu
set_option maxRecDepth 100000 in
set_option maxHeartbeats 4000000 in
theorem v_X0_isSaved_0 {G : sG} {d : Nat} {vs0 : List Value} {σ0 : sS} {v0 : Nat} {v1 : Int32} {σ : sS} {z : sZ Int32} {r : Int32 × sS} (hf : T_X0_isSaved_0 v0 v1 σ = some z) (k : s_K G (d + 3) M_X0_isSaved vs0 σ0 Y_X0_isSaved e_I z r) : s_V G (d + 3) M_X0_isSaved vs0 σ0 Y_X0_isSaved (0, [.ref v0, .int v1], σ) (e_I r) := by
  have le0 : s_le σ (e_I r).2 := s_lek hem_I (l_X0_isSaved_0 hf) k
  refine ⟨le0, ?_⟩
  intro p e s m below meth c H locs cells slots ls X I hn1 hn2 hl
  have hn : cells + σ0.2.1 ≤ σ.2.1 ∧ slots + σ0.2.2.1 ≤ σ.2.2.1 := ⟨hn1, hn2⟩
  have hl : lv_has ls 5 [(0, .ref v0), (1, .int v1)] := hl
  have hx := X.1
  have hb : c.code = cX0_isSaved := X.2.1
  have hown : s.vm.findClass RX0 = some m.cls := X.2.2.2.2.2.1
  have hts := X.2.2.2.2.2.2.1
  refine W.eq (g2 := F0 m 0 ls []) rfl ?_
  unfold T_X0_isSaved_0 at hf
  obtain ⟨x1, h1, hf⟩ := s_bind hf
  obtain ⟨x2, h2, hf⟩ := s_bind hf
  obtain ⟨x3, h3, hf⟩ := s_bind hf
  cases hf
  have k : s_V G (d + 3) M_X0_isSaved vs0 σ0 Y_X0_isSaved (26, [.ref v0, .int v1, .long ((x1 &&& (x2 ^^^ (-1))) &&& (x3 ^^^ (-1))), .int 0], σ) (e_I r) := k
  refine lv_aload_n hx hb dX0_isSaved_0 rfl (lv_at hl 0 rfl) ?_
  refine r_gl X I fl_X0_23 h1 dX0_isSaved_1 ?_
  refine lv_aload_n hx hb dX0_isSaved_4 rfl (lv_at hl 0 rfl) ?_
  refine r_gl X I fl_X0_26 h2 dX0_isSaved_5 ?_
  refine lv_ldc2 (own := RX0) hx hb hown (hts _ w_1199) dX0_isSaved_8 ?_
  refine lv_lxor hx hb dX0_isSaved_11 ?_
  refine lv_land hx hb dX0_isSaved_12 ?_
  refine lv_aload_n hx hb dX0_isSaved_13 rfl (lv_at hl 0 rfl) ?_
  refine r_gl X I fl_X0_33 h3 dX0_isSaved_14 ?_
  refine lv_ldc2 (own := RX0) hx hb hown (hts _ w_1199) dX0_isSaved_17 ?_
  refine lv_lxor hx hb dX0_isSaved_20 ?_
  refine lv_land hx hb dX0_isSaved_21 ?_
  refine lv_lstore_n (lv' := [(2, .long ((x1 &&& (x2 ^^^ (-1))) &&& (x3 ^^^ (-1)))), (0, .ref v0), (1, .int v1)]) hx hb dX0_isSaved_22 rfl hl (by decide) rfl (fun ls hl => ?_)
  refine lv_iconst (v := 0) hx hb dX0_isSaved_23 (by decide) ?_
  refine lv_istore (lv' := [(4, .int 0), (2, .long ((x1 &&& (x2 ^^^ (-1))) &&& (x3 ^^^ (-1)))), (0, .ref v0), (1, .int v1)]) hx hb dX0_isSaved_24 hl (by decide) rfl (fun ls hl => ?_)
  exact k.2 p e s m below meth c _ _ _ _ _ X I hn.1 hn.2 (lv_sub hl [2, 3, 1, 0] rfl)
set_option maxRecDepth 100000 in
set_option maxHeartbeats 4000000 in
theorem v_X0_isSaved_26 {G : sG} {d : Nat} {vs0 : List Value} {σ0 : sS} {v0 : Nat} {v1 : Int32} {v2 : Int64} {v4 : Int32} {σ : sS} {z : sZ Int32} {r : Int32 × sS} (hf : T_X0_isSaved_26 v0 v1 v2 v4 σ = some z) (k : s_K G (d + 3) M_X0_isSaved vs0 σ0 Y_X0_isSaved e_I z r) : s_V G (d + 3) M_X0_isSaved vs0 σ0 Y_X0_isSaved (26, [.ref v0, .int v1, .long v2, .int v4], σ) (e_I r) := by
  have le0 : s_le σ (e_I r).2 := s_lek hem_I (l_X0_isSaved_26 hf) k
  refine ⟨le0, ?_⟩
  intro p e s m below meth c H locs cells slots ls X I hn1 hn2 hl
  have hn : cells + σ0.2.1 ≤ σ.2.1 ∧ slots + σ0.2.2.1 ≤ σ.2.2.1 := ⟨hn1, hn2⟩
  have hl : lv_has ls 5 [(0, .ref v0), (1, .int v1), (2, .long v2), (4, .int v4)] := hl
  have hx := X.1
  have hb : c.code = cX0_isSaved := X.2.1
  have hown : s.vm.findClass RX0 = some m.cls := X.2.2.2.2.2.1
  have hts := X.2.2.2.2.2.2.1
  refine W.eq (g2 := F0 m 26 ls []) rfl ?_
  unfold T_X0_isSaved_26 at hf
  obtain ⟨x1, h1, hf⟩ := s_bind hf
  obtain ⟨x2, h2, hf⟩ := s_bind hf
  refine lv_iload hx hb dX0_isSaved_26 (lv_at hl 3 rfl) ?_
  refine lv_aload_n hx hb dX0_isSaved_28 rfl (lv_at hl 0 rfl) ?_
  refine r_gr X I fl_X0_15 h1 dX0_isSaved_29 ?_
  refine r_gi X I fl_X0_40 h2 dX0_isSaved_32 ?_
  rcases s_ite hf with ⟨c3, hf⟩ | ⟨c3, hf⟩
  · refine lv_icmp_ge (tgt := 77) hx hb dX0_isSaved_35 (by decide) (fun _ => ?_) (fun n => absurd c3 n)
    cases hf
    have k : _ = r := k
    subst k
    refine lv_iconst (v := 0) hx hb dX0_isSaved_77 (by decide) ?_
    exact r_iret X I rfl rfl rfl hn dX0_isSaved_78
  · refine lv_icmp_ge (tgt := 77) hx hb dX0_isSaved_35 (by decide) (fun n => absurd n c3) (fun _ => ?_)
    refine lv_lload_n hx hb dX0_isSaved_38 rfl (lv_at hl 2 rfl) ?_
    refine lv_iload hx hb dX0_isSaved_39 (lv_at hl 3 rfl) ?_
    refine lv_lushr hx hb dX0_isSaved_41 rfl ?_
    refine lv_lconst (v := 1) hx hb dX0_isSaved_42 (by decide) ?_
    refine lv_land hx hb dX0_isSaved_43 ?_
    refine lv_lconst (v := 0) hx hb dX0_isSaved_44 (by decide) ?_
    refine W.lcmp hx hb dX0_isSaved_45 ?_
    rcases s_ite hf with ⟨c4, hf⟩ | ⟨c4, hf⟩
    · refine lv_if_eq (tgt := 71) hx hb dX0_isSaved_46 (by decide) (fun _ => ?_) (fun n => absurd c4 n)
      cases hf
      have k : s_V G (d + 3) M_X0_isSaved vs0 σ0 Y_X0_isSaved (71, [.ref v0, .int v1, .long v2, .int v4], σ) (e_I r) := k
      exact k.2 p e s m below meth c _ _ _ _ _ X I hn.1 hn.2 (lv_sub hl [0, 1, 2, 3] rfl)
    · refine lv_if_eq (tgt := 71) hx hb dX0_isSaved_46 (by decide) (fun n => absurd n c4) (fun _ => ?_)
      obtain ⟨x3, h5, hf⟩ := s_bind hf
      obtain ⟨q4, h6, hf⟩ := s_bind hf
      obtain ⟨x5, h7, hf⟩ := s_bind hf
      obtain ⟨q6, h8, hf⟩ := s_bind hf
      have le9 : s_le q6.2 (e_I r).2 := by
        refine s_lek hem_I ?_ k
        rcases s_ite hf with ⟨-, hf⟩ | ⟨-, hf⟩
        · cases hf
          exact s_le.rf
        · cases hf
          exact s_le.rf
      have le10 := s_le.tr (l_X1_nodeOfLine h8) le9
      refine lv_aload_n hx hb dX0_isSaved_49 rfl (lv_at hl 0 rfl) ?_
      refine r_gr X I fl_X0_15 h5 dX0_isSaved_50 ?_
      refine lv_iload hx hb dX0_isSaved_53 (lv_at hl 3 rfl) ?_
      refine r_callV (Y := M_X1_nodeOfLine) (v := some (.int q4.1)) X I w_525 my_X1_nodeOfLine (by omega) (t_X1_nodeOfLine (G := G) (d := d + 0) h6) (b_X1_nodeOfLine h6) rfl rfl hl.1 rfl (Nat.le_of_ble_eq_true rfl) hn le10 dX0_isSaved_55 (fun H locs cells slots I hn1 hn2 => ?_)
      have I : s_I G q4.2 s H locs := I
      have hn : cells + σ0.2.1 ≤ q4.2.2.1 ∧ slots + σ0.2.2.1 ≤ q4.2.2.2.1 := ⟨hn1, hn2⟩
      refine lv_aload_n hx hb dX0_isSaved_58 rfl (lv_at hl 0 rfl) ?_
      refine r_gr X I fl_X0_15 h7 dX0_isSaved_59 ?_
      refine lv_iload_n hx hb dX0_isSaved_62 rfl (lv_at hl 1 rfl) ?_
      refine r_callV (Y := M_X1_nodeOfLine) (v := some (.int q6.1)) X I w_525 my_X1_nodeOfLine (by omega) (t_X1_nodeOfLine (G := G) (d := d + 0) h8) (b_X1_nodeOfLine h8) rfl rfl hl.1 rfl (Nat.le_of_ble_eq_true rfl) hn le9 dX0_isSaved_63 (fun H locs cells slots I hn1 hn2 => ?_)
      have I : s_I G q6.2 s H locs := I
      have hn : cells + σ0.2.1 ≤ q6.2.2.1 ∧ slots + σ0.2.2.1 ≤ q6.2.2.2.1 := ⟨hn1, hn2⟩
      rcases s_ite hf with ⟨c11, hf⟩ | ⟨c11, hf⟩
      · refine lv_icmp_ne (tgt := 71) hx hb dX0_isSaved_66 (by decide) (fun n => absurd c11 n) (fun _ => ?_)
        cases hf
        have k : _ = r := k
        subst k
        refine lv_iconst (v := 1) hx hb dX0_isSaved_69 (by decide) ?_
        exact r_iret X I rfl rfl rfl hn dX0_isSaved_70
      · refine lv_icmp_ne (tgt := 71) hx hb dX0_isSaved_66 (by decide) (fun _ => ?_) (fun n => absurd n c11)
        cases hf
        have k : s_V G (d + 3) M_X0_isSaved vs0 σ0 Y_X0_isSaved (71, [.ref v0, .int v1, .long v2, .int v4], q6.2) (e_I r) := k
        exact k.2 p e s m below meth c _ _ _ _ _ X I hn.1 hn.2 (lv_sub hl [0, 1, 2, 3] rfl)
set_option maxRecDepth 100000 in
set_option maxHeartbeats 4000000 in
theorem v_X0_isSaved_71 {G : sG} {d : Nat} {vs0 : List Value} {σ0 : sS} {v0 : Nat} {v1 : Int32} {v2 : Int64} {v4 : Int32} {σ : sS} {z : sZ Int32} {r : Int32 × sS} (hf : T_X0_isSaved_71 v0 v1 v2 v4 σ = some z) (k : s_K G (d + 3) M_X0_isSaved vs0 σ0 Y_X0_isSaved e_I z r) : s_V G (d + 3) M_X0_isSaved vs0 σ0 Y_X0_isSaved (71, [.ref v0, .int v1, .long v2, .int v4], σ) (e_I r) := by
  have le0 : s_le σ (e_I r).2 := s_lek hem_I (l_X0_isSaved_71 hf) k
  refine ⟨le0, ?_⟩
  intro p e s m below meth c H locs cells slots ls X I hn1 hn2 hl
  have hn : cells + σ0.2.1 ≤ σ.2.1 ∧ slots + σ0.2.2.1 ≤ σ.2.2.1 := ⟨hn1, hn2⟩
  have hl : lv_has ls 5 [(0, .ref v0), (1, .int v1), (2, .long v2), (4, .int v4)] := hl
  have hx := X.1
  have hb : c.code = cX0_isSaved := X.2.1
  have hown : s.vm.findClass RX0 = some m.cls := X.2.2.2.2.2.1
  have hts := X.2.2.2.2.2.2.1
  refine W.eq (g2 := F0 m 71 ls []) rfl ?_
  unfold T_X0_isSaved_71 at hf
  cases hf
  have k : s_V G (d + 3) M_X0_isSaved vs0 σ0 Y_X0_isSaved (26, [.ref v0, .int v1, .long v2, .int (v4 + 1)], σ) (e_I r) := k
  refine lv_iinc (v := (v4 + 1)) (lv' := [(4, .int (v4 + 1)), (0, .ref v0), (1, .int v1), (2, .long v2)]) hx hb dX0_isSaved_71 hl (k := 3) rfl rfl (by decide) rfl (fun ls hl => ?_)
  refine lv_goto (tgt := 26) hx hb dX0_isSaved_74 (by decide) ?_
  exact k.2 p e s m below meth c _ _ _ _ _ X I hn.1 hn.2 (lv_sub hl [1, 2, 3, 0] rfl)
theorem v_X0_isSaved {G : sG} {d : Nat} {vs0 : List Value} {σ0 : sS} {x : sL} {z : sZ Int32} {r : Int32 × sS} (hs : S_X0_isSaved x = some z) (k : s_K G (d + 3) M_X0_isSaved vs0 σ0 Y_X0_isSaved e_I z r) : s_V G (d + 3) M_X0_isSaved vs0 σ0 Y_X0_isSaved x (e_I r) := by
  obtain ⟨pc, vs, σ⟩ := x
  unfold S_X0_isSaved at hs
  dsimp only at hs
  rcases s_ite hs with ⟨c, hs⟩ | ⟨-, hs⟩
  · subst c
    unfold U_X0_isSaved_0 at hs
    obtain ⟨a0, g0, hs⟩ := s_bind hs
    obtain ⟨a1, g1, hs⟩ := s_bind hs
    obtain ⟨u9, ge, hs⟩ := s_bind hs
    rw [g_r_to g0, g_i_to g1, g_e_to ge]
    exact v_X0_isSaved_0 hs k
  rcases s_ite hs with ⟨c, hs⟩ | ⟨-, hs⟩
  · subst c
    unfold U_X0_isSaved_26 at hs
    obtain ⟨a0, g0, hs⟩ := s_bind hs
    obtain ⟨a1, g1, hs⟩ := s_bind hs
    obtain ⟨a2, g2, hs⟩ := s_bind hs
    obtain ⟨a3, g3, hs⟩ := s_bind hs
    obtain ⟨u9, ge, hs⟩ := s_bind hs
    rw [g_r_to g0, g_i_to g1, g_l_to g2, g_i_to g3, g_e_to ge]
    exact v_X0_isSaved_26 hs k
  rcases s_ite hs with ⟨c, hs⟩ | ⟨-, hs⟩
  · subst c
    unfold U_X0_isSaved_71 at hs
    obtain ⟨a0, g0, hs⟩ := s_bind hs
    obtain ⟨a1, g1, hs⟩ := s_bind hs
    obtain ⟨a2, g2, hs⟩ := s_bind hs
    obtain ⟨a3, g3, hs⟩ := s_bind hs
    obtain ⟨u9, ge, hs⟩ := s_bind hs
    rw [g_r_to g0, g_i_to g1, g_l_to g2, g_i_to g3, g_e_to ge]
    exact v_X0_isSaved_71 hs k
  cases hs
theorem t_X0_isSaved {G : sG} {d : Nat} {v0 : Nat} {v1 : Int32} {σ : sS} {q : Int32 × sS} (h : F_X0_isSaved v0 v1 σ = some q) : s_T G (d + 3) M_X0_isSaved [.ref v0, .int v1] σ (e_I q) := by
  unfold F_X0_isSaved at h
  obtain ⟨-, -, h⟩ := s_bind h
  exact s_ofV rfl (by decide) (Nat.le_of_ble_eq_true rfl) rfl rfl (s_run_ind (V := fun x r => s_V G (d + 3) M_X0_isSaved [.ref v0, .int v1] σ Y_X0_isSaved x (e_I r)) (fun x z r hs hk => v_X0_isSaved hs (by cases z <;> exact hk)) h)
/-! X0_tells -/
noncomputable def T_X0_tells_0 (v0 : Nat) (v1 : Int32) (v2 : Int32) (σ : sS) : Option (sZ Int32) :=
  if v2 = 0 then ((s_fl σ v0 0 0).bind fun x1 =>
  if (lg_cmp (((x1 : Int64).toUInt64 >>> ((v1 : Int32).toInt64.toUInt64 &&& Int64.toUInt64 63)).toInt64 &&& 1) 0) = 0 then (some (.inr (0, σ)))
  else (some (.inr (1, σ))))
  else if v2 = 1 then ((s_fl σ v0 0 1).bind fun x2 =>
  if (lg_cmp (((x2 : Int64).toUInt64 >>> ((v1 : Int32).toInt64.toUInt64 &&& Int64.toUInt64 63)).toInt64 &&& 1) 0) = 0 then (some (.inr (0, σ)))
  else (some (.inr (1, σ))))
  else if v2 = 2 then ((s_fl σ v0 0 2).bind fun x3 =>
  if (lg_cmp (((x3 : Int64).toUInt64 >>> ((v1 : Int32).toInt64.toUInt64 &&& Int64.toUInt64 63)).toInt64 &&& 1) 0) = 0 then (some (.inr (0, σ)))
  else (some (.inr (1, σ))))
  else if v2 = 3 then ((s_fl σ v0 0 3).bind fun x4 =>
  if (lg_cmp (((x4 : Int64).toUInt64 >>> ((v1 : Int32).toInt64.toUInt64 &&& Int64.toUInt64 63)).toInt64 &&& 1) 0) = 0 then (some (.inr (0, σ)))
  else (some (.inr (1, σ))))
  else ((s_fl σ v0 0 3).bind fun x5 =>
  if (lg_cmp (((x5 : Int64).toUInt64 >>> ((v1 : Int32).toInt64.toUInt64 &&& Int64.toUInt64 63)).toInt64 &&& 1) 0) = 0 then (some (.inr (0, σ)))
  else ((F_X0_isSaved v0 v1 σ).bind fun q6 =>
  if q6.1 = 0 then (some (.inr (0, q6.2)))
  else (some (.inr (1, q6.2)))))
noncomputable def U_X0_tells_0 (vs : List Value) (σ : sS) : Option (sZ Int32) := (g_r vs).bind fun a0 => (g_i a0.2).bind fun a1 => (g_i a1.2).bind fun a2 => (g_e a2.2).bind fun _ => T_X0_tells_0 a0.1 a1.1 a2.1 σ
noncomputable def S_X0_tells (x : sL) : Option (sZ Int32) := if x.1 = 0 then U_X0_tells_0 x.2.1 x.2.2 else none
def Y_X0_tells (pc : Nat) : List Nat := if pc = 0 then [0, 1, 2] else []
noncomputable def F_X0_tells (v0 : Nat) (v1 : Int32) (v2 : Int32) (σ : sS) : Option (Int32 × sS) := (s_is σ v0 0).bind fun _ => s_run S_X0_tells (0, [.ref v0, .int v1, .int v2], σ)
theorem l_X0_tells_0 {v0 : Nat} {v1 : Int32} {v2 : Int32} {σ : sS} {z : sZ Int32} (hf : T_X0_tells_0 v0 v1 v2 σ = some z) : s_lz σ z := by
  unfold T_X0_tells_0 at hf
  rcases s_ite hf with ⟨-, hf⟩ | ⟨-, hf⟩
  · obtain ⟨x1, -, hf⟩ := s_bind hf
    rcases s_ite hf with ⟨-, hf⟩ | ⟨-, hf⟩
    · cases hf
      exact s_le.rf
    · cases hf
      exact s_le.rf
  rcases s_ite hf with ⟨-, hf⟩ | ⟨-, hf⟩
  · obtain ⟨x2, -, hf⟩ := s_bind hf
    rcases s_ite hf with ⟨-, hf⟩ | ⟨-, hf⟩
    · cases hf
      exact s_le.rf
    · cases hf
      exact s_le.rf
  rcases s_ite hf with ⟨-, hf⟩ | ⟨-, hf⟩
  · obtain ⟨x3, -, hf⟩ := s_bind hf
    rcases s_ite hf with ⟨-, hf⟩ | ⟨-, hf⟩
    · cases hf
      exact s_le.rf
    · cases hf
      exact s_le.rf
  rcases s_ite hf with ⟨-, hf⟩ | ⟨-, hf⟩
  · obtain ⟨x4, -, hf⟩ := s_bind hf
    rcases s_ite hf with ⟨-, hf⟩ | ⟨-, hf⟩
    · cases hf
      exact s_le.rf
    · cases hf
      exact s_le.rf
  obtain ⟨x5, -, hf⟩ := s_bind hf
  rcases s_ite hf with ⟨-, hf⟩ | ⟨-, hf⟩
  · cases hf
    exact s_le.rf
  · obtain ⟨q6, hh, hf⟩ := s_bind hf
    refine s_lz.tr (l_X0_isSaved hh) ?_
    rcases s_ite hf with ⟨-, hf⟩ | ⟨-, hf⟩
    · cases hf
      exact s_le.rf
    · cases hf
      exact s_le.rf
theorem l_X0_tells_s {x : sL} {z : sZ Int32} (hs : S_X0_tells x = some z) : s_lz x.2.2 z := by
  obtain ⟨pc, vs, σ⟩ := x
  unfold S_X0_tells at hs
  dsimp only at hs ⊢
  rcases s_ite hs with ⟨c, hs⟩ | ⟨-, hs⟩
  · subst c
    unfold U_X0_tells_0 at hs
    obtain ⟨a0, g0, hs⟩ := s_bind hs
    obtain ⟨a1, g1, hs⟩ := s_bind hs
    obtain ⟨a2, g2, hs⟩ := s_bind hs
    obtain ⟨u9, ge, hs⟩ := s_bind hs
    exact l_X0_tells_0 hs
  cases hs
theorem l_X0_tells {v0 : Nat} {v1 : Int32} {v2 : Int32} {σ : sS} {q : Int32 × sS} (h : F_X0_tells v0 v1 v2 σ = some q) : s_le σ q.2 := by
  unfold F_X0_tells at h
  obtain ⟨-, -, h⟩ := s_bind h
  exact s_run_ind (V := fun x r => s_le x.2.2 r.2) (fun x z r hs hk => by
    have h9 := l_X0_tells_s hs
    cases z with
    | inl y => exact s_le.tr h9 hk
    | inr q => cases hk; exact h9) h
theorem b_X0_tells {v0 : Nat} {v1 : Int32} {v2 : Int32} {σ : sS} {q : Int32 × sS} (h : F_X0_tells v0 v1 v2 σ = some q) : ∃ fs, σ.1 v0 = some (.inr (0, fs)) := by
  unfold F_X0_tells at h
  obtain ⟨u, hu, -⟩ := s_bind h
  exact s_is_to hu
set_option maxRecDepth 100000 in
set_option maxHeartbeats 4000000 in
theorem v_X0_tells_0 {G : sG} {d : Nat} {vs0 : List Value} {σ0 : sS} {v0 : Nat} {v1 : Int32} {v2 : Int32} {σ : sS} {z : sZ Int32} {r : Int32 × sS} (hf : T_X0_tells_0 v0 v1 v2 σ = some z) (k : s_K G (d + 4) M_X0_tells vs0 σ0 Y_X0_tells e_I z r) : s_V G (d + 4) M_X0_tells vs0 σ0 Y_X0_tells (0, [.ref v0, .int v1, .int v2], σ) (e_I r) := by
  have le0 : s_le σ (e_I r).2 := s_lek hem_I (l_X0_tells_0 hf) k
  refine ⟨le0, ?_⟩
  intro p e s m below meth c H locs cells slots ls X I hn1 hn2 hl
  have hn : cells + σ0.2.1 ≤ σ.2.1 ∧ slots + σ0.2.2.1 ≤ σ.2.2.1 := ⟨hn1, hn2⟩
  have hl : lv_has ls 3 [(0, .ref v0), (1, .int v1), (2, .int v2)] := hl
  have hx := X.1
  have hb : c.code = cX0_tells := X.2.1
  have hown : s.vm.findClass RX0 = some m.cls := X.2.2.2.2.2.1
  have hts := X.2.2.2.2.2.2.1
  refine W.eq (g2 := F0 m 0 ls []) rfl ?_
  unfold T_X0_tells_0 at hf
  refine lv_iload_n hx hb dX0_tells_0 rfl (lv_at hl 2 rfl) ?_
  rcases s_ite hf with ⟨c1, hf⟩ | ⟨c1, hf⟩
  · refine lv_tableIn (tgt := 32) (off := 31) hx hb dX0_tells_1 (by rw [c1]; decide) (by rw [c1]; decide) (by rw [c1]; rfl) (by decide) ?_
    obtain ⟨x1, h2, hf⟩ := s_bind hf
    refine lv_aload_n hx hb dX0_tells_32 rfl (lv_at hl 0 rfl) ?_
    refine r_gl X I fl_X0_19 h2 dX0_tells_33 ?_
    refine lv_iload_n hx hb dX0_tells_36 rfl (lv_at hl 1 rfl) ?_
    refine lv_lushr hx hb dX0_tells_37 rfl ?_
    refine lv_lconst (v := 1) hx hb dX0_tells_38 (by decide) ?_
    refine lv_land hx hb dX0_tells_39 ?_
    refine lv_lconst (v := 0) hx hb dX0_tells_40 (by decide) ?_
    refine W.lcmp hx hb dX0_tells_41 ?_
    rcases s_ite hf with ⟨c3, hf⟩ | ⟨c3, hf⟩
    · refine lv_if_eq (tgt := 49) hx hb dX0_tells_42 (by decide) (fun _ => ?_) (fun n => absurd c3 n)
      cases hf
      have k : _ = r := k
      subst k
      refine lv_iconst (v := 0) hx hb dX0_tells_49 (by decide) ?_
      exact r_iret X I rfl rfl rfl hn dX0_tells_50
    · refine lv_if_eq (tgt := 49) hx hb dX0_tells_42 (by decide) (fun n => absurd n c3) (fun _ => ?_)
      cases hf
      have k : _ = r := k
      subst k
      refine lv_iconst (v := 1) hx hb dX0_tells_45 (by decide) ?_
      refine lv_goto (tgt := 50) hx hb dX0_tells_46 (by decide) ?_
      exact r_iret X I rfl rfl rfl hn dX0_tells_50
  rcases s_ite hf with ⟨c4, hf⟩ | ⟨c4, hf⟩
  · refine lv_tableIn (tgt := 51) (off := 50) hx hb dX0_tells_1 (by rw [c4]; decide) (by rw [c4]; decide) (by rw [c4]; rfl) (by decide) ?_
    obtain ⟨x2, h5, hf⟩ := s_bind hf
    refine lv_aload_n hx hb dX0_tells_51 rfl (lv_at hl 0 rfl) ?_
    refine r_gl X I fl_X0_23 h5 dX0_tells_52 ?_
    refine lv_iload_n hx hb dX0_tells_55 rfl (lv_at hl 1 rfl) ?_
    refine lv_lushr hx hb dX0_tells_56 rfl ?_
    refine lv_lconst (v := 1) hx hb dX0_tells_57 (by decide) ?_
    refine lv_land hx hb dX0_tells_58 ?_
    refine lv_lconst (v := 0) hx hb dX0_tells_59 (by decide) ?_
    refine W.lcmp hx hb dX0_tells_60 ?_
    rcases s_ite hf with ⟨c6, hf⟩ | ⟨c6, hf⟩
    · refine lv_if_eq (tgt := 68) hx hb dX0_tells_61 (by decide) (fun _ => ?_) (fun n => absurd c6 n)
      cases hf
      have k : _ = r := k
      subst k
      refine lv_iconst (v := 0) hx hb dX0_tells_68 (by decide) ?_
      exact r_iret X I rfl rfl rfl hn dX0_tells_69
    · refine lv_if_eq (tgt := 68) hx hb dX0_tells_61 (by decide) (fun n => absurd n c6) (fun _ => ?_)
      cases hf
      have k : _ = r := k
      subst k
      refine lv_iconst (v := 1) hx hb dX0_tells_64 (by decide) ?_
      refine lv_goto (tgt := 69) hx hb dX0_tells_65 (by decide) ?_
      exact r_iret X I rfl rfl rfl hn dX0_tells_69
  rcases s_ite hf with ⟨c7, hf⟩ | ⟨c7, hf⟩
  · refine lv_tableIn (tgt := 70) (off := 69) hx hb dX0_tells_1 (by rw [c7]; decide) (by rw [c7]; decide) (by rw [c7]; rfl) (by decide) ?_
    obtain ⟨x3, h8, hf⟩ := s_bind hf
    refine lv_aload_n hx hb dX0_tells_70 rfl (lv_at hl 0 rfl) ?_
    refine r_gl X I fl_X0_26 h8 dX0_tells_71 ?_
    refine lv_iload_n hx hb dX0_tells_74 rfl (lv_at hl 1 rfl) ?_
    refine lv_lushr hx hb dX0_tells_75 rfl ?_
    refine lv_lconst (v := 1) hx hb dX0_tells_76 (by decide) ?_
    refine lv_land hx hb dX0_tells_77 ?_
    refine lv_lconst (v := 0) hx hb dX0_tells_78 (by decide) ?_
    refine W.lcmp hx hb dX0_tells_79 ?_
    rcases s_ite hf with ⟨c9, hf⟩ | ⟨c9, hf⟩
    · refine lv_if_eq (tgt := 87) hx hb dX0_tells_80 (by decide) (fun _ => ?_) (fun n => absurd c9 n)
      cases hf
      have k : _ = r := k
      subst k
      refine lv_iconst (v := 0) hx hb dX0_tells_87 (by decide) ?_
      exact r_iret X I rfl rfl rfl hn dX0_tells_88
    · refine lv_if_eq (tgt := 87) hx hb dX0_tells_80 (by decide) (fun n => absurd n c9) (fun _ => ?_)
      cases hf
      have k : _ = r := k
      subst k
      refine lv_iconst (v := 1) hx hb dX0_tells_83 (by decide) ?_
      refine lv_goto (tgt := 88) hx hb dX0_tells_84 (by decide) ?_
      exact r_iret X I rfl rfl rfl hn dX0_tells_88
  rcases s_ite hf with ⟨c10, hf⟩ | ⟨c10, hf⟩
  · refine lv_tableIn (tgt := 89) (off := 88) hx hb dX0_tells_1 (by rw [c10]; decide) (by rw [c10]; decide) (by rw [c10]; rfl) (by decide) ?_
    obtain ⟨x4, h11, hf⟩ := s_bind hf
    refine lv_aload_n hx hb dX0_tells_89 rfl (lv_at hl 0 rfl) ?_
    refine r_gl X I fl_X0_33 h11 dX0_tells_90 ?_
    refine lv_iload_n hx hb dX0_tells_93 rfl (lv_at hl 1 rfl) ?_
    refine lv_lushr hx hb dX0_tells_94 rfl ?_
    refine lv_lconst (v := 1) hx hb dX0_tells_95 (by decide) ?_
    refine lv_land hx hb dX0_tells_96 ?_
    refine lv_lconst (v := 0) hx hb dX0_tells_97 (by decide) ?_
    refine W.lcmp hx hb dX0_tells_98 ?_
    rcases s_ite hf with ⟨c12, hf⟩ | ⟨c12, hf⟩
    · refine lv_if_eq (tgt := 106) hx hb dX0_tells_99 (by decide) (fun _ => ?_) (fun n => absurd c12 n)
      cases hf
      have k : _ = r := k
      subst k
      refine lv_iconst (v := 0) hx hb dX0_tells_106 (by decide) ?_
      exact r_iret X I rfl rfl rfl hn dX0_tells_107
    · refine lv_if_eq (tgt := 106) hx hb dX0_tells_99 (by decide) (fun n => absurd n c12) (fun _ => ?_)
      cases hf
      have k : _ = r := k
      subst k
      refine lv_iconst (v := 1) hx hb dX0_tells_102 (by decide) ?_
      refine lv_goto (tgt := 107) hx hb dX0_tells_103 (by decide) ?_
      exact r_iret X I rfl rfl rfl hn dX0_tells_107
  refine lv_tableOut (tgt := 108) hx hb dX0_tells_1 (by
      have tc1 := lv_neT (a := 0) c1 (by decide)
      have tc4 := lv_neT (a := 1) c4 (by decide)
      have tc7 := lv_neT (a := 2) c7 (by decide)
      have tc10 := lv_neT (a := 3) c10 (by decide)
      omega) (by decide) ?_
  obtain ⟨x5, h13, hf⟩ := s_bind hf
  refine lv_aload_n hx hb dX0_tells_108 rfl (lv_at hl 0 rfl) ?_
  refine r_gl X I fl_X0_33 h13 dX0_tells_109 ?_
  refine lv_iload_n hx hb dX0_tells_112 rfl (lv_at hl 1 rfl) ?_
  refine lv_lushr hx hb dX0_tells_113 rfl ?_
  refine lv_lconst (v := 1) hx hb dX0_tells_114 (by decide) ?_
  refine lv_land hx hb dX0_tells_115 ?_
  refine lv_lconst (v := 0) hx hb dX0_tells_116 (by decide) ?_
  refine W.lcmp hx hb dX0_tells_117 ?_
  rcases s_ite hf with ⟨c14, hf⟩ | ⟨c14, hf⟩
  · refine lv_if_eq (tgt := 133) hx hb dX0_tells_118 (by decide) (fun _ => ?_) (fun n => absurd c14 n)
    cases hf
    have k : _ = r := k
    subst k
    refine lv_iconst (v := 0) hx hb dX0_tells_133 (by decide) ?_
    exact r_iret X I rfl rfl rfl hn dX0_tells_134
  · refine lv_if_eq (tgt := 133) hx hb dX0_tells_118 (by decide) (fun n => absurd n c14) (fun _ => ?_)
    obtain ⟨q6, h15, hf⟩ := s_bind hf
    have le16 : s_le q6.2 (e_I r).2 := by
      refine s_lek hem_I ?_ k
      rcases s_ite hf with ⟨-, hf⟩ | ⟨-, hf⟩
      · cases hf
        exact s_le.rf
      · cases hf
        exact s_le.rf
    refine lv_aload_n hx hb dX0_tells_121 rfl (lv_at hl 0 rfl) ?_
    refine lv_iload_n hx hb dX0_tells_122 rfl (lv_at hl 1 rfl) ?_
    refine r_callV (Y := M_X0_isSaved) (v := some (.int q6.1)) X I w_1195 my_X0_isSaved (by omega) (t_X0_isSaved (G := G) (d := d + 0) h15) (b_X0_isSaved h15) rfl rfl hl.1 rfl (Nat.le_of_ble_eq_true rfl) hn le16 dX0_tells_123 (fun H locs cells slots I hn1 hn2 => ?_)
    have I : s_I G q6.2 s H locs := I
    have hn : cells + σ0.2.1 ≤ q6.2.2.1 ∧ slots + σ0.2.2.1 ≤ q6.2.2.2.1 := ⟨hn1, hn2⟩
    rcases s_ite hf with ⟨c17, hf⟩ | ⟨c17, hf⟩
    · refine lv_if_eq (tgt := 133) hx hb dX0_tells_126 (by decide) (fun _ => ?_) (fun n => absurd c17 n)
      cases hf
      have k : _ = r := k
      subst k
      refine lv_iconst (v := 0) hx hb dX0_tells_133 (by decide) ?_
      exact r_iret X I rfl rfl rfl hn dX0_tells_134
    · refine lv_if_eq (tgt := 133) hx hb dX0_tells_126 (by decide) (fun n => absurd n c17) (fun _ => ?_)
      cases hf
      have k : _ = r := k
      subst k
      refine lv_iconst (v := 1) hx hb dX0_tells_129 (by decide) ?_
      refine lv_goto (tgt := 134) hx hb dX0_tells_130 (by decide) ?_
      exact r_iret X I rfl rfl rfl hn dX0_tells_134
theorem v_X0_tells {G : sG} {d : Nat} {vs0 : List Value} {σ0 : sS} {x : sL} {z : sZ Int32} {r : Int32 × sS} (hs : S_X0_tells x = some z) (k : s_K G (d + 4) M_X0_tells vs0 σ0 Y_X0_tells e_I z r) : s_V G (d + 4) M_X0_tells vs0 σ0 Y_X0_tells x (e_I r) := by
  obtain ⟨pc, vs, σ⟩ := x
  unfold S_X0_tells at hs
  dsimp only at hs
  rcases s_ite hs with ⟨c, hs⟩ | ⟨-, hs⟩
  · subst c
    unfold U_X0_tells_0 at hs
    obtain ⟨a0, g0, hs⟩ := s_bind hs
    obtain ⟨a1, g1, hs⟩ := s_bind hs
    obtain ⟨a2, g2, hs⟩ := s_bind hs
    obtain ⟨u9, ge, hs⟩ := s_bind hs
    rw [g_r_to g0, g_i_to g1, g_i_to g2, g_e_to ge]
    exact v_X0_tells_0 hs k
  cases hs
theorem t_X0_tells {G : sG} {d : Nat} {v0 : Nat} {v1 : Int32} {v2 : Int32} {σ : sS} {q : Int32 × sS} (h : F_X0_tells v0 v1 v2 σ = some q) : s_T G (d + 4) M_X0_tells [.ref v0, .int v1, .int v2] σ (e_I q) := by
  unfold F_X0_tells at h
  obtain ⟨-, -, h⟩ := s_bind h
  exact s_ofV rfl (by decide) (Nat.le_of_ble_eq_true rfl) rfl rfl (s_run_ind (V := fun x r => s_V G (d + 4) M_X0_tells [.ref v0, .int v1, .int v2] σ Y_X0_tells x (e_I r)) (fun x z r hs hk => v_X0_tells hs (by cases z <;> exact hk)) h)
/-! X6_isBefore -/
noncomputable def T_X6_isBefore_0 (v0 : Nat) (v1 : Int32) (v2 : Int32) (σ : sS) : Option (sZ Int32) :=
  (s_fr σ v0 6 0).bind fun x1 =>
  (F_X1_ofReceipt x1 v1 3 σ).bind fun q2 =>
  (s_fr q2.2 v0 6 0).bind fun x3 =>
  (F_X1_ofReceipt x3 v2 3 q2.2).bind fun q4 =>
  if (q2.1 - q4.1) < 0 then (some (.inr (1, q4.2)))
  else (if (q2.1 - q4.1) = 0 then (if v2 ≤ v1 then (some (.inr (0, q4.2)))
  else (some (.inr (1, q4.2))))
  else (some (.inr (0, q4.2))))
noncomputable def U_X6_isBefore_0 (vs : List Value) (σ : sS) : Option (sZ Int32) := (g_r vs).bind fun a0 => (g_i a0.2).bind fun a1 => (g_i a1.2).bind fun a2 => (g_e a2.2).bind fun _ => T_X6_isBefore_0 a0.1 a1.1 a2.1 σ
noncomputable def S_X6_isBefore (x : sL) : Option (sZ Int32) := if x.1 = 0 then U_X6_isBefore_0 x.2.1 x.2.2 else none
def Y_X6_isBefore (pc : Nat) : List Nat := if pc = 0 then [0, 1, 2] else []
noncomputable def F_X6_isBefore (v0 : Nat) (v1 : Int32) (v2 : Int32) (σ : sS) : Option (Int32 × sS) := (s_is σ v0 6).bind fun _ => s_run S_X6_isBefore (0, [.ref v0, .int v1, .int v2], σ)
theorem l_X6_isBefore_0 {v0 : Nat} {v1 : Int32} {v2 : Int32} {σ : sS} {z : sZ Int32} (hf : T_X6_isBefore_0 v0 v1 v2 σ = some z) : s_lz σ z := by
  unfold T_X6_isBefore_0 at hf
  obtain ⟨x1, -, hf⟩ := s_bind hf
  obtain ⟨q2, hh, hf⟩ := s_bind hf
  refine s_lz.tr (l_X1_ofReceipt hh) ?_
  obtain ⟨x3, -, hf⟩ := s_bind hf
  obtain ⟨q4, hh, hf⟩ := s_bind hf
  refine s_lz.tr (l_X1_ofReceipt hh) ?_
  rcases s_ite hf with ⟨-, hf⟩ | ⟨-, hf⟩
  · cases hf
    exact s_le.rf
  · rcases s_ite hf with ⟨-, hf⟩ | ⟨-, hf⟩
    · rcases s_ite hf with ⟨-, hf⟩ | ⟨-, hf⟩
      · cases hf
        exact s_le.rf
      · cases hf
        exact s_le.rf
    · cases hf
      exact s_le.rf
theorem l_X6_isBefore_s {x : sL} {z : sZ Int32} (hs : S_X6_isBefore x = some z) : s_lz x.2.2 z := by
  obtain ⟨pc, vs, σ⟩ := x
  unfold S_X6_isBefore at hs
  dsimp only at hs ⊢
  rcases s_ite hs with ⟨c, hs⟩ | ⟨-, hs⟩
  · subst c
    unfold U_X6_isBefore_0 at hs
    obtain ⟨a0, g0, hs⟩ := s_bind hs
    obtain ⟨a1, g1, hs⟩ := s_bind hs
    obtain ⟨a2, g2, hs⟩ := s_bind hs
    obtain ⟨u9, ge, hs⟩ := s_bind hs
    exact l_X6_isBefore_0 hs
  cases hs
theorem l_X6_isBefore {v0 : Nat} {v1 : Int32} {v2 : Int32} {σ : sS} {q : Int32 × sS} (h : F_X6_isBefore v0 v1 v2 σ = some q) : s_le σ q.2 := by
  unfold F_X6_isBefore at h
  obtain ⟨-, -, h⟩ := s_bind h
  exact s_run_ind (V := fun x r => s_le x.2.2 r.2) (fun x z r hs hk => by
    have h9 := l_X6_isBefore_s hs
    cases z with
    | inl y => exact s_le.tr h9 hk
    | inr q => cases hk; exact h9) h
theorem b_X6_isBefore {v0 : Nat} {v1 : Int32} {v2 : Int32} {σ : sS} {q : Int32 × sS} (h : F_X6_isBefore v0 v1 v2 σ = some q) : ∃ fs, σ.1 v0 = some (.inr (6, fs)) := by
  unfold F_X6_isBefore at h
  obtain ⟨u, hu, -⟩ := s_bind h
  exact s_is_to hu
set_option maxRecDepth 100000 in
set_option maxHeartbeats 4000000 in
theorem v_X6_isBefore_0 {G : sG} {d : Nat} {vs0 : List Value} {σ0 : sS} {v0 : Nat} {v1 : Int32} {v2 : Int32} {σ : sS} {z : sZ Int32} {r : Int32 × sS} (hf : T_X6_isBefore_0 v0 v1 v2 σ = some z) (k : s_K G (d + 2) M_X6_isBefore vs0 σ0 Y_X6_isBefore e_I z r) : s_V G (d + 2) M_X6_isBefore vs0 σ0 Y_X6_isBefore (0, [.ref v0, .int v1, .int v2], σ) (e_I r) := by
  have le0 : s_le σ (e_I r).2 := s_lek hem_I (l_X6_isBefore_0 hf) k
  refine ⟨le0, ?_⟩
  intro p e s m below meth c H locs cells slots ls X I hn1 hn2 hl
  have hn : cells + σ0.2.1 ≤ σ.2.1 ∧ slots + σ0.2.2.1 ≤ σ.2.2.1 := ⟨hn1, hn2⟩
  have hl : lv_has ls 4 [(0, .ref v0), (1, .int v1), (2, .int v2)] := hl
  have hx := X.1
  have hb : c.code = cX6_isBefore := X.2.1
  have hown : s.vm.findClass RX6 = some m.cls := X.2.2.2.2.2.1
  have hts := X.2.2.2.2.2.2.1
  refine W.eq (g2 := F0 m 0 ls []) rfl ?_
  unfold T_X6_isBefore_0 at hf
  obtain ⟨x1, h1, hf⟩ := s_bind hf
  obtain ⟨q2, h2, hf⟩ := s_bind hf
  obtain ⟨x3, h3, hf⟩ := s_bind hf
  obtain ⟨q4, h4, hf⟩ := s_bind hf
  have le5 : s_le q4.2 (e_I r).2 := by
    refine s_lek hem_I ?_ k
    rcases s_ite hf with ⟨-, hf⟩ | ⟨-, hf⟩
    · cases hf
      exact s_le.rf
    · rcases s_ite hf with ⟨-, hf⟩ | ⟨-, hf⟩
      · rcases s_ite hf with ⟨-, hf⟩ | ⟨-, hf⟩
        · cases hf
          exact s_le.rf
        · cases hf
          exact s_le.rf
      · cases hf
        exact s_le.rf
  have le6 := s_le.tr (l_X1_ofReceipt h4) le5
  refine lv_aload_n hx hb dX6_isBefore_0 rfl (lv_at hl 0 rfl) ?_
  refine r_gr X I fl_X6_9 h1 dX6_isBefore_1 ?_
  refine lv_iload_n hx hb dX6_isBefore_4 rfl (lv_at hl 1 rfl) ?_
  refine lv_iconst (v := 3) hx hb dX6_isBefore_5 (by decide) ?_
  refine r_callV (Y := M_X1_ofReceipt) (v := some (.int q2.1)) X I w_620 my_X1_ofReceipt (by omega) (t_X1_ofReceipt (G := G) (d := d + 0) h2) (b_X1_ofReceipt h2) rfl rfl hl.1 rfl (Nat.le_of_ble_eq_true rfl) hn le6 dX6_isBefore_6 (fun H locs cells slots I hn1 hn2 => ?_)
  have I : s_I G q2.2 s H locs := I
  have hn : cells + σ0.2.1 ≤ q2.2.2.1 ∧ slots + σ0.2.2.1 ≤ q2.2.2.2.1 := ⟨hn1, hn2⟩
  refine lv_aload_n hx hb dX6_isBefore_9 rfl (lv_at hl 0 rfl) ?_
  refine r_gr X I fl_X6_9 h3 dX6_isBefore_10 ?_
  refine lv_iload_n hx hb dX6_isBefore_13 rfl (lv_at hl 2 rfl) ?_
  refine lv_iconst (v := 3) hx hb dX6_isBefore_14 (by decide) ?_
  refine r_callV (Y := M_X1_ofReceipt) (v := some (.int q4.1)) X I w_620 my_X1_ofReceipt (by omega) (t_X1_ofReceipt (G := G) (d := d + 0) h4) (b_X1_ofReceipt h4) rfl rfl hl.1 rfl (Nat.le_of_ble_eq_true rfl) hn le5 dX6_isBefore_15 (fun H locs cells slots I hn1 hn2 => ?_)
  have I : s_I G q4.2 s H locs := I
  have hn : cells + σ0.2.1 ≤ q4.2.2.1 ∧ slots + σ0.2.2.1 ≤ q4.2.2.2.1 := ⟨hn1, hn2⟩
  refine lv_isub hx hb dX6_isBefore_18 ?_
  refine lv_istore_n (lv' := [(3, .int (q2.1 - q4.1)), (0, .ref v0), (1, .int v1), (2, .int v2)]) hx hb dX6_isBefore_19 rfl hl (by decide) rfl (fun ls hl => ?_)
  refine lv_iload_n hx hb dX6_isBefore_20 rfl (lv_at hl 0 rfl) ?_
  rcases s_ite hf with ⟨c7, hf⟩ | ⟨c7, hf⟩
  · refine lv_if_lt (tgt := 33) hx hb dX6_isBefore_21 (by decide) (fun _ => ?_) (fun n => absurd c7 n)
    cases hf
    have k : _ = r := k
    subst k
    refine lv_iconst (v := 1) hx hb dX6_isBefore_33 (by decide) ?_
    refine lv_goto (tgt := 38) hx hb dX6_isBefore_34 (by decide) ?_
    exact r_iret X I rfl rfl rfl hn dX6_isBefore_38
  · refine lv_if_lt (tgt := 33) hx hb dX6_isBefore_21 (by decide) (fun n => absurd n c7) (fun _ => ?_)
    refine lv_iload_n hx hb dX6_isBefore_24 rfl (lv_at hl 0 rfl) ?_
    rcases s_ite hf with ⟨c8, hf⟩ | ⟨c8, hf⟩
    · refine lv_if_ne (tgt := 37) hx hb dX6_isBefore_25 (by decide) (fun n => absurd c8 n) (fun _ => ?_)
      refine lv_iload_n hx hb dX6_isBefore_28 rfl (lv_at hl 2 rfl) ?_
      refine lv_iload_n hx hb dX6_isBefore_29 rfl (lv_at hl 3 rfl) ?_
      rcases s_ite hf with ⟨c9, hf⟩ | ⟨c9, hf⟩
      · refine lv_icmp_ge (tgt := 37) hx hb dX6_isBefore_30 (by decide) (fun _ => ?_) (fun n => absurd c9 n)
        cases hf
        have k : _ = r := k
        subst k
        refine lv_iconst (v := 0) hx hb dX6_isBefore_37 (by decide) ?_
        exact r_iret X I rfl rfl rfl hn dX6_isBefore_38
      · refine lv_icmp_ge (tgt := 37) hx hb dX6_isBefore_30 (by decide) (fun n => absurd n c9) (fun _ => ?_)
        cases hf
        have k : _ = r := k
        subst k
        refine lv_iconst (v := 1) hx hb dX6_isBefore_33 (by decide) ?_
        refine lv_goto (tgt := 38) hx hb dX6_isBefore_34 (by decide) ?_
        exact r_iret X I rfl rfl rfl hn dX6_isBefore_38
    · refine lv_if_ne (tgt := 37) hx hb dX6_isBefore_25 (by decide) (fun _ => ?_) (fun n => absurd n c8)
      cases hf
      have k : _ = r := k
      subst k
      refine lv_iconst (v := 0) hx hb dX6_isBefore_37 (by decide) ?_
      exact r_iret X I rfl rfl rfl hn dX6_isBefore_38
theorem v_X6_isBefore {G : sG} {d : Nat} {vs0 : List Value} {σ0 : sS} {x : sL} {z : sZ Int32} {r : Int32 × sS} (hs : S_X6_isBefore x = some z) (k : s_K G (d + 2) M_X6_isBefore vs0 σ0 Y_X6_isBefore e_I z r) : s_V G (d + 2) M_X6_isBefore vs0 σ0 Y_X6_isBefore x (e_I r) := by
  obtain ⟨pc, vs, σ⟩ := x
  unfold S_X6_isBefore at hs
  dsimp only at hs
  rcases s_ite hs with ⟨c, hs⟩ | ⟨-, hs⟩
  · subst c
    unfold U_X6_isBefore_0 at hs
    obtain ⟨a0, g0, hs⟩ := s_bind hs
    obtain ⟨a1, g1, hs⟩ := s_bind hs
    obtain ⟨a2, g2, hs⟩ := s_bind hs
    obtain ⟨u9, ge, hs⟩ := s_bind hs
    rw [g_r_to g0, g_i_to g1, g_i_to g2, g_e_to ge]
    exact v_X6_isBefore_0 hs k
  cases hs
theorem t_X6_isBefore {G : sG} {d : Nat} {v0 : Nat} {v1 : Int32} {v2 : Int32} {σ : sS} {q : Int32 × sS} (h : F_X6_isBefore v0 v1 v2 σ = some q) : s_T G (d + 2) M_X6_isBefore [.ref v0, .int v1, .int v2] σ (e_I q) := by
  unfold F_X6_isBefore at h
  obtain ⟨-, -, h⟩ := s_bind h
  exact s_ofV rfl (by decide) (Nat.le_of_ble_eq_true rfl) rfl rfl (s_run_ind (V := fun x r => s_V G (d + 2) M_X6_isBefore [.ref v0, .int v1, .int v2] σ Y_X6_isBefore x (e_I r)) (fun x z r hs hk => v_X6_isBefore hs (by cases z <;> exact hk)) h)
/-! X6_wasSoldBefore -/
noncomputable def T_X6_wasSoldBefore_0 (v0 : Nat) (v1 : Int32) (σ : sS) : Option (sZ Int32) :=
  (s_fr σ v0 6 0).bind fun x1 =>
  (s_fr σ v0 6 0).bind fun x2 =>
  (F_X1_ofReceipt x2 v1 0 σ).bind fun q3 =>
  (F_X1_nodeOfLine x1 q3.1 q3.2).bind fun q4 =>
  (s_fr q4.2 v0 6 0).bind fun x5 =>
  (F_X1_ofReceipt x5 v1 1 q4.2).bind fun q6 =>
  some (.inl (30, [.ref v0, .int v1, .int q4.1, .int q6.1, .int 0], q6.2))
noncomputable def U_X6_wasSoldBefore_0 (vs : List Value) (σ : sS) : Option (sZ Int32) := (g_r vs).bind fun a0 => (g_i a0.2).bind fun a1 => (g_e a1.2).bind fun _ => T_X6_wasSoldBefore_0 a0.1 a1.1 σ
noncomputable def T_X6_wasSoldBefore_30 (v0 : Nat) (v1 : Int32) (v2 : Int32) (v3 : Int32) (v4 : Int32) (σ : sS) : Option (sZ Int32) :=
  (s_fr σ v0 6 0).bind fun x1 =>
  (s_fi σ x1 1 9).bind fun x2 =>
  if x2 ≤ v4 then (some (.inr (0, σ)))
  else ((s_fr σ v0 6 0).bind fun x3 =>
  (F_X1_isVoid x3 v4 σ).bind fun q4 =>
  if q4.1 = 0 then ((F_X6_isBefore v0 v4 v1 q4.2).bind fun q5 =>
  if q5.1 = 0 then (some (.inl (101, [.ref v0, .int v1, .int v2, .int v3, .int v4], q5.2)))
  else ((s_fr q5.2 v0 6 0).bind fun x6 =>
  (F_X1_ofReceipt x6 v4 1 q5.2).bind fun q7 =>
  if q7.1 = v3 then ((s_fr q7.2 v0 6 0).bind fun x8 =>
  (s_fr q7.2 v0 6 0).bind fun x9 =>
  (F_X1_ofReceipt x9 v4 0 q7.2).bind fun q10 =>
  (F_X1_nodeOfLine x8 q10.1 q10.2).bind fun q11 =>
  if q11.1 = v2 then (some (.inr (1, q11.2)))
  else (some (.inl (101, [.ref v0, .int v1, .int v2, .int v3, .int v4], q11.2))))
  else (some (.inl (101, [.ref v0, .int v1, .int v2, .int v3, .int v4], q7.2)))))
  else (some (.inl (101, [.ref v0, .int v1, .int v2, .int v3, .int v4], q4.2))))
noncomputable def U_X6_wasSoldBefore_30 (vs : List Value) (σ : sS) : Option (sZ Int32) := (g_r vs).bind fun a0 => (g_i a0.2).bind fun a1 => (g_i a1.2).bind fun a2 => (g_i a2.2).bind fun a3 => (g_i a3.2).bind fun a4 => (g_e a4.2).bind fun _ => T_X6_wasSoldBefore_30 a0.1 a1.1 a2.1 a3.1 a4.1 σ
noncomputable def T_X6_wasSoldBefore_101 (v0 : Nat) (v1 : Int32) (v2 : Int32) (v3 : Int32) (v4 : Int32) (σ : sS) : Option (sZ Int32) :=
  some (.inl (30, [.ref v0, .int v1, .int v2, .int v3, .int (v4 + 1)], σ))
noncomputable def U_X6_wasSoldBefore_101 (vs : List Value) (σ : sS) : Option (sZ Int32) := (g_r vs).bind fun a0 => (g_i a0.2).bind fun a1 => (g_i a1.2).bind fun a2 => (g_i a2.2).bind fun a3 => (g_i a3.2).bind fun a4 => (g_e a4.2).bind fun _ => T_X6_wasSoldBefore_101 a0.1 a1.1 a2.1 a3.1 a4.1 σ
noncomputable def S_X6_wasSoldBefore (x : sL) : Option (sZ Int32) := if x.1 = 0 then U_X6_wasSoldBefore_0 x.2.1 x.2.2 else if x.1 = 30 then U_X6_wasSoldBefore_30 x.2.1 x.2.2 else if x.1 = 101 then U_X6_wasSoldBefore_101 x.2.1 x.2.2 else none
def Y_X6_wasSoldBefore (pc : Nat) : List Nat := if pc = 0 then [0, 1] else if pc = 30 then [0, 1, 2, 3, 4] else if pc = 101 then [0, 1, 2, 3, 4] else []
noncomputable def F_X6_wasSoldBefore (v0 : Nat) (v1 : Int32) (σ : sS) : Option (Int32 × sS) := (s_is σ v0 6).bind fun _ => s_run S_X6_wasSoldBefore (0, [.ref v0, .int v1], σ)
theorem l_X6_wasSoldBefore_0 {v0 : Nat} {v1 : Int32} {σ : sS} {z : sZ Int32} (hf : T_X6_wasSoldBefore_0 v0 v1 σ = some z) : s_lz σ z := by
  unfold T_X6_wasSoldBefore_0 at hf
  obtain ⟨x1, -, hf⟩ := s_bind hf
  obtain ⟨x2, -, hf⟩ := s_bind hf
  obtain ⟨q3, hh, hf⟩ := s_bind hf
  refine s_lz.tr (l_X1_ofReceipt hh) ?_
  obtain ⟨q4, hh, hf⟩ := s_bind hf
  refine s_lz.tr (l_X1_nodeOfLine hh) ?_
  obtain ⟨x5, -, hf⟩ := s_bind hf
  obtain ⟨q6, hh, hf⟩ := s_bind hf
  refine s_lz.tr (l_X1_ofReceipt hh) ?_
  cases hf
  exact s_le.rf
theorem l_X6_wasSoldBefore_30 {v0 : Nat} {v1 : Int32} {v2 : Int32} {v3 : Int32} {v4 : Int32} {σ : sS} {z : sZ Int32} (hf : T_X6_wasSoldBefore_30 v0 v1 v2 v3 v4 σ = some z) : s_lz σ z := by
  unfold T_X6_wasSoldBefore_30 at hf
  obtain ⟨x1, -, hf⟩ := s_bind hf
  obtain ⟨x2, -, hf⟩ := s_bind hf
  rcases s_ite hf with ⟨-, hf⟩ | ⟨-, hf⟩
  · cases hf
    exact s_le.rf
  · obtain ⟨x3, -, hf⟩ := s_bind hf
    obtain ⟨q4, hh, hf⟩ := s_bind hf
    refine s_lz.tr (l_X1_isVoid hh) ?_
    rcases s_ite hf with ⟨-, hf⟩ | ⟨-, hf⟩
    · obtain ⟨q5, hh, hf⟩ := s_bind hf
      refine s_lz.tr (l_X6_isBefore hh) ?_
      rcases s_ite hf with ⟨-, hf⟩ | ⟨-, hf⟩
      · cases hf
        exact s_le.rf
      · obtain ⟨x6, -, hf⟩ := s_bind hf
        obtain ⟨q7, hh, hf⟩ := s_bind hf
        refine s_lz.tr (l_X1_ofReceipt hh) ?_
        rcases s_ite hf with ⟨-, hf⟩ | ⟨-, hf⟩
        · obtain ⟨x8, -, hf⟩ := s_bind hf
          obtain ⟨x9, -, hf⟩ := s_bind hf
          obtain ⟨q10, hh, hf⟩ := s_bind hf
          refine s_lz.tr (l_X1_ofReceipt hh) ?_
          obtain ⟨q11, hh, hf⟩ := s_bind hf
          refine s_lz.tr (l_X1_nodeOfLine hh) ?_
          rcases s_ite hf with ⟨-, hf⟩ | ⟨-, hf⟩
          · cases hf
            exact s_le.rf
          · cases hf
            exact s_le.rf
        · cases hf
          exact s_le.rf
    · cases hf
      exact s_le.rf
theorem l_X6_wasSoldBefore_101 {v0 : Nat} {v1 : Int32} {v2 : Int32} {v3 : Int32} {v4 : Int32} {σ : sS} {z : sZ Int32} (hf : T_X6_wasSoldBefore_101 v0 v1 v2 v3 v4 σ = some z) : s_lz σ z := by
  unfold T_X6_wasSoldBefore_101 at hf
  cases hf
  exact s_le.rf
theorem l_X6_wasSoldBefore_s {x : sL} {z : sZ Int32} (hs : S_X6_wasSoldBefore x = some z) : s_lz x.2.2 z := by
  obtain ⟨pc, vs, σ⟩ := x
  unfold S_X6_wasSoldBefore at hs
  dsimp only at hs ⊢
  rcases s_ite hs with ⟨c, hs⟩ | ⟨-, hs⟩
  · subst c
    unfold U_X6_wasSoldBefore_0 at hs
    obtain ⟨a0, g0, hs⟩ := s_bind hs
    obtain ⟨a1, g1, hs⟩ := s_bind hs
    obtain ⟨u9, ge, hs⟩ := s_bind hs
    exact l_X6_wasSoldBefore_0 hs
  rcases s_ite hs with ⟨c, hs⟩ | ⟨-, hs⟩
  · subst c
    unfold U_X6_wasSoldBefore_30 at hs
    obtain ⟨a0, g0, hs⟩ := s_bind hs
    obtain ⟨a1, g1, hs⟩ := s_bind hs
    obtain ⟨a2, g2, hs⟩ := s_bind hs
    obtain ⟨a3, g3, hs⟩ := s_bind hs
    obtain ⟨a4, g4, hs⟩ := s_bind hs
    obtain ⟨u9, ge, hs⟩ := s_bind hs
    exact l_X6_wasSoldBefore_30 hs
  rcases s_ite hs with ⟨c, hs⟩ | ⟨-, hs⟩
  · subst c
    unfold U_X6_wasSoldBefore_101 at hs
    obtain ⟨a0, g0, hs⟩ := s_bind hs
    obtain ⟨a1, g1, hs⟩ := s_bind hs
    obtain ⟨a2, g2, hs⟩ := s_bind hs
    obtain ⟨a3, g3, hs⟩ := s_bind hs
    obtain ⟨a4, g4, hs⟩ := s_bind hs
    obtain ⟨u9, ge, hs⟩ := s_bind hs
    exact l_X6_wasSoldBefore_101 hs
  cases hs
theorem l_X6_wasSoldBefore {v0 : Nat} {v1 : Int32} {σ : sS} {q : Int32 × sS} (h : F_X6_wasSoldBefore v0 v1 σ = some q) : s_le σ q.2 := by
  unfold F_X6_wasSoldBefore at h
  obtain ⟨-, -, h⟩ := s_bind h
  exact s_run_ind (V := fun x r => s_le x.2.2 r.2) (fun x z r hs hk => by
    have h9 := l_X6_wasSoldBefore_s hs
    cases z with
    | inl y => exact s_le.tr h9 hk
    | inr q => cases hk; exact h9) h
theorem b_X6_wasSoldBefore {v0 : Nat} {v1 : Int32} {σ : sS} {q : Int32 × sS} (h : F_X6_wasSoldBefore v0 v1 σ = some q) : ∃ fs, σ.1 v0 = some (.inr (6, fs)) := by
  unfold F_X6_wasSoldBefore at h
  obtain ⟨u, hu, -⟩ := s_bind h
  exact s_is_to hu
set_option maxRecDepth 100000 in
set_option maxHeartbeats 4000000 in
theorem v_X6_wasSoldBefore_0 {G : sG} {d : Nat} {vs0 : List Value} {σ0 : sS} {v0 : Nat} {v1 : Int32} {σ : sS} {z : sZ Int32} {r : Int32 × sS} (hf : T_X6_wasSoldBefore_0 v0 v1 σ = some z) (k : s_K G (d + 3) M_X6_wasSoldBefore vs0 σ0 Y_X6_wasSoldBefore e_I z r) : s_V G (d + 3) M_X6_wasSoldBefore vs0 σ0 Y_X6_wasSoldBefore (0, [.ref v0, .int v1], σ) (e_I r) := by
  have le0 : s_le σ (e_I r).2 := s_lek hem_I (l_X6_wasSoldBefore_0 hf) k
  refine ⟨le0, ?_⟩
  intro p e s m below meth c H locs cells slots ls X I hn1 hn2 hl
  have hn : cells + σ0.2.1 ≤ σ.2.1 ∧ slots + σ0.2.2.1 ≤ σ.2.2.1 := ⟨hn1, hn2⟩
  have hl : lv_has ls 5 [(0, .ref v0), (1, .int v1)] := hl
  have hx := X.1
  have hb : c.code = cX6_wasSoldBefore := X.2.1
  have hown : s.vm.findClass RX6 = some m.cls := X.2.2.2.2.2.1
  have hts := X.2.2.2.2.2.2.1
  refine W.eq (g2 := F0 m 0 ls []) rfl ?_
  unfold T_X6_wasSoldBefore_0 at hf
  obtain ⟨x1, h1, hf⟩ := s_bind hf
  obtain ⟨x2, h2, hf⟩ := s_bind hf
  obtain ⟨q3, h3, hf⟩ := s_bind hf
  obtain ⟨q4, h4, hf⟩ := s_bind hf
  obtain ⟨x5, h5, hf⟩ := s_bind hf
  obtain ⟨q6, h6, hf⟩ := s_bind hf
  cases hf
  have k : s_V G (d + 3) M_X6_wasSoldBefore vs0 σ0 Y_X6_wasSoldBefore (30, [.ref v0, .int v1, .int q4.1, .int q6.1, .int 0], q6.2) (e_I r) := k
  have le7 : s_le q6.2 (e_I r).2 := k.1
  have le8 := s_le.tr (l_X1_ofReceipt h6) le7
  have le9 := s_le.tr (l_X1_nodeOfLine h4) le8
  refine lv_aload_n hx hb dX6_wasSoldBefore_0 rfl (lv_at hl 0 rfl) ?_
  refine r_gr X I fl_X6_9 h1 dX6_wasSoldBefore_1 ?_
  refine lv_aload_n hx hb dX6_wasSoldBefore_4 rfl (lv_at hl 0 rfl) ?_
  refine r_gr X I fl_X6_9 h2 dX6_wasSoldBefore_5 ?_
  refine lv_iload_n hx hb dX6_wasSoldBefore_8 rfl (lv_at hl 1 rfl) ?_
  refine lv_iconst (v := 0) hx hb dX6_wasSoldBefore_9 (by decide) ?_
  refine r_callV (Y := M_X1_ofReceipt) (v := some (.int q3.1)) X I w_620 my_X1_ofReceipt (by omega) (t_X1_ofReceipt (G := G) (d := d + 1) h3) (b_X1_ofReceipt h3) rfl rfl hl.1 rfl (Nat.le_of_ble_eq_true rfl) hn le9 dX6_wasSoldBefore_10 (fun H locs cells slots I hn1 hn2 => ?_)
  have I : s_I G q3.2 s H locs := I
  have hn : cells + σ0.2.1 ≤ q3.2.2.1 ∧ slots + σ0.2.2.1 ≤ q3.2.2.2.1 := ⟨hn1, hn2⟩
  refine r_callV (Y := M_X1_nodeOfLine) (v := some (.int q4.1)) X I w_1609 my_X1_nodeOfLine (by omega) (t_X1_nodeOfLine (G := G) (d := d + 0) h4) (b_X1_nodeOfLine h4) rfl rfl hl.1 rfl (Nat.le_of_ble_eq_true rfl) hn le8 dX6_wasSoldBefore_13 (fun H locs cells slots I hn1 hn2 => ?_)
  have I : s_I G q4.2 s H locs := I
  have hn : cells + σ0.2.1 ≤ q4.2.2.1 ∧ slots + σ0.2.2.1 ≤ q4.2.2.2.1 := ⟨hn1, hn2⟩
  refine lv_istore_n (lv' := [(2, .int q4.1), (0, .ref v0), (1, .int v1)]) hx hb dX6_wasSoldBefore_16 rfl hl (by decide) rfl (fun ls hl => ?_)
  refine lv_aload_n hx hb dX6_wasSoldBefore_17 rfl (lv_at hl 1 rfl) ?_
  refine r_gr X I fl_X6_9 h5 dX6_wasSoldBefore_18 ?_
  refine lv_iload_n hx hb dX6_wasSoldBefore_21 rfl (lv_at hl 2 rfl) ?_
  refine lv_iconst (v := 1) hx hb dX6_wasSoldBefore_22 (by decide) ?_
  refine r_callV (Y := M_X1_ofReceipt) (v := some (.int q6.1)) X I w_620 my_X1_ofReceipt (by omega) (t_X1_ofReceipt (G := G) (d := d + 1) h6) (b_X1_ofReceipt h6) rfl rfl hl.1 rfl (Nat.le_of_ble_eq_true rfl) hn le7 dX6_wasSoldBefore_23 (fun H locs cells slots I hn1 hn2 => ?_)
  have I : s_I G q6.2 s H locs := I
  have hn : cells + σ0.2.1 ≤ q6.2.2.1 ∧ slots + σ0.2.2.1 ≤ q6.2.2.2.1 := ⟨hn1, hn2⟩
  refine lv_istore_n (lv' := [(3, .int q6.1), (2, .int q4.1), (0, .ref v0), (1, .int v1)]) hx hb dX6_wasSoldBefore_26 rfl hl (by decide) rfl (fun ls hl => ?_)
  refine lv_iconst (v := 0) hx hb dX6_wasSoldBefore_27 (by decide) ?_
  refine lv_istore (lv' := [(4, .int 0), (3, .int q6.1), (2, .int q4.1), (0, .ref v0), (1, .int v1)]) hx hb dX6_wasSoldBefore_28 hl (by decide) rfl (fun ls hl => ?_)
  exact k.2 p e s m below meth c _ _ _ _ _ X I hn.1 hn.2 (lv_sub hl [3, 4, 2, 1, 0] rfl)
set_option maxRecDepth 100000 in
set_option maxHeartbeats 4000000 in
theorem v_X6_wasSoldBefore_30 {G : sG} {d : Nat} {vs0 : List Value} {σ0 : sS} {v0 : Nat} {v1 : Int32} {v2 : Int32} {v3 : Int32} {v4 : Int32} {σ : sS} {z : sZ Int32} {r : Int32 × sS} (hf : T_X6_wasSoldBefore_30 v0 v1 v2 v3 v4 σ = some z) (k : s_K G (d + 3) M_X6_wasSoldBefore vs0 σ0 Y_X6_wasSoldBefore e_I z r) : s_V G (d + 3) M_X6_wasSoldBefore vs0 σ0 Y_X6_wasSoldBefore (30, [.ref v0, .int v1, .int v2, .int v3, .int v4], σ) (e_I r) := by
  have le0 : s_le σ (e_I r).2 := s_lek hem_I (l_X6_wasSoldBefore_30 hf) k
  refine ⟨le0, ?_⟩
  intro p e s m below meth c H locs cells slots ls X I hn1 hn2 hl
  have hn : cells + σ0.2.1 ≤ σ.2.1 ∧ slots + σ0.2.2.1 ≤ σ.2.2.1 := ⟨hn1, hn2⟩
  have hl : lv_has ls 5 [(0, .ref v0), (1, .int v1), (2, .int v2), (3, .int v3), (4, .int v4)] := hl
  have hx := X.1
  have hb : c.code = cX6_wasSoldBefore := X.2.1
  have hown : s.vm.findClass RX6 = some m.cls := X.2.2.2.2.2.1
  have hts := X.2.2.2.2.2.2.1
  refine W.eq (g2 := F0 m 30 ls []) rfl ?_
  unfold T_X6_wasSoldBefore_30 at hf
  obtain ⟨x1, h1, hf⟩ := s_bind hf
  obtain ⟨x2, h2, hf⟩ := s_bind hf
  refine lv_iload hx hb dX6_wasSoldBefore_30 (lv_at hl 4 rfl) ?_
  refine lv_aload_n hx hb dX6_wasSoldBefore_32 rfl (lv_at hl 0 rfl) ?_
  refine r_gr X I fl_X6_9 h1 dX6_wasSoldBefore_33 ?_
  refine r_gi X I fl_X6_19 h2 dX6_wasSoldBefore_36 ?_
  rcases s_ite hf with ⟨c3, hf⟩ | ⟨c3, hf⟩
  · refine lv_icmp_ge (tgt := 107) hx hb dX6_wasSoldBefore_39 (by decide) (fun _ => ?_) (fun n => absurd c3 n)
    cases hf
    have k : _ = r := k
    subst k
    refine lv_iconst (v := 0) hx hb dX6_wasSoldBefore_107 (by decide) ?_
    exact r_iret X I rfl rfl rfl hn dX6_wasSoldBefore_108
  · refine lv_icmp_ge (tgt := 107) hx hb dX6_wasSoldBefore_39 (by decide) (fun n => absurd n c3) (fun _ => ?_)
    obtain ⟨x3, h4, hf⟩ := s_bind hf
    obtain ⟨q4, h5, hf⟩ := s_bind hf
    have le6 : s_le q4.2 (e_I r).2 := by
      refine s_lek hem_I ?_ k
      rcases s_ite hf with ⟨-, hf⟩ | ⟨-, hf⟩
      · obtain ⟨q5, hh, hf⟩ := s_bind hf
        refine s_lz.tr (l_X6_isBefore hh) ?_
        rcases s_ite hf with ⟨-, hf⟩ | ⟨-, hf⟩
        · cases hf
          exact s_le.rf
        · obtain ⟨x6, -, hf⟩ := s_bind hf
          obtain ⟨q7, hh, hf⟩ := s_bind hf
          refine s_lz.tr (l_X1_ofReceipt hh) ?_
          rcases s_ite hf with ⟨-, hf⟩ | ⟨-, hf⟩
          · obtain ⟨x8, -, hf⟩ := s_bind hf
            obtain ⟨x9, -, hf⟩ := s_bind hf
            obtain ⟨q10, hh, hf⟩ := s_bind hf
            refine s_lz.tr (l_X1_ofReceipt hh) ?_
            obtain ⟨q11, hh, hf⟩ := s_bind hf
            refine s_lz.tr (l_X1_nodeOfLine hh) ?_
            rcases s_ite hf with ⟨-, hf⟩ | ⟨-, hf⟩
            · cases hf
              exact s_le.rf
            · cases hf
              exact s_le.rf
          · cases hf
            exact s_le.rf
      · cases hf
        exact s_le.rf
    refine lv_aload_n hx hb dX6_wasSoldBefore_42 rfl (lv_at hl 0 rfl) ?_
    refine r_gr X I fl_X6_9 h4 dX6_wasSoldBefore_43 ?_
    refine lv_iload hx hb dX6_wasSoldBefore_46 (lv_at hl 4 rfl) ?_
    refine r_callV (Y := M_X1_isVoid) (v := some (.int q4.1)) X I w_684 my_X1_isVoid (by omega) (t_X1_isVoid (G := G) (d := d + 1) h5) (b_X1_isVoid h5) rfl rfl hl.1 rfl (Nat.le_of_ble_eq_true rfl) hn le6 dX6_wasSoldBefore_48 (fun H locs cells slots I hn1 hn2 => ?_)
    have I : s_I G q4.2 s H locs := I
    have hn : cells + σ0.2.1 ≤ q4.2.2.1 ∧ slots + σ0.2.2.1 ≤ q4.2.2.2.1 := ⟨hn1, hn2⟩
    rcases s_ite hf with ⟨c7, hf⟩ | ⟨c7, hf⟩
    · refine lv_if_ne (tgt := 101) hx hb dX6_wasSoldBefore_51 (by decide) (fun n => absurd c7 n) (fun _ => ?_)
      obtain ⟨q5, h8, hf⟩ := s_bind hf
      have le9 : s_le q5.2 (e_I r).2 := by
        refine s_lek hem_I ?_ k
        rcases s_ite hf with ⟨-, hf⟩ | ⟨-, hf⟩
        · cases hf
          exact s_le.rf
        · obtain ⟨x6, -, hf⟩ := s_bind hf
          obtain ⟨q7, hh, hf⟩ := s_bind hf
          refine s_lz.tr (l_X1_ofReceipt hh) ?_
          rcases s_ite hf with ⟨-, hf⟩ | ⟨-, hf⟩
          · obtain ⟨x8, -, hf⟩ := s_bind hf
            obtain ⟨x9, -, hf⟩ := s_bind hf
            obtain ⟨q10, hh, hf⟩ := s_bind hf
            refine s_lz.tr (l_X1_ofReceipt hh) ?_
            obtain ⟨q11, hh, hf⟩ := s_bind hf
            refine s_lz.tr (l_X1_nodeOfLine hh) ?_
            rcases s_ite hf with ⟨-, hf⟩ | ⟨-, hf⟩
            · cases hf
              exact s_le.rf
            · cases hf
              exact s_le.rf
          · cases hf
            exact s_le.rf
      refine lv_aload_n hx hb dX6_wasSoldBefore_54 rfl (lv_at hl 0 rfl) ?_
      refine lv_iload hx hb dX6_wasSoldBefore_55 (lv_at hl 4 rfl) ?_
      refine lv_iload_n hx hb dX6_wasSoldBefore_57 rfl (lv_at hl 1 rfl) ?_
      refine r_callV (Y := M_X6_isBefore) (v := some (.int q5.1)) X I w_1610 my_X6_isBefore (by omega) (t_X6_isBefore (G := G) (d := d + 0) h8) (b_X6_isBefore h8) rfl rfl hl.1 rfl (Nat.le_of_ble_eq_true rfl) hn le9 dX6_wasSoldBefore_58 (fun H locs cells slots I hn1 hn2 => ?_)
      have I : s_I G q5.2 s H locs := I
      have hn : cells + σ0.2.1 ≤ q5.2.2.1 ∧ slots + σ0.2.2.1 ≤ q5.2.2.2.1 := ⟨hn1, hn2⟩
      rcases s_ite hf with ⟨c10, hf⟩ | ⟨c10, hf⟩
      · refine lv_if_eq (tgt := 101) hx hb dX6_wasSoldBefore_61 (by decide) (fun _ => ?_) (fun n => absurd c10 n)
        cases hf
        have k : s_V G (d + 3) M_X6_wasSoldBefore vs0 σ0 Y_X6_wasSoldBefore (101, [.ref v0, .int v1, .int v2, .int v3, .int v4], q5.2) (e_I r) := k
        exact k.2 p e s m below meth c _ _ _ _ _ X I hn.1 hn.2 (lv_sub hl [0, 1, 2, 3, 4] rfl)
      · refine lv_if_eq (tgt := 101) hx hb dX6_wasSoldBefore_61 (by decide) (fun n => absurd n c10) (fun _ => ?_)
        obtain ⟨x6, h11, hf⟩ := s_bind hf
        obtain ⟨q7, h12, hf⟩ := s_bind hf
        have le13 : s_le q7.2 (e_I r).2 := by
          refine s_lek hem_I ?_ k
          rcases s_ite hf with ⟨-, hf⟩ | ⟨-, hf⟩
          · obtain ⟨x8, -, hf⟩ := s_bind hf
            obtain ⟨x9, -, hf⟩ := s_bind hf
            obtain ⟨q10, hh, hf⟩ := s_bind hf
            refine s_lz.tr (l_X1_ofReceipt hh) ?_
            obtain ⟨q11, hh, hf⟩ := s_bind hf
            refine s_lz.tr (l_X1_nodeOfLine hh) ?_
            rcases s_ite hf with ⟨-, hf⟩ | ⟨-, hf⟩
            · cases hf
              exact s_le.rf
            · cases hf
              exact s_le.rf
          · cases hf
            exact s_le.rf
        refine lv_aload_n hx hb dX6_wasSoldBefore_64 rfl (lv_at hl 0 rfl) ?_
        refine r_gr X I fl_X6_9 h11 dX6_wasSoldBefore_65 ?_
        refine lv_iload hx hb dX6_wasSoldBefore_68 (lv_at hl 4 rfl) ?_
        refine lv_iconst (v := 1) hx hb dX6_wasSoldBefore_70 (by decide) ?_
        refine r_callV (Y := M_X1_ofReceipt) (v := some (.int q7.1)) X I w_620 my_X1_ofReceipt (by omega) (t_X1_ofReceipt (G := G) (d := d + 1) h12) (b_X1_ofReceipt h12) rfl rfl hl.1 rfl (Nat.le_of_ble_eq_true rfl) hn le13 dX6_wasSoldBefore_71 (fun H locs cells slots I hn1 hn2 => ?_)
        have I : s_I G q7.2 s H locs := I
        have hn : cells + σ0.2.1 ≤ q7.2.2.1 ∧ slots + σ0.2.2.1 ≤ q7.2.2.2.1 := ⟨hn1, hn2⟩
        refine lv_iload_n hx hb dX6_wasSoldBefore_74 rfl (lv_at hl 3 rfl) ?_
        rcases s_ite hf with ⟨c14, hf⟩ | ⟨c14, hf⟩
        · refine lv_icmp_ne (tgt := 101) hx hb dX6_wasSoldBefore_75 (by decide) (fun n => absurd c14 n) (fun _ => ?_)
          obtain ⟨x8, h15, hf⟩ := s_bind hf
          obtain ⟨x9, h16, hf⟩ := s_bind hf
          obtain ⟨q10, h17, hf⟩ := s_bind hf
          obtain ⟨q11, h18, hf⟩ := s_bind hf
          have le19 : s_le q11.2 (e_I r).2 := by
            refine s_lek hem_I ?_ k
            rcases s_ite hf with ⟨-, hf⟩ | ⟨-, hf⟩
            · cases hf
              exact s_le.rf
            · cases hf
              exact s_le.rf
          have le20 := s_le.tr (l_X1_nodeOfLine h18) le19
          refine lv_aload_n hx hb dX6_wasSoldBefore_78 rfl (lv_at hl 0 rfl) ?_
          refine r_gr X I fl_X6_9 h15 dX6_wasSoldBefore_79 ?_
          refine lv_aload_n hx hb dX6_wasSoldBefore_82 rfl (lv_at hl 0 rfl) ?_
          refine r_gr X I fl_X6_9 h16 dX6_wasSoldBefore_83 ?_
          refine lv_iload hx hb dX6_wasSoldBefore_86 (lv_at hl 4 rfl) ?_
          refine lv_iconst (v := 0) hx hb dX6_wasSoldBefore_88 (by decide) ?_
          refine r_callV (Y := M_X1_ofReceipt) (v := some (.int q10.1)) X I w_620 my_X1_ofReceipt (by omega) (t_X1_ofReceipt (G := G) (d := d + 1) h17) (b_X1_ofReceipt h17) rfl rfl hl.1 rfl (Nat.le_of_ble_eq_true rfl) hn le20 dX6_wasSoldBefore_89 (fun H locs cells slots I hn1 hn2 => ?_)
          have I : s_I G q10.2 s H locs := I
          have hn : cells + σ0.2.1 ≤ q10.2.2.1 ∧ slots + σ0.2.2.1 ≤ q10.2.2.2.1 := ⟨hn1, hn2⟩
          refine r_callV (Y := M_X1_nodeOfLine) (v := some (.int q11.1)) X I w_1609 my_X1_nodeOfLine (by omega) (t_X1_nodeOfLine (G := G) (d := d + 0) h18) (b_X1_nodeOfLine h18) rfl rfl hl.1 rfl (Nat.le_of_ble_eq_true rfl) hn le19 dX6_wasSoldBefore_92 (fun H locs cells slots I hn1 hn2 => ?_)
          have I : s_I G q11.2 s H locs := I
          have hn : cells + σ0.2.1 ≤ q11.2.2.1 ∧ slots + σ0.2.2.1 ≤ q11.2.2.2.1 := ⟨hn1, hn2⟩
          refine lv_iload_n hx hb dX6_wasSoldBefore_95 rfl (lv_at hl 2 rfl) ?_
          rcases s_ite hf with ⟨c21, hf⟩ | ⟨c21, hf⟩
          · refine lv_icmp_ne (tgt := 101) hx hb dX6_wasSoldBefore_96 (by decide) (fun n => absurd c21 n) (fun _ => ?_)
            cases hf
            have k : _ = r := k
            subst k
            refine lv_iconst (v := 1) hx hb dX6_wasSoldBefore_99 (by decide) ?_
            exact r_iret X I rfl rfl rfl hn dX6_wasSoldBefore_100
          · refine lv_icmp_ne (tgt := 101) hx hb dX6_wasSoldBefore_96 (by decide) (fun _ => ?_) (fun n => absurd n c21)
            cases hf
            have k : s_V G (d + 3) M_X6_wasSoldBefore vs0 σ0 Y_X6_wasSoldBefore (101, [.ref v0, .int v1, .int v2, .int v3, .int v4], q11.2) (e_I r) := k
            exact k.2 p e s m below meth c _ _ _ _ _ X I hn.1 hn.2 (lv_sub hl [0, 1, 2, 3, 4] rfl)
        · refine lv_icmp_ne (tgt := 101) hx hb dX6_wasSoldBefore_75 (by decide) (fun _ => ?_) (fun n => absurd n c14)
          cases hf
          have k : s_V G (d + 3) M_X6_wasSoldBefore vs0 σ0 Y_X6_wasSoldBefore (101, [.ref v0, .int v1, .int v2, .int v3, .int v4], q7.2) (e_I r) := k
          exact k.2 p e s m below meth c _ _ _ _ _ X I hn.1 hn.2 (lv_sub hl [0, 1, 2, 3, 4] rfl)
    · refine lv_if_ne (tgt := 101) hx hb dX6_wasSoldBefore_51 (by decide) (fun _ => ?_) (fun n => absurd n c7)
      cases hf
      have k : s_V G (d + 3) M_X6_wasSoldBefore vs0 σ0 Y_X6_wasSoldBefore (101, [.ref v0, .int v1, .int v2, .int v3, .int v4], q4.2) (e_I r) := k
      exact k.2 p e s m below meth c _ _ _ _ _ X I hn.1 hn.2 (lv_sub hl [0, 1, 2, 3, 4] rfl)
set_option maxRecDepth 100000 in
set_option maxHeartbeats 4000000 in
theorem v_X6_wasSoldBefore_101 {G : sG} {d : Nat} {vs0 : List Value} {σ0 : sS} {v0 : Nat} {v1 : Int32} {v2 : Int32} {v3 : Int32} {v4 : Int32} {σ : sS} {z : sZ Int32} {r : Int32 × sS} (hf : T_X6_wasSoldBefore_101 v0 v1 v2 v3 v4 σ = some z) (k : s_K G (d + 3) M_X6_wasSoldBefore vs0 σ0 Y_X6_wasSoldBefore e_I z r) : s_V G (d + 3) M_X6_wasSoldBefore vs0 σ0 Y_X6_wasSoldBefore (101, [.ref v0, .int v1, .int v2, .int v3, .int v4], σ) (e_I r) := by
  have le0 : s_le σ (e_I r).2 := s_lek hem_I (l_X6_wasSoldBefore_101 hf) k
  refine ⟨le0, ?_⟩
  intro p e s m below meth c H locs cells slots ls X I hn1 hn2 hl
  have hn : cells + σ0.2.1 ≤ σ.2.1 ∧ slots + σ0.2.2.1 ≤ σ.2.2.1 := ⟨hn1, hn2⟩
  have hl : lv_has ls 5 [(0, .ref v0), (1, .int v1), (2, .int v2), (3, .int v3), (4, .int v4)] := hl
  have hx := X.1
  have hb : c.code = cX6_wasSoldBefore := X.2.1
  have hown : s.vm.findClass RX6 = some m.cls := X.2.2.2.2.2.1
  have hts := X.2.2.2.2.2.2.1
  refine W.eq (g2 := F0 m 101 ls []) rfl ?_
  unfold T_X6_wasSoldBefore_101 at hf
  cases hf
  have k : s_V G (d + 3) M_X6_wasSoldBefore vs0 σ0 Y_X6_wasSoldBefore (30, [.ref v0, .int v1, .int v2, .int v3, .int (v4 + 1)], σ) (e_I r) := k
  refine lv_iinc (v := (v4 + 1)) (lv' := [(4, .int (v4 + 1)), (0, .ref v0), (1, .int v1), (2, .int v2), (3, .int v3)]) hx hb dX6_wasSoldBefore_101 hl (k := 4) rfl rfl (by decide) rfl (fun ls hl => ?_)
  refine lv_goto (tgt := 30) hx hb dX6_wasSoldBefore_104 (by decide) ?_
  exact k.2 p e s m below meth c _ _ _ _ _ X I hn.1 hn.2 (lv_sub hl [1, 2, 3, 4, 0] rfl)
theorem v_X6_wasSoldBefore {G : sG} {d : Nat} {vs0 : List Value} {σ0 : sS} {x : sL} {z : sZ Int32} {r : Int32 × sS} (hs : S_X6_wasSoldBefore x = some z) (k : s_K G (d + 3) M_X6_wasSoldBefore vs0 σ0 Y_X6_wasSoldBefore e_I z r) : s_V G (d + 3) M_X6_wasSoldBefore vs0 σ0 Y_X6_wasSoldBefore x (e_I r) := by
  obtain ⟨pc, vs, σ⟩ := x
  unfold S_X6_wasSoldBefore at hs
  dsimp only at hs
  rcases s_ite hs with ⟨c, hs⟩ | ⟨-, hs⟩
  · subst c
    unfold U_X6_wasSoldBefore_0 at hs
    obtain ⟨a0, g0, hs⟩ := s_bind hs
    obtain ⟨a1, g1, hs⟩ := s_bind hs
    obtain ⟨u9, ge, hs⟩ := s_bind hs
    rw [g_r_to g0, g_i_to g1, g_e_to ge]
    exact v_X6_wasSoldBefore_0 hs k
  rcases s_ite hs with ⟨c, hs⟩ | ⟨-, hs⟩
  · subst c
    unfold U_X6_wasSoldBefore_30 at hs
    obtain ⟨a0, g0, hs⟩ := s_bind hs
    obtain ⟨a1, g1, hs⟩ := s_bind hs
    obtain ⟨a2, g2, hs⟩ := s_bind hs
    obtain ⟨a3, g3, hs⟩ := s_bind hs
    obtain ⟨a4, g4, hs⟩ := s_bind hs
    obtain ⟨u9, ge, hs⟩ := s_bind hs
    rw [g_r_to g0, g_i_to g1, g_i_to g2, g_i_to g3, g_i_to g4, g_e_to ge]
    exact v_X6_wasSoldBefore_30 hs k
  rcases s_ite hs with ⟨c, hs⟩ | ⟨-, hs⟩
  · subst c
    unfold U_X6_wasSoldBefore_101 at hs
    obtain ⟨a0, g0, hs⟩ := s_bind hs
    obtain ⟨a1, g1, hs⟩ := s_bind hs
    obtain ⟨a2, g2, hs⟩ := s_bind hs
    obtain ⟨a3, g3, hs⟩ := s_bind hs
    obtain ⟨a4, g4, hs⟩ := s_bind hs
    obtain ⟨u9, ge, hs⟩ := s_bind hs
    rw [g_r_to g0, g_i_to g1, g_i_to g2, g_i_to g3, g_i_to g4, g_e_to ge]
    exact v_X6_wasSoldBefore_101 hs k
  cases hs
theorem t_X6_wasSoldBefore {G : sG} {d : Nat} {v0 : Nat} {v1 : Int32} {σ : sS} {q : Int32 × sS} (h : F_X6_wasSoldBefore v0 v1 σ = some q) : s_T G (d + 3) M_X6_wasSoldBefore [.ref v0, .int v1] σ (e_I q) := by
  unfold F_X6_wasSoldBefore at h
  obtain ⟨-, -, h⟩ := s_bind h
  exact s_ofV rfl (by decide) (Nat.le_of_ble_eq_true rfl) rfl rfl (s_run_ind (V := fun x r => s_V G (d + 3) M_X6_wasSoldBefore [.ref v0, .int v1] σ Y_X6_wasSoldBefore x (e_I r)) (fun x z r hs hk => v_X6_wasSoldBefore hs (by cases z <;> exact hk)) h)
