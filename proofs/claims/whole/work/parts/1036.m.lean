/-! X3_fewestMore -/
noncomputable def T_X3_fewestMore_0 (v0 : Nat) (v1 : Int32) (v2 : Int32) (σ : sS) : Option (sZ Int32) :=
  (s_fr σ v0 3 1).bind fun x1 =>
  (F_X3_gather v0 v1 x1 σ).bind fun q2 =>
  (s_fr q2.2 v0 3 1).bind fun x3 =>
  (F_X3_isEmpty v0 x3 q2.2).bind fun q4 =>
  if q4.1 = 0 then ((s_fr q4.2 v0 3 1).bind fun x5 =>
  (F_X3_leastOutside v0 x5 v2 q4.2).bind fun q6 =>
  if q6.1 = (-1) then (some (.inr (0, q6.2)))
  else ((s_fr q6.2 v0 3 1).bind fun x7 =>
  (s_fr q6.2 v0 3 0).bind fun x8 =>
  (s_fi q6.2 x8 1 2).bind fun x9 =>
  (F_X3_oneMore v0 x7 v2 x9 q6.2).bind fun q10 =>
  if q10.1 = (-1) then ((s_fr q10.2 v0 3 1).bind fun x11 =>
  (s_fr q10.2 v0 3 0).bind fun x12 =>
  (s_fi q10.2 x12 1 2).bind fun x13 =>
  (F_X3_twoMore v0 x11 v2 x13 q10.2).bind fun q14 =>
  some (.inl (76, [.ref v0, .int v2, .int q14.1], q14.2)))
  else (some (.inl (76, [.ref v0, .int v2, .int q10.1], q10.2)))))
  else (some (.inr ((-1), q4.2)))
noncomputable def U_X3_fewestMore_0 (vs : List Value) (σ : sS) : Option (sZ Int32) := (g_r vs).bind fun a0 => (g_i a0.2).bind fun a1 => (g_i a1.2).bind fun a2 => (g_e a2.2).bind fun _ => T_X3_fewestMore_0 a0.1 a1.1 a2.1 σ
noncomputable def T_X3_fewestMore_76 (v0 : Nat) (v2 : Int32) (v3 : Int32) (σ : sS) : Option (sZ Int32) :=
  if v3 = (-1) then ((F_X3_threeMore v0 v2 σ).bind fun q1 =>
  some (.inr (q1.1, q1.2)))
  else (some (.inr (v3, σ)))
noncomputable def U_X3_fewestMore_76 (vs : List Value) (σ : sS) : Option (sZ Int32) := (g_r vs).bind fun a0 => (g_i a0.2).bind fun a1 => (g_i a1.2).bind fun a2 => (g_e a2.2).bind fun _ => T_X3_fewestMore_76 a0.1 a1.1 a2.1 σ
noncomputable def S_X3_fewestMore (x : sL) : Option (sZ Int32) := if x.1 = 0 then U_X3_fewestMore_0 x.2.1 x.2.2 else if x.1 = 76 then U_X3_fewestMore_76 x.2.1 x.2.2 else none
def Y_X3_fewestMore (pc : Nat) : List Nat := if pc = 0 then [0, 1, 2] else if pc = 76 then [0, 2, 3] else []
noncomputable def F_X3_fewestMore (v0 : Nat) (v1 : Int32) (v2 : Int32) (σ : sS) : Option (Int32 × sS) := (s_is σ v0 3).bind fun _ => s_run S_X3_fewestMore (0, [.ref v0, .int v1, .int v2], σ)
theorem l_X3_fewestMore_0 {v0 : Nat} {v1 : Int32} {v2 : Int32} {σ : sS} {z : sZ Int32} (hf : T_X3_fewestMore_0 v0 v1 v2 σ = some z) : s_lz σ z := by
  unfold T_X3_fewestMore_0 at hf
  obtain ⟨x1, -, hf⟩ := s_bind hf
  obtain ⟨q2, hh, hf⟩ := s_bind hf
  refine s_lz.tr (l_X3_gather hh) ?_
  obtain ⟨x3, -, hf⟩ := s_bind hf
  obtain ⟨q4, hh, hf⟩ := s_bind hf
  refine s_lz.tr (l_X3_isEmpty hh) ?_
  rcases s_ite hf with ⟨-, hf⟩ | ⟨-, hf⟩
  · obtain ⟨x5, -, hf⟩ := s_bind hf
    obtain ⟨q6, hh, hf⟩ := s_bind hf
    refine s_lz.tr (l_X3_leastOutside hh) ?_
    rcases s_ite hf with ⟨-, hf⟩ | ⟨-, hf⟩
    · cases hf
      exact s_le.rf
    · obtain ⟨x7, -, hf⟩ := s_bind hf
      obtain ⟨x8, -, hf⟩ := s_bind hf
      obtain ⟨x9, -, hf⟩ := s_bind hf
      obtain ⟨q10, hh, hf⟩ := s_bind hf
      refine s_lz.tr (l_X3_oneMore hh) ?_
      rcases s_ite hf with ⟨-, hf⟩ | ⟨-, hf⟩
      · obtain ⟨x11, -, hf⟩ := s_bind hf
        obtain ⟨x12, -, hf⟩ := s_bind hf
        obtain ⟨x13, -, hf⟩ := s_bind hf
        obtain ⟨q14, hh, hf⟩ := s_bind hf
        refine s_lz.tr (l_X3_twoMore hh) ?_
        cases hf
        exact s_le.rf
      · cases hf
        exact s_le.rf
  · cases hf
    exact s_le.rf
theorem l_X3_fewestMore_76 {v0 : Nat} {v2 : Int32} {v3 : Int32} {σ : sS} {z : sZ Int32} (hf : T_X3_fewestMore_76 v0 v2 v3 σ = some z) : s_lz σ z := by
  unfold T_X3_fewestMore_76 at hf
  rcases s_ite hf with ⟨-, hf⟩ | ⟨-, hf⟩
  · obtain ⟨q1, hh, hf⟩ := s_bind hf
    refine s_lz.tr (l_X3_threeMore hh) ?_
    cases hf
    exact s_le.rf
  · cases hf
    exact s_le.rf
theorem l_X3_fewestMore_s {x : sL} {z : sZ Int32} (hs : S_X3_fewestMore x = some z) : s_lz x.2.2 z := by
  obtain ⟨pc, vs, σ⟩ := x
  unfold S_X3_fewestMore at hs
  dsimp only at hs ⊢
  rcases s_ite hs with ⟨c, hs⟩ | ⟨-, hs⟩
  · subst c
    unfold U_X3_fewestMore_0 at hs
    obtain ⟨a0, g0, hs⟩ := s_bind hs
    obtain ⟨a1, g1, hs⟩ := s_bind hs
    obtain ⟨a2, g2, hs⟩ := s_bind hs
    obtain ⟨u9, ge, hs⟩ := s_bind hs
    exact l_X3_fewestMore_0 hs
  rcases s_ite hs with ⟨c, hs⟩ | ⟨-, hs⟩
  · subst c
    unfold U_X3_fewestMore_76 at hs
    obtain ⟨a0, g0, hs⟩ := s_bind hs
    obtain ⟨a1, g1, hs⟩ := s_bind hs
    obtain ⟨a2, g2, hs⟩ := s_bind hs
    obtain ⟨u9, ge, hs⟩ := s_bind hs
    exact l_X3_fewestMore_76 hs
  cases hs
theorem l_X3_fewestMore {v0 : Nat} {v1 : Int32} {v2 : Int32} {σ : sS} {q : Int32 × sS} (h : F_X3_fewestMore v0 v1 v2 σ = some q) : s_le σ q.2 := by
  unfold F_X3_fewestMore at h
  obtain ⟨-, -, h⟩ := s_bind h
  exact s_run_ind (V := fun x r => s_le x.2.2 r.2) (fun x z r hs hk => by
    have h9 := l_X3_fewestMore_s hs
    cases z with
    | inl y => exact s_le.tr h9 hk
    | inr q => cases hk; exact h9) h
theorem b_X3_fewestMore {v0 : Nat} {v1 : Int32} {v2 : Int32} {σ : sS} {q : Int32 × sS} (h : F_X3_fewestMore v0 v1 v2 σ = some q) : ∃ fs, σ.1 v0 = some (.inr (3, fs)) := by
  unfold F_X3_fewestMore at h
  obtain ⟨u, hu, -⟩ := s_bind h
  exact s_is_to hu
set_option maxRecDepth 100000 in
set_option maxHeartbeats 4000000 in
theorem v_X3_fewestMore_0 {G : sG} {d : Nat} {vs0 : List Value} {σ0 : sS} {v0 : Nat} {v1 : Int32} {v2 : Int32} {σ : sS} {z : sZ Int32} {r : Int32 × sS} (hf : T_X3_fewestMore_0 v0 v1 v2 σ = some z) (k : s_K G (d + 7) M_X3_fewestMore vs0 σ0 Y_X3_fewestMore e_I z r) : s_V G (d + 7) M_X3_fewestMore vs0 σ0 Y_X3_fewestMore (0, [.ref v0, .int v1, .int v2], σ) (e_I r) := by
  have le0 : s_le σ (e_I r).2 := s_lek hem_I (l_X3_fewestMore_0 hf) k
  refine ⟨le0, ?_⟩
  intro p e s m below meth c H locs cells slots ls X I hn1 hn2 hl
  have hn : cells + σ0.2.1 ≤ σ.2.1 ∧ slots + σ0.2.2.1 ≤ σ.2.2.1 := ⟨hn1, hn2⟩
  have hl : lv_has ls 4 [(0, .ref v0), (1, .int v1), (2, .int v2)] := hl
  have hx := X.1
  have hb : c.code = cX3_fewestMore := X.2.1
  have hown : s.vm.findClass RX3 = some m.cls := X.2.2.2.2.2.1
  have hts := X.2.2.2.2.2.2.1
  refine W.eq (g2 := F0 m 0 ls []) rfl ?_
  unfold T_X3_fewestMore_0 at hf
  obtain ⟨x1, h1, hf⟩ := s_bind hf
  obtain ⟨q2, h2, hf⟩ := s_bind hf
  obtain ⟨x3, h3, hf⟩ := s_bind hf
  obtain ⟨q4, h4, hf⟩ := s_bind hf
  have le5 : s_le q4.2 (e_I r).2 := by
    refine s_lek hem_I ?_ k
    rcases s_ite hf with ⟨-, hf⟩ | ⟨-, hf⟩
    · obtain ⟨x5, -, hf⟩ := s_bind hf
      obtain ⟨q6, hh, hf⟩ := s_bind hf
      refine s_lz.tr (l_X3_leastOutside hh) ?_
      rcases s_ite hf with ⟨-, hf⟩ | ⟨-, hf⟩
      · cases hf
        exact s_le.rf
      · obtain ⟨x7, -, hf⟩ := s_bind hf
        obtain ⟨x8, -, hf⟩ := s_bind hf
        obtain ⟨x9, -, hf⟩ := s_bind hf
        obtain ⟨q10, hh, hf⟩ := s_bind hf
        refine s_lz.tr (l_X3_oneMore hh) ?_
        rcases s_ite hf with ⟨-, hf⟩ | ⟨-, hf⟩
        · obtain ⟨x11, -, hf⟩ := s_bind hf
          obtain ⟨x12, -, hf⟩ := s_bind hf
          obtain ⟨x13, -, hf⟩ := s_bind hf
          obtain ⟨q14, hh, hf⟩ := s_bind hf
          refine s_lz.tr (l_X3_twoMore hh) ?_
          cases hf
          exact s_le.rf
        · cases hf
          exact s_le.rf
    · cases hf
      exact s_le.rf
  have le6 := s_le.tr (l_X3_isEmpty h4) le5
  refine lv_aload_n hx hb dX3_fewestMore_0 rfl (lv_at hl 0 rfl) ?_
  refine lv_iload_n hx hb dX3_fewestMore_1 rfl (lv_at hl 1 rfl) ?_
  refine lv_aload_n hx hb dX3_fewestMore_2 rfl (lv_at hl 0 rfl) ?_
  refine r_gr X I fl_X3_11 h1 dX3_fewestMore_3 ?_
  refine r_callV (Y := M_X3_gather) (v := none) X I w_1242 my_X3_gather (by omega) (t_X3_gather (G := G) (d := d + 2) h2) (b_X3_gather h2) rfl rfl hl.1 rfl (Nat.le_of_ble_eq_true rfl) hn le6 dX3_fewestMore_6 (fun H locs cells slots I hn1 hn2 => ?_)
  have I : s_I G q2.2 s H locs := I
  have hn : cells + σ0.2.1 ≤ q2.2.2.1 ∧ slots + σ0.2.2.1 ≤ q2.2.2.2.1 := ⟨hn1, hn2⟩
  refine lv_aload_n hx hb dX3_fewestMore_9 rfl (lv_at hl 0 rfl) ?_
  refine lv_aload_n hx hb dX3_fewestMore_10 rfl (lv_at hl 0 rfl) ?_
  refine r_gr X I fl_X3_11 h3 dX3_fewestMore_11 ?_
  refine r_callV (Y := M_X3_isEmpty) (v := some (.int q4.1)) X I w_1555 my_X3_isEmpty (by omega) (t_X3_isEmpty (G := G) (d := d + 2) h4) (b_X3_isEmpty h4) rfl rfl hl.1 rfl (Nat.le_of_ble_eq_true rfl) hn le5 dX3_fewestMore_14 (fun H locs cells slots I hn1 hn2 => ?_)
  have I : s_I G q4.2 s H locs := I
  have hn : cells + σ0.2.1 ≤ q4.2.2.1 ∧ slots + σ0.2.2.1 ≤ q4.2.2.2.1 := ⟨hn1, hn2⟩
  rcases s_ite hf with ⟨c7, hf⟩ | ⟨c7, hf⟩
  · refine lv_if_eq (tgt := 22) hx hb dX3_fewestMore_17 (by decide) (fun _ => ?_) (fun n => absurd c7 n)
    obtain ⟨x5, h8, hf⟩ := s_bind hf
    obtain ⟨q6, h9, hf⟩ := s_bind hf
    have le10 : s_le q6.2 (e_I r).2 := by
      refine s_lek hem_I ?_ k
      rcases s_ite hf with ⟨-, hf⟩ | ⟨-, hf⟩
      · cases hf
        exact s_le.rf
      · obtain ⟨x7, -, hf⟩ := s_bind hf
        obtain ⟨x8, -, hf⟩ := s_bind hf
        obtain ⟨x9, -, hf⟩ := s_bind hf
        obtain ⟨q10, hh, hf⟩ := s_bind hf
        refine s_lz.tr (l_X3_oneMore hh) ?_
        rcases s_ite hf with ⟨-, hf⟩ | ⟨-, hf⟩
        · obtain ⟨x11, -, hf⟩ := s_bind hf
          obtain ⟨x12, -, hf⟩ := s_bind hf
          obtain ⟨x13, -, hf⟩ := s_bind hf
          obtain ⟨q14, hh, hf⟩ := s_bind hf
          refine s_lz.tr (l_X3_twoMore hh) ?_
          cases hf
          exact s_le.rf
        · cases hf
          exact s_le.rf
    refine lv_aload_n hx hb dX3_fewestMore_22 rfl (lv_at hl 0 rfl) ?_
    refine lv_aload_n hx hb dX3_fewestMore_23 rfl (lv_at hl 0 rfl) ?_
    refine r_gr X I fl_X3_11 h8 dX3_fewestMore_24 ?_
    refine lv_iload_n hx hb dX3_fewestMore_27 rfl (lv_at hl 2 rfl) ?_
    refine r_callV (Y := M_X3_leastOutside) (v := some (.int q6.1)) X I w_1254 my_X3_leastOutside (by omega) (t_X3_leastOutside (G := G) (d := d + 3) h9) (b_X3_leastOutside h9) rfl rfl hl.1 rfl (Nat.le_of_ble_eq_true rfl) hn le10 dX3_fewestMore_28 (fun H locs cells slots I hn1 hn2 => ?_)
    have I : s_I G q6.2 s H locs := I
    have hn : cells + σ0.2.1 ≤ q6.2.2.1 ∧ slots + σ0.2.2.1 ≤ q6.2.2.2.1 := ⟨hn1, hn2⟩
    refine lv_iconst (v := (-1)) hx hb dX3_fewestMore_31 (by decide) ?_
    rcases s_ite hf with ⟨c11, hf⟩ | ⟨c11, hf⟩
    · refine lv_icmp_ne (tgt := 37) hx hb dX3_fewestMore_32 (by decide) (fun n => absurd c11 n) (fun _ => ?_)
      cases hf
      have k : _ = r := k
      subst k
      refine lv_iconst (v := 0) hx hb dX3_fewestMore_35 (by decide) ?_
      exact r_iret X I rfl rfl rfl hn dX3_fewestMore_36
    · refine lv_icmp_ne (tgt := 37) hx hb dX3_fewestMore_32 (by decide) (fun _ => ?_) (fun n => absurd n c11)
      obtain ⟨x7, h12, hf⟩ := s_bind hf
      obtain ⟨x8, h13, hf⟩ := s_bind hf
      obtain ⟨x9, h14, hf⟩ := s_bind hf
      obtain ⟨q10, h15, hf⟩ := s_bind hf
      have le16 : s_le q10.2 (e_I r).2 := by
        refine s_lek hem_I ?_ k
        rcases s_ite hf with ⟨-, hf⟩ | ⟨-, hf⟩
        · obtain ⟨x11, -, hf⟩ := s_bind hf
          obtain ⟨x12, -, hf⟩ := s_bind hf
          obtain ⟨x13, -, hf⟩ := s_bind hf
          obtain ⟨q14, hh, hf⟩ := s_bind hf
          refine s_lz.tr (l_X3_twoMore hh) ?_
          cases hf
          exact s_le.rf
        · cases hf
          exact s_le.rf
      refine lv_aload_n hx hb dX3_fewestMore_37 rfl (lv_at hl 0 rfl) ?_
      refine lv_aload_n hx hb dX3_fewestMore_38 rfl (lv_at hl 0 rfl) ?_
      refine r_gr X I fl_X3_11 h12 dX3_fewestMore_39 ?_
      refine lv_iload_n hx hb dX3_fewestMore_42 rfl (lv_at hl 2 rfl) ?_
      refine lv_aload_n hx hb dX3_fewestMore_43 rfl (lv_at hl 0 rfl) ?_
      refine r_gr X I fl_X3_30 h13 dX3_fewestMore_44 ?_
      refine r_gi X I fl_X3_48 h14 dX3_fewestMore_47 ?_
      refine r_callV (Y := M_X3_oneMore) (v := some (.int q10.1)) X I w_1559 my_X3_oneMore (by omega) (t_X3_oneMore (G := G) (d := d + 2) h15) (b_X3_oneMore h15) rfl rfl hl.1 rfl (Nat.le_of_ble_eq_true rfl) hn le16 dX3_fewestMore_50 (fun H locs cells slots I hn1 hn2 => ?_)
      have I : s_I G q10.2 s H locs := I
      have hn : cells + σ0.2.1 ≤ q10.2.2.1 ∧ slots + σ0.2.2.1 ≤ q10.2.2.2.1 := ⟨hn1, hn2⟩
      refine lv_istore_n (lv' := [(3, .int q10.1), (0, .ref v0), (1, .int v1), (2, .int v2)]) hx hb dX3_fewestMore_53 rfl hl (by decide) rfl (fun ls hl => ?_)
      refine lv_iload_n hx hb dX3_fewestMore_54 rfl (lv_at hl 0 rfl) ?_
      refine lv_iconst (v := (-1)) hx hb dX3_fewestMore_55 (by decide) ?_
      rcases s_ite hf with ⟨c17, hf⟩ | ⟨c17, hf⟩
      · refine lv_icmp_ne (tgt := 76) hx hb dX3_fewestMore_56 (by decide) (fun n => absurd c17 n) (fun _ => ?_)
        obtain ⟨x11, h18, hf⟩ := s_bind hf
        obtain ⟨x12, h19, hf⟩ := s_bind hf
        obtain ⟨x13, h20, hf⟩ := s_bind hf
        obtain ⟨q14, h21, hf⟩ := s_bind hf
        cases hf
        have k : s_V G (d + 7) M_X3_fewestMore vs0 σ0 Y_X3_fewestMore (76, [.ref v0, .int v2, .int q14.1], q14.2) (e_I r) := k
        have le22 : s_le q14.2 (e_I r).2 := k.1
        refine lv_aload_n hx hb dX3_fewestMore_59 rfl (lv_at hl 1 rfl) ?_
        refine lv_aload_n hx hb dX3_fewestMore_60 rfl (lv_at hl 1 rfl) ?_
        refine r_gr X I fl_X3_11 h18 dX3_fewestMore_61 ?_
        refine lv_iload_n hx hb dX3_fewestMore_64 rfl (lv_at hl 3 rfl) ?_
        refine lv_aload_n hx hb dX3_fewestMore_65 rfl (lv_at hl 1 rfl) ?_
        refine r_gr X I fl_X3_30 h19 dX3_fewestMore_66 ?_
        refine r_gi X I fl_X3_48 h20 dX3_fewestMore_69 ?_
        refine r_callV (Y := M_X3_twoMore) (v := some (.int q14.1)) X I w_1572 my_X3_twoMore (by omega) (t_X3_twoMore (G := G) (d := d + 1) h21) (b_X3_twoMore h21) rfl rfl hl.1 rfl (Nat.le_of_ble_eq_true rfl) hn le22 dX3_fewestMore_72 (fun H locs cells slots I hn1 hn2 => ?_)
        have I : s_I G q14.2 s H locs := I
        have hn : cells + σ0.2.1 ≤ q14.2.2.1 ∧ slots + σ0.2.2.1 ≤ q14.2.2.2.1 := ⟨hn1, hn2⟩
        refine lv_istore_n (lv' := [(3, .int q14.1), (0, .ref v0), (1, .int v1), (2, .int v2)]) hx hb dX3_fewestMore_75 rfl hl (by decide) rfl (fun ls hl => ?_)
        exact k.2 p e s m below meth c _ _ _ _ _ X I hn.1 hn.2 (lv_sub hl [1, 3, 0] rfl)
      · refine lv_icmp_ne (tgt := 76) hx hb dX3_fewestMore_56 (by decide) (fun _ => ?_) (fun n => absurd n c17)
        cases hf
        have k : s_V G (d + 7) M_X3_fewestMore vs0 σ0 Y_X3_fewestMore (76, [.ref v0, .int v2, .int q10.1], q10.2) (e_I r) := k
        exact k.2 p e s m below meth c _ _ _ _ _ X I hn.1 hn.2 (lv_sub hl [1, 3, 0] rfl)
  · refine lv_if_eq (tgt := 22) hx hb dX3_fewestMore_17 (by decide) (fun n => absurd n c7) (fun _ => ?_)
    cases hf
    have k : _ = r := k
    subst k
    refine lv_iconst (v := (-1)) hx hb dX3_fewestMore_20 (by decide) ?_
    exact r_iret X I rfl rfl rfl hn dX3_fewestMore_21
set_option maxRecDepth 100000 in
set_option maxHeartbeats 4000000 in
theorem v_X3_fewestMore_76 {G : sG} {d : Nat} {vs0 : List Value} {σ0 : sS} {v0 : Nat} {v2 : Int32} {v3 : Int32} {σ : sS} {z : sZ Int32} {r : Int32 × sS} (hf : T_X3_fewestMore_76 v0 v2 v3 σ = some z) (k : s_K G (d + 7) M_X3_fewestMore vs0 σ0 Y_X3_fewestMore e_I z r) : s_V G (d + 7) M_X3_fewestMore vs0 σ0 Y_X3_fewestMore (76, [.ref v0, .int v2, .int v3], σ) (e_I r) := by
  have le0 : s_le σ (e_I r).2 := s_lek hem_I (l_X3_fewestMore_76 hf) k
  refine ⟨le0, ?_⟩
  intro p e s m below meth c H locs cells slots ls X I hn1 hn2 hl
  have hn : cells + σ0.2.1 ≤ σ.2.1 ∧ slots + σ0.2.2.1 ≤ σ.2.2.1 := ⟨hn1, hn2⟩
  have hl : lv_has ls 4 [(0, .ref v0), (2, .int v2), (3, .int v3)] := hl
  have hx := X.1
  have hb : c.code = cX3_fewestMore := X.2.1
  have hown : s.vm.findClass RX3 = some m.cls := X.2.2.2.2.2.1
  have hts := X.2.2.2.2.2.2.1
  refine W.eq (g2 := F0 m 76 ls []) rfl ?_
  unfold T_X3_fewestMore_76 at hf
  refine lv_iload_n hx hb dX3_fewestMore_76 rfl (lv_at hl 2 rfl) ?_
  refine lv_iconst (v := (-1)) hx hb dX3_fewestMore_77 (by decide) ?_
  rcases s_ite hf with ⟨c1, hf⟩ | ⟨c1, hf⟩
  · refine lv_icmp_ne (tgt := 89) hx hb dX3_fewestMore_78 (by decide) (fun n => absurd c1 n) (fun _ => ?_)
    obtain ⟨q1, h2, hf⟩ := s_bind hf
    cases hf
    have k : _ = r := k
    subst k
    have le3 : s_le q1.2 q1.2 := s_le.rf
    refine lv_aload_n hx hb dX3_fewestMore_81 rfl (lv_at hl 0 rfl) ?_
    refine lv_iload_n hx hb dX3_fewestMore_82 rfl (lv_at hl 1 rfl) ?_
    refine r_callV (Y := M_X3_threeMore) (v := some (.int q1.1)) X I w_1576 my_X3_threeMore (by omega) (t_X3_threeMore (G := G) (d := d + 0) h2) (b_X3_threeMore h2) rfl rfl hl.1 rfl (Nat.le_of_ble_eq_true rfl) hn le3 dX3_fewestMore_83 (fun H locs cells slots I hn1 hn2 => ?_)
    have I : s_I G q1.2 s H locs := I
    have hn : cells + σ0.2.1 ≤ q1.2.2.1 ∧ slots + σ0.2.2.1 ≤ q1.2.2.2.1 := ⟨hn1, hn2⟩
    refine lv_goto (tgt := 90) hx hb dX3_fewestMore_86 (by decide) ?_
    exact r_iret X I rfl rfl rfl hn dX3_fewestMore_90
  · refine lv_icmp_ne (tgt := 89) hx hb dX3_fewestMore_78 (by decide) (fun _ => ?_) (fun n => absurd n c1)
    cases hf
    have k : _ = r := k
    subst k
    refine lv_iload_n hx hb dX3_fewestMore_89 rfl (lv_at hl 2 rfl) ?_
    exact r_iret X I rfl rfl rfl hn dX3_fewestMore_90
theorem v_X3_fewestMore {G : sG} {d : Nat} {vs0 : List Value} {σ0 : sS} {x : sL} {z : sZ Int32} {r : Int32 × sS} (hs : S_X3_fewestMore x = some z) (k : s_K G (d + 7) M_X3_fewestMore vs0 σ0 Y_X3_fewestMore e_I z r) : s_V G (d + 7) M_X3_fewestMore vs0 σ0 Y_X3_fewestMore x (e_I r) := by
  obtain ⟨pc, vs, σ⟩ := x
  unfold S_X3_fewestMore at hs
  dsimp only at hs
  rcases s_ite hs with ⟨c, hs⟩ | ⟨-, hs⟩
  · subst c
    unfold U_X3_fewestMore_0 at hs
    obtain ⟨a0, g0, hs⟩ := s_bind hs
    obtain ⟨a1, g1, hs⟩ := s_bind hs
    obtain ⟨a2, g2, hs⟩ := s_bind hs
    obtain ⟨u9, ge, hs⟩ := s_bind hs
    rw [g_r_to g0, g_i_to g1, g_i_to g2, g_e_to ge]
    exact v_X3_fewestMore_0 hs k
  rcases s_ite hs with ⟨c, hs⟩ | ⟨-, hs⟩
  · subst c
    unfold U_X3_fewestMore_76 at hs
    obtain ⟨a0, g0, hs⟩ := s_bind hs
    obtain ⟨a1, g1, hs⟩ := s_bind hs
    obtain ⟨a2, g2, hs⟩ := s_bind hs
    obtain ⟨u9, ge, hs⟩ := s_bind hs
    rw [g_r_to g0, g_i_to g1, g_i_to g2, g_e_to ge]
    exact v_X3_fewestMore_76 hs k
  cases hs
theorem t_X3_fewestMore {G : sG} {d : Nat} {v0 : Nat} {v1 : Int32} {v2 : Int32} {σ : sS} {q : Int32 × sS} (h : F_X3_fewestMore v0 v1 v2 σ = some q) : s_T G (d + 7) M_X3_fewestMore [.ref v0, .int v1, .int v2] σ (e_I q) := by
  unfold F_X3_fewestMore at h
  obtain ⟨-, -, h⟩ := s_bind h
  exact s_ofV rfl (by decide) (Nat.le_of_ble_eq_true rfl) rfl rfl (s_run_ind (V := fun x r => s_V G (d + 7) M_X3_fewestMore [.ref v0, .int v1, .int v2] σ Y_X3_fewestMore x (e_I r)) (fun x z r hs hk => v_X3_fewestMore hs (by cases z <;> exact hk)) h)
/-! X7_more -/
noncomputable def T_X7_more_0 (v0 : Nat) (v1 : Int32) (v2 : Int32) (σ : sS) : Option (sZ (Int32 ⊕ String)) :=
  (F_X7_needCustomer v0 v1 σ).bind fun q1 => s_sum q1.1 (fun x2 => (F_X7_needFormula v0 v2 q1.2).bind fun q4 => s_sum q4.1 (fun x5 => (s_fr q4.2 v0 7 4).bind fun x7 =>
  (s_fr q4.2 v0 7 1).bind fun x8 =>
  (s_fr q4.2 x8 1 5).bind fun x9 =>
  (s_ai q4.2 x9 v1).bind fun x10 =>
  (F_X3_fewestMore x7 x10 v2 q4.2).bind fun q11 =>
  some (.inr (.inl q11.1, q11.2))) (fun E6 => some (.inr (.inr E6, q4.2)))) (fun E3 => some (.inr (.inr E3, q1.2)))
noncomputable def U_X7_more_0 (vs : List Value) (σ : sS) : Option (sZ (Int32 ⊕ String)) := (g_r vs).bind fun a0 => (g_i a0.2).bind fun a1 => (g_i a1.2).bind fun a2 => (g_e a2.2).bind fun _ => T_X7_more_0 a0.1 a1.1 a2.1 σ
noncomputable def S_X7_more (x : sL) : Option (sZ (Int32 ⊕ String)) := if x.1 = 0 then U_X7_more_0 x.2.1 x.2.2 else none
def Y_X7_more (pc : Nat) : List Nat := if pc = 0 then [0, 1, 2] else []
noncomputable def F_X7_more (v0 : Nat) (v1 : Int32) (v2 : Int32) (σ : sS) : Option ((Int32 ⊕ String) × sS) := (s_is σ v0 7).bind fun _ => s_run S_X7_more (0, [.ref v0, .int v1, .int v2], σ)
theorem l_X7_more_0 {v0 : Nat} {v1 : Int32} {v2 : Int32} {σ : sS} {z : sZ (Int32 ⊕ String)} (hf : T_X7_more_0 v0 v1 v2 σ = some z) : s_lz σ z := by
  unfold T_X7_more_0 at hf
  obtain ⟨q1, hh, hf⟩ := s_bind hf
  refine s_lz.tr (l_X7_needCustomer hh) ?_
  rcases s_sum_some hf with ⟨x2, -, hf⟩ | ⟨E3, -, hf⟩
  · obtain ⟨q4, hh, hf⟩ := s_bind hf
    refine s_lz.tr (l_X7_needFormula hh) ?_
    rcases s_sum_some hf with ⟨x5, -, hf⟩ | ⟨E6, -, hf⟩
    · obtain ⟨x7, -, hf⟩ := s_bind hf
      obtain ⟨x8, -, hf⟩ := s_bind hf
      obtain ⟨x9, -, hf⟩ := s_bind hf
      obtain ⟨x10, -, hf⟩ := s_bind hf
      obtain ⟨q11, hh, hf⟩ := s_bind hf
      refine s_lz.tr (l_X3_fewestMore hh) ?_
      cases hf
      exact s_le.rf
    · cases hf
      exact s_le.rf
  · cases hf
    exact s_le.rf
theorem l_X7_more_s {x : sL} {z : sZ (Int32 ⊕ String)} (hs : S_X7_more x = some z) : s_lz x.2.2 z := by
  obtain ⟨pc, vs, σ⟩ := x
  unfold S_X7_more at hs
  dsimp only at hs ⊢
  rcases s_ite hs with ⟨c, hs⟩ | ⟨-, hs⟩
  · subst c
    unfold U_X7_more_0 at hs
    obtain ⟨a0, g0, hs⟩ := s_bind hs
    obtain ⟨a1, g1, hs⟩ := s_bind hs
    obtain ⟨a2, g2, hs⟩ := s_bind hs
    obtain ⟨u9, ge, hs⟩ := s_bind hs
    exact l_X7_more_0 hs
  cases hs
theorem l_X7_more {v0 : Nat} {v1 : Int32} {v2 : Int32} {σ : sS} {q : (Int32 ⊕ String) × sS} (h : F_X7_more v0 v1 v2 σ = some q) : s_le σ q.2 := by
  unfold F_X7_more at h
  obtain ⟨-, -, h⟩ := s_bind h
  exact s_run_ind (V := fun x r => s_le x.2.2 r.2) (fun x z r hs hk => by
    have h9 := l_X7_more_s hs
    cases z with
    | inl y => exact s_le.tr h9 hk
    | inr q => cases hk; exact h9) h
theorem b_X7_more {v0 : Nat} {v1 : Int32} {v2 : Int32} {σ : sS} {q : (Int32 ⊕ String) × sS} (h : F_X7_more v0 v1 v2 σ = some q) : ∃ fs, σ.1 v0 = some (.inr (7, fs)) := by
  unfold F_X7_more at h
  obtain ⟨u, hu, -⟩ := s_bind h
  exact s_is_to hu
set_option maxRecDepth 100000 in
set_option maxHeartbeats 4000000 in
theorem v_X7_more_0 {G : sG} {d : Nat} {vs0 : List Value} {σ0 : sS} {v0 : Nat} {v1 : Int32} {v2 : Int32} {σ : sS} {z : sZ (Int32 ⊕ String)} {r : (Int32 ⊕ String) × sS} (hf : T_X7_more_0 v0 v1 v2 σ = some z) (k : s_K G (d + 8) M_X7_more vs0 σ0 Y_X7_more e_IX z r) : s_V G (d + 8) M_X7_more vs0 σ0 Y_X7_more (0, [.ref v0, .int v1, .int v2], σ) (e_IX r) := by
  have le0 : s_le σ (e_IX r).2 := s_lek hem_IX (l_X7_more_0 hf) k
  refine ⟨le0, ?_⟩
  intro p e s m below meth c H locs cells slots ls X I hn1 hn2 hl
  have hn : cells + σ0.2.1 ≤ σ.2.1 ∧ slots + σ0.2.2.1 ≤ σ.2.2.1 := ⟨hn1, hn2⟩
  have hl : lv_has ls 3 [(0, .ref v0), (1, .int v1), (2, .int v2)] := hl
  have hx := X.1
  have hb : c.code = cX7_more := X.2.1
  have hown : s.vm.findClass RX7 = some m.cls := X.2.2.2.2.2.1
  have hts := X.2.2.2.2.2.2.1
  refine W.eq (g2 := F0 m 0 ls []) rfl ?_
  unfold T_X7_more_0 at hf
  obtain ⟨q1, h1, hf⟩ := s_bind hf
  refine lv_aload_n hx hb dX7_more_0 rfl (lv_at hl 0 rfl) ?_
  refine lv_iload_n hx hb dX7_more_1 rfl (lv_at hl 1 rfl) ?_
  rcases s_sum_some hf with ⟨x2, hq2, hf⟩ | ⟨E3, hq2, hf⟩
  · have le3 : s_le q1.2 (e_IX r).2 := by
      refine s_lek hem_IX ?_ k
      obtain ⟨q4, hh, hf⟩ := s_bind hf
      refine s_lz.tr (l_X7_needFormula hh) ?_
      rcases s_sum_some hf with ⟨x5, -, hf⟩ | ⟨E6, -, hf⟩
      · obtain ⟨x7, -, hf⟩ := s_bind hf
        obtain ⟨x8, -, hf⟩ := s_bind hf
        obtain ⟨x9, -, hf⟩ := s_bind hf
        obtain ⟨x10, -, hf⟩ := s_bind hf
        obtain ⟨q11, hh, hf⟩ := s_bind hf
        refine s_lz.tr (l_X3_fewestMore hh) ?_
        cases hf
        exact s_le.rf
      · cases hf
        exact s_le.rf
    refine r_callV (Y := M_X7_needCustomer) (v := none) X I w_1115 my_X7_needCustomer (by omega) (t_X7_needCustomer (G := G) (d := d + 6) h1) (b_X7_needCustomer h1) (e_VX_l hq2) rfl hl.1 rfl (Nat.le_of_ble_eq_true rfl) hn le3 dX7_more_2 (fun H locs cells slots I hn1 hn2 => ?_)
    have I : s_I G q1.2 s H locs := I
    have hn : cells + σ0.2.1 ≤ q1.2.2.1 ∧ slots + σ0.2.2.1 ≤ q1.2.2.2.1 := ⟨hn1, hn2⟩
    obtain ⟨q4, h4, hf⟩ := s_bind hf
    refine lv_aload_n hx hb dX7_more_5 rfl (lv_at hl 0 rfl) ?_
    refine lv_iload_n hx hb dX7_more_6 rfl (lv_at hl 2 rfl) ?_
    rcases s_sum_some hf with ⟨x5, hq5, hf⟩ | ⟨E6, hq5, hf⟩
    · have le6 : s_le q4.2 (e_IX r).2 := by
        refine s_lek hem_IX ?_ k
        obtain ⟨x7, -, hf⟩ := s_bind hf
        obtain ⟨x8, -, hf⟩ := s_bind hf
        obtain ⟨x9, -, hf⟩ := s_bind hf
        obtain ⟨x10, -, hf⟩ := s_bind hf
        obtain ⟨q11, hh, hf⟩ := s_bind hf
        refine s_lz.tr (l_X3_fewestMore hh) ?_
        cases hf
        exact s_le.rf
      refine r_callV (Y := M_X7_needFormula) (v := none) X I w_1016 my_X7_needFormula (by omega) (t_X7_needFormula (G := G) (d := d + 6) h4) (b_X7_needFormula h4) (e_VX_l hq5) rfl hl.1 rfl (Nat.le_of_ble_eq_true rfl) hn le6 dX7_more_7 (fun H locs cells slots I hn1 hn2 => ?_)
      have I : s_I G q4.2 s H locs := I
      have hn : cells + σ0.2.1 ≤ q4.2.2.1 ∧ slots + σ0.2.2.1 ≤ q4.2.2.2.1 := ⟨hn1, hn2⟩
      obtain ⟨x7, h7, hf⟩ := s_bind hf
      obtain ⟨x8, h8, hf⟩ := s_bind hf
      obtain ⟨x9, h9, hf⟩ := s_bind hf
      obtain ⟨x10, h10, hf⟩ := s_bind hf
      obtain ⟨q11, h11, hf⟩ := s_bind hf
      cases hf
      have k : _ = r := k
      subst k
      have le12 : s_le q11.2 q11.2 := s_le.rf
      refine lv_aload_n hx hb dX7_more_10 rfl (lv_at hl 0 rfl) ?_
      refine r_gr X I fl_X7_40 h7 dX7_more_11 ?_
      refine lv_aload_n hx hb dX7_more_14 rfl (lv_at hl 0 rfl) ?_
      refine r_gr X I fl_X7_19 h8 dX7_more_15 ?_
      refine r_gr X I fl_X7_174 h9 dX7_more_18 ?_
      refine lv_iload_n hx hb dX7_more_21 rfl (lv_at hl 1 rfl) ?_
      refine r_iald X I h10 dX7_more_22 ?_
      refine lv_iload_n hx hb dX7_more_23 rfl (lv_at hl 2 rfl) ?_
      refine r_callV (Y := M_X3_fewestMore) (v := some (.int q11.1)) X I w_1551 my_X3_fewestMore (by omega) (t_X3_fewestMore (G := G) (d := d + 0) h11) (b_X3_fewestMore h11) rfl rfl hl.1 rfl (Nat.le_of_ble_eq_true rfl) hn le12 dX7_more_24 (fun H locs cells slots I hn1 hn2 => ?_)
      have I : s_I G q11.2 s H locs := I
      have hn : cells + σ0.2.1 ≤ q11.2.2.1 ∧ slots + σ0.2.2.1 ≤ q11.2.2.2.1 := ⟨hn1, hn2⟩
      exact r_iret X I rfl rfl rfl hn dX7_more_27
    · cases hf
      have k : _ = r := k
      subst k
      exact r_callVx (Y := M_X7_needFormula) X I rfl w_1016 my_X7_needFormula (by omega) (t_X7_needFormula (G := G) (d := d + 6) h4) (b_X7_needFormula h4) (e_VX_r hq5) rfl hl.1 rfl (Nat.le_of_ble_eq_true rfl) hn rfl dX7_more_7
  · cases hf
    have k : _ = r := k
    subst k
    exact r_callVx (Y := M_X7_needCustomer) X I rfl w_1115 my_X7_needCustomer (by omega) (t_X7_needCustomer (G := G) (d := d + 6) h1) (b_X7_needCustomer h1) (e_VX_r hq2) rfl hl.1 rfl (Nat.le_of_ble_eq_true rfl) hn rfl dX7_more_2
theorem v_X7_more {G : sG} {d : Nat} {vs0 : List Value} {σ0 : sS} {x : sL} {z : sZ (Int32 ⊕ String)} {r : (Int32 ⊕ String) × sS} (hs : S_X7_more x = some z) (k : s_K G (d + 8) M_X7_more vs0 σ0 Y_X7_more e_IX z r) : s_V G (d + 8) M_X7_more vs0 σ0 Y_X7_more x (e_IX r) := by
  obtain ⟨pc, vs, σ⟩ := x
  unfold S_X7_more at hs
  dsimp only at hs
  rcases s_ite hs with ⟨c, hs⟩ | ⟨-, hs⟩
  · subst c
    unfold U_X7_more_0 at hs
    obtain ⟨a0, g0, hs⟩ := s_bind hs
    obtain ⟨a1, g1, hs⟩ := s_bind hs
    obtain ⟨a2, g2, hs⟩ := s_bind hs
    obtain ⟨u9, ge, hs⟩ := s_bind hs
    rw [g_r_to g0, g_i_to g1, g_i_to g2, g_e_to ge]
    exact v_X7_more_0 hs k
  cases hs
theorem t_X7_more {G : sG} {d : Nat} {v0 : Nat} {v1 : Int32} {v2 : Int32} {σ : sS} {q : (Int32 ⊕ String) × sS} (h : F_X7_more v0 v1 v2 σ = some q) : s_T G (d + 8) M_X7_more [.ref v0, .int v1, .int v2] σ (e_IX q) := by
  unfold F_X7_more at h
  obtain ⟨-, -, h⟩ := s_bind h
  exact s_ofV rfl (by decide) (Nat.le_of_ble_eq_true rfl) rfl rfl (s_run_ind (V := fun x r => s_V G (d + 8) M_X7_more [.ref v0, .int v1, .int v2] σ Y_X7_more x (e_IX r)) (fun x z r hs hk => v_X7_more hs (by cases z <;> exact hk)) h)
/-! L_more -/
noncomputable def T_L_more_0 (v0 : Nat) (v1 : Int32) (v2 : Int32) (v3 : Nat) (σ : sS) : Option (sZ Int32) :=
  (F_X7_more v0 v1 v2 σ).bind fun q1 => s_sum q1.1 (fun x2 => (s_sl q1.2 v3 0 ((x2 : Int32).toInt64)).bind fun σ4 =>
  some (.inr (0, σ4))) (fun E3 => if E3 = "java/lang/IndexOutOfBoundsException" then (some (.inr (1, q1.2))) else none)
noncomputable def U_L_more_0 (vs : List Value) (σ : sS) : Option (sZ Int32) := (g_r vs).bind fun a0 => (g_i a0.2).bind fun a1 => (g_i a1.2).bind fun a2 => (g_r a2.2).bind fun a3 => (g_e a3.2).bind fun _ => T_L_more_0 a0.1 a1.1 a2.1 a3.1 σ
noncomputable def S_L_more (x : sL) : Option (sZ Int32) := if x.1 = 0 then U_L_more_0 x.2.1 x.2.2 else none
def Y_L_more (pc : Nat) : List Nat := if pc = 0 then [0, 1, 2, 3] else []
noncomputable def F_L_more (v0 : Nat) (v1 : Int32) (v2 : Int32) (v3 : Nat) (σ : sS) : Option (Int32 × sS) := s_run S_L_more (0, [.ref v0, .int v1, .int v2, .ref v3], σ)
theorem l_L_more_0 {v0 : Nat} {v1 : Int32} {v2 : Int32} {v3 : Nat} {σ : sS} {z : sZ Int32} (hf : T_L_more_0 v0 v1 v2 v3 σ = some z) : s_lz σ z := by
  unfold T_L_more_0 at hf
  obtain ⟨q1, hh, hf⟩ := s_bind hf
  refine s_lz.tr (l_X7_more hh) ?_
  rcases s_sum_some hf with ⟨x2, -, hf⟩ | ⟨E3, -, hf⟩
  · obtain ⟨σ4, hh, hf⟩ := s_bind hf
    refine s_lz.tr (s_le2 (s_sl_2 hh)) ?_
    cases hf
    exact s_le.rf
  · rcases s_ite hf with ⟨-, hf⟩ | ⟨-, hf⟩
    · cases hf
      exact s_le.rf
    cases hf
theorem l_L_more_s {x : sL} {z : sZ Int32} (hs : S_L_more x = some z) : s_lz x.2.2 z := by
  obtain ⟨pc, vs, σ⟩ := x
  unfold S_L_more at hs
  dsimp only at hs ⊢
  rcases s_ite hs with ⟨c, hs⟩ | ⟨-, hs⟩
  · subst c
    unfold U_L_more_0 at hs
    obtain ⟨a0, g0, hs⟩ := s_bind hs
    obtain ⟨a1, g1, hs⟩ := s_bind hs
    obtain ⟨a2, g2, hs⟩ := s_bind hs
    obtain ⟨a3, g3, hs⟩ := s_bind hs
    obtain ⟨u9, ge, hs⟩ := s_bind hs
    exact l_L_more_0 hs
  cases hs
theorem l_L_more {v0 : Nat} {v1 : Int32} {v2 : Int32} {v3 : Nat} {σ : sS} {q : Int32 × sS} (h : F_L_more v0 v1 v2 v3 σ = some q) : s_le σ q.2 := by
  unfold F_L_more at h
  exact s_run_ind (V := fun x r => s_le x.2.2 r.2) (fun x z r hs hk => by
    have h9 := l_L_more_s hs
    cases z with
    | inl y => exact s_le.tr h9 hk
    | inr q => cases hk; exact h9) h
set_option maxRecDepth 100000 in
set_option maxHeartbeats 4000000 in
theorem v_L_more_0 {G : sG} {d : Nat} {vs0 : List Value} {σ0 : sS} {v0 : Nat} {v1 : Int32} {v2 : Int32} {v3 : Nat} {σ : sS} {z : sZ Int32} {r : Int32 × sS} (hf : T_L_more_0 v0 v1 v2 v3 σ = some z) (k : s_K G (d + 9) M_L_more vs0 σ0 Y_L_more e_I z r) : s_V G (d + 9) M_L_more vs0 σ0 Y_L_more (0, [.ref v0, .int v1, .int v2, .ref v3], σ) (e_I r) := by
  have le0 : s_le σ (e_I r).2 := s_lek hem_I (l_L_more_0 hf) k
  refine ⟨le0, ?_⟩
  intro p e s m below meth c H locs cells slots ls X I hn1 hn2 hl
  have hn : cells + σ0.2.1 ≤ σ.2.1 ∧ slots + σ0.2.2.1 ≤ σ.2.2.1 := ⟨hn1, hn2⟩
  have hl : lv_has ls 5 [(0, .ref v0), (1, .int v1), (2, .int v2), (3, .ref v3)] := hl
  have hx := X.1
  have hb : c.code = cL_more := X.2.1
  have hown : s.vm.findClass RL = some m.cls := X.2.2.2.2.2.1
  have hts := X.2.2.2.2.2.2.1
  refine W.eq (g2 := F0 m 0 ls []) rfl ?_
  unfold T_L_more_0 at hf
  obtain ⟨q1, h1, hf⟩ := s_bind hf
  refine lv_aload_n hx hb dL_more_0 rfl (lv_at hl 3 rfl) ?_
  refine lv_iconst (v := 0) hx hb dL_more_1 (by decide) ?_
  refine lv_aload_n hx hb dL_more_2 rfl (lv_at hl 0 rfl) ?_
  refine lv_iload_n hx hb dL_more_3 rfl (lv_at hl 1 rfl) ?_
  refine lv_iload_n hx hb dL_more_4 rfl (lv_at hl 2 rfl) ?_
  rcases s_sum_some hf with ⟨x2, hq2, hf⟩ | ⟨E3, hq2, hf⟩
  · have le3 : s_le q1.2 (e_I r).2 := by
      refine s_lek hem_I ?_ k
      obtain ⟨σ4, hh, hf⟩ := s_bind hf
      refine s_lz.tr (s_le2 (s_sl_2 hh)) ?_
      cases hf
      exact s_le.rf
    refine r_callV (Y := M_X7_more) (v := some (.int x2)) X I w_1547 my_X7_more (by omega) (t_X7_more (G := G) (d := d + 0) h1) (b_X7_more h1) (e_IX_l hq2) rfl hl.1 rfl (Nat.le_of_ble_eq_true rfl) hn le3 dL_more_5 (fun H locs cells slots I hn1 hn2 => ?_)
    have I : s_I G q1.2 s H locs := I
    have hn : cells + σ0.2.1 ≤ q1.2.2.1 ∧ slots + σ0.2.2.1 ≤ q1.2.2.2.1 := ⟨hn1, hn2⟩
    obtain ⟨σ4, h4, hf⟩ := s_bind hf
    cases hf
    have k : _ = r := k
    subst k
    have le5 : s_le σ4 σ4 := s_le.rf
    refine lv_i2l hx hb dL_more_8 rfl ?_
    refine r_last X I h4 dL_more_9 (fun H locs I => ?_)
    have hn := s_k2 (s_sl_2 h4) hn
    refine lv_goto (tgt := 17) hx hb dL_more_10 (by decide) ?_
    refine lv_iconst (v := 0) hx hb dL_more_17 (by decide) ?_
    exact r_iret X I rfl rfl rfl hn dL_more_18
  · rcases s_ite hf with ⟨c6, hf⟩ | ⟨c6, hf⟩
    · subst c6
      have le7 : s_le q1.2 (e_I r).2 := by
        refine s_lek hem_I ?_ k
        cases hf
        exact s_le.rf
      refine r_callVh (x := (0, 10, 13, 27)) (Y := M_X7_more) (E := "java/lang/IndexOutOfBoundsException") (name := "java/lang/IndexOutOfBoundsException") X I [] [] rfl (fun z hz => by cases hz) rfl (by decide) w_1011 (by decide +kernel) w_1547 my_X7_more (by omega) (t_X7_more (G := G) (d := d + 0) h1) (b_X7_more h1) (e_IX_r hq2) rfl hl.1 rfl (Nat.le_of_ble_eq_true rfl) hn le7 dL_more_5 (fun a5 H locs cells slots I hn1 hn2 => ?_)
      have I : s_I G q1.2 s H locs := I
      have hn : cells + σ0.2.1 ≤ q1.2.2.1 ∧ slots + σ0.2.2.1 ≤ q1.2.2.2.1 := ⟨hn1, hn2⟩
      cases hf
      have k : _ = r := k
      subst k
      refine lv_astore (lv' := [(4, .ref a5), (0, .ref v0), (1, .int v1), (2, .int v2), (3, .ref v3)]) hx hb dL_more_13 hl (by decide) rfl (fun ls hl => ?_)
      refine lv_iconst (v := 1) hx hb dL_more_15 (by decide) ?_
      exact r_iret X I rfl rfl rfl hn dL_more_16
    cases hf
theorem v_L_more {G : sG} {d : Nat} {vs0 : List Value} {σ0 : sS} {x : sL} {z : sZ Int32} {r : Int32 × sS} (hs : S_L_more x = some z) (k : s_K G (d + 9) M_L_more vs0 σ0 Y_L_more e_I z r) : s_V G (d + 9) M_L_more vs0 σ0 Y_L_more x (e_I r) := by
  obtain ⟨pc, vs, σ⟩ := x
  unfold S_L_more at hs
  dsimp only at hs
  rcases s_ite hs with ⟨c, hs⟩ | ⟨-, hs⟩
  · subst c
    unfold U_L_more_0 at hs
    obtain ⟨a0, g0, hs⟩ := s_bind hs
    obtain ⟨a1, g1, hs⟩ := s_bind hs
    obtain ⟨a2, g2, hs⟩ := s_bind hs
    obtain ⟨a3, g3, hs⟩ := s_bind hs
    obtain ⟨u9, ge, hs⟩ := s_bind hs
    rw [g_r_to g0, g_i_to g1, g_i_to g2, g_r_to g3, g_e_to ge]
    exact v_L_more_0 hs k
  cases hs
theorem t_L_more {G : sG} {d : Nat} {v0 : Nat} {v1 : Int32} {v2 : Int32} {v3 : Nat} {σ : sS} {q : Int32 × sS} (h : F_L_more v0 v1 v2 v3 σ = some q) : s_T G (d + 9) M_L_more [.ref v0, .int v1, .int v2, .ref v3] σ (e_I q) := by
  unfold F_L_more at h
  exact s_ofVH rfl (by decide) (Nat.le_of_ble_eq_true rfl) rfl rfl (s_run_ind (V := fun x r => s_V G (d + 9) M_L_more [.ref v0, .int v1, .int v2, .ref v3] σ Y_L_more x (e_I r)) (fun x z r hs hk => v_L_more hs (by cases z <;> exact hk)) h)
/-! X8_worldsOfAll -/
noncomputable def T_X8_worldsOfAll_0 (v0 : Nat) (σ : sS) : Option (sZ Unit) :=
  some (.inl (2, [.ref v0, .int 0], σ))
noncomputable def U_X8_worldsOfAll_0 (vs : List Value) (σ : sS) : Option (sZ Unit) := (g_r vs).bind fun a0 => (g_e a0.2).bind fun _ => T_X8_worldsOfAll_0 a0.1 σ
noncomputable def T_X8_worldsOfAll_2 (v0 : Nat) (v1 : Int32) (σ : sS) : Option (sZ Unit) :=
  if (960 : Int32) ≤ v1 then (some (.inl (24, [.ref v0, .int 0], σ)))
  else ((s_fr σ v0 8 21).bind fun x1 =>
  (s_si σ x1 v1 0).bind fun σ2 =>
  some (.inl (2, [.ref v0, .int (v1 + 1)], σ2)))
noncomputable def U_X8_worldsOfAll_2 (vs : List Value) (σ : sS) : Option (sZ Unit) := (g_r vs).bind fun a0 => (g_i a0.2).bind fun a1 => (g_e a1.2).bind fun _ => T_X8_worldsOfAll_2 a0.1 a1.1 σ
noncomputable def T_X8_worldsOfAll_24 (v0 : Nat) (v1 : Int32) (σ : sS) : Option (sZ Unit) :=
  (F_X8_formulas v0 σ).bind fun q1 =>
  if q1.1 ≤ v1 then (some (.inr ((), q1.2)))
  else (some (.inl (34, [.ref v0, .int v1, .int 0], q1.2)))
noncomputable def U_X8_worldsOfAll_24 (vs : List Value) (σ : sS) : Option (sZ Unit) := (g_r vs).bind fun a0 => (g_i a0.2).bind fun a1 => (g_e a1.2).bind fun _ => T_X8_worldsOfAll_24 a0.1 a1.1 σ
noncomputable def T_X8_worldsOfAll_34 (v0 : Nat) (v1 : Int32) (v2 : Int32) (σ : sS) : Option (sZ Unit) :=
  (F_X8_worldsMany v0 σ).bind fun q1 =>
  if q1.1 ≤ v2 then (some (.inl (24, [.ref v0, .int (v1 + 1)], q1.2)))
  else ((s_fr q1.2 v0 8 21).bind fun x2 =>
  (s_ai q1.2 x2 ((32 * v1) + (v2 / 32))).bind fun x3 =>
  (F_X8_isTrue v0 v1 v2 q1.2).bind fun q4 =>
  if q4.1 = 0 then (some (.inl (76, [.ref v0, .int v1, .int v2, .int 0, .int x3, .int ((32 * v1) + (v2 / 32)), .ref x2], q4.2)))
  else (some (.inl (76, [.ref v0, .int v1, .int v2, .int (1 <<< ((v2 - v2 / 32 * 32) &&& 31)), .int x3, .int ((32 * v1) + (v2 / 32)), .ref x2], q4.2))))
noncomputable def U_X8_worldsOfAll_34 (vs : List Value) (σ : sS) : Option (sZ Unit) := (g_r vs).bind fun a0 => (g_i a0.2).bind fun a1 => (g_i a1.2).bind fun a2 => (g_e a2.2).bind fun _ => T_X8_worldsOfAll_34 a0.1 a1.1 a2.1 σ
noncomputable def T_X8_worldsOfAll_76 (v0 : Nat) (v1 : Int32) (v2 : Int32) (w0 : Int32) (w1 : Int32) (w2 : Int32) (w3 : Nat) (σ : sS) : Option (sZ Unit) :=
  (s_si σ w3 w2 (w1 ||| w0)).bind fun σ1 =>
  some (.inl (34, [.ref v0, .int v1, .int (v2 + 1)], σ1))
noncomputable def U_X8_worldsOfAll_76 (vs : List Value) (σ : sS) : Option (sZ Unit) := (g_r vs).bind fun a0 => (g_i a0.2).bind fun a1 => (g_i a1.2).bind fun a2 => (g_i a2.2).bind fun a3 => (g_i a3.2).bind fun a4 => (g_i a4.2).bind fun a5 => (g_r a5.2).bind fun a6 => (g_e a6.2).bind fun _ => T_X8_worldsOfAll_76 a0.1 a1.1 a2.1 a3.1 a4.1 a5.1 a6.1 σ
noncomputable def S_X8_worldsOfAll (x : sL) : Option (sZ Unit) := if x.1 = 0 then U_X8_worldsOfAll_0 x.2.1 x.2.2 else if x.1 = 2 then U_X8_worldsOfAll_2 x.2.1 x.2.2 else if x.1 = 24 then U_X8_worldsOfAll_24 x.2.1 x.2.2 else if x.1 = 34 then U_X8_worldsOfAll_34 x.2.1 x.2.2 else if x.1 = 76 then U_X8_worldsOfAll_76 x.2.1 x.2.2 else none
def Y_X8_worldsOfAll (pc : Nat) : List Nat := if pc = 0 then [0] else if pc = 2 then [0, 1] else if pc = 24 then [0, 1] else if pc = 34 then [0, 1, 2] else if pc = 76 then [0, 1, 2] else []
noncomputable def F_X8_worldsOfAll (v0 : Nat) (σ : sS) : Option (Unit × sS) := (s_is σ v0 8).bind fun _ => s_run S_X8_worldsOfAll (0, [.ref v0], σ)
theorem l_X8_worldsOfAll_0 {v0 : Nat} {σ : sS} {z : sZ Unit} (hf : T_X8_worldsOfAll_0 v0 σ = some z) : s_lz σ z := by
  unfold T_X8_worldsOfAll_0 at hf
  cases hf
  exact s_le.rf
theorem l_X8_worldsOfAll_2 {v0 : Nat} {v1 : Int32} {σ : sS} {z : sZ Unit} (hf : T_X8_worldsOfAll_2 v0 v1 σ = some z) : s_lz σ z := by
  unfold T_X8_worldsOfAll_2 at hf
  rcases s_ite hf with ⟨-, hf⟩ | ⟨-, hf⟩
  · cases hf
    exact s_le.rf
  · obtain ⟨x1, -, hf⟩ := s_bind hf
    obtain ⟨σ2, hh, hf⟩ := s_bind hf
    refine s_lz.tr (s_le2 (s_si_2 hh)) ?_
    cases hf
    exact s_le.rf
theorem l_X8_worldsOfAll_24 {v0 : Nat} {v1 : Int32} {σ : sS} {z : sZ Unit} (hf : T_X8_worldsOfAll_24 v0 v1 σ = some z) : s_lz σ z := by
  unfold T_X8_worldsOfAll_24 at hf
  obtain ⟨q1, hh, hf⟩ := s_bind hf
  refine s_lz.tr (l_X8_formulas hh) ?_
  rcases s_ite hf with ⟨-, hf⟩ | ⟨-, hf⟩
  · cases hf
    exact s_le.rf
  · cases hf
    exact s_le.rf
theorem l_X8_worldsOfAll_34 {v0 : Nat} {v1 : Int32} {v2 : Int32} {σ : sS} {z : sZ Unit} (hf : T_X8_worldsOfAll_34 v0 v1 v2 σ = some z) : s_lz σ z := by
  unfold T_X8_worldsOfAll_34 at hf
  obtain ⟨q1, hh, hf⟩ := s_bind hf
  refine s_lz.tr (l_X8_worldsMany hh) ?_
  rcases s_ite hf with ⟨-, hf⟩ | ⟨-, hf⟩
  · cases hf
    exact s_le.rf
  · obtain ⟨x2, -, hf⟩ := s_bind hf
    obtain ⟨x3, -, hf⟩ := s_bind hf
    obtain ⟨q4, hh, hf⟩ := s_bind hf
    refine s_lz.tr (l_X8_isTrue hh) ?_
    rcases s_ite hf with ⟨-, hf⟩ | ⟨-, hf⟩
    · cases hf
      exact s_le.rf
    · cases hf
      exact s_le.rf
theorem l_X8_worldsOfAll_76 {v0 : Nat} {v1 : Int32} {v2 : Int32} {w0 : Int32} {w1 : Int32} {w2 : Int32} {w3 : Nat} {σ : sS} {z : sZ Unit} (hf : T_X8_worldsOfAll_76 v0 v1 v2 w0 w1 w2 w3 σ = some z) : s_lz σ z := by
  unfold T_X8_worldsOfAll_76 at hf
  obtain ⟨σ1, hh, hf⟩ := s_bind hf
  refine s_lz.tr (s_le2 (s_si_2 hh)) ?_
  cases hf
  exact s_le.rf
theorem l_X8_worldsOfAll_s {x : sL} {z : sZ Unit} (hs : S_X8_worldsOfAll x = some z) : s_lz x.2.2 z := by
  obtain ⟨pc, vs, σ⟩ := x
  unfold S_X8_worldsOfAll at hs
  dsimp only at hs ⊢
  rcases s_ite hs with ⟨c, hs⟩ | ⟨-, hs⟩
  · subst c
    unfold U_X8_worldsOfAll_0 at hs
    obtain ⟨a0, g0, hs⟩ := s_bind hs
    obtain ⟨u9, ge, hs⟩ := s_bind hs
    exact l_X8_worldsOfAll_0 hs
  rcases s_ite hs with ⟨c, hs⟩ | ⟨-, hs⟩
  · subst c
    unfold U_X8_worldsOfAll_2 at hs
    obtain ⟨a0, g0, hs⟩ := s_bind hs
    obtain ⟨a1, g1, hs⟩ := s_bind hs
    obtain ⟨u9, ge, hs⟩ := s_bind hs
    exact l_X8_worldsOfAll_2 hs
  rcases s_ite hs with ⟨c, hs⟩ | ⟨-, hs⟩
  · subst c
    unfold U_X8_worldsOfAll_24 at hs
    obtain ⟨a0, g0, hs⟩ := s_bind hs
    obtain ⟨a1, g1, hs⟩ := s_bind hs
    obtain ⟨u9, ge, hs⟩ := s_bind hs
    exact l_X8_worldsOfAll_24 hs
  rcases s_ite hs with ⟨c, hs⟩ | ⟨-, hs⟩
  · subst c
    unfold U_X8_worldsOfAll_34 at hs
    obtain ⟨a0, g0, hs⟩ := s_bind hs
    obtain ⟨a1, g1, hs⟩ := s_bind hs
    obtain ⟨a2, g2, hs⟩ := s_bind hs
    obtain ⟨u9, ge, hs⟩ := s_bind hs
    exact l_X8_worldsOfAll_34 hs
  rcases s_ite hs with ⟨c, hs⟩ | ⟨-, hs⟩
  · subst c
    unfold U_X8_worldsOfAll_76 at hs
    obtain ⟨a0, g0, hs⟩ := s_bind hs
    obtain ⟨a1, g1, hs⟩ := s_bind hs
    obtain ⟨a2, g2, hs⟩ := s_bind hs
    obtain ⟨a3, g3, hs⟩ := s_bind hs
    obtain ⟨a4, g4, hs⟩ := s_bind hs
    obtain ⟨a5, g5, hs⟩ := s_bind hs
    obtain ⟨a6, g6, hs⟩ := s_bind hs
    obtain ⟨u9, ge, hs⟩ := s_bind hs
    exact l_X8_worldsOfAll_76 hs
  cases hs
theorem l_X8_worldsOfAll {v0 : Nat} {σ : sS} {q : Unit × sS} (h : F_X8_worldsOfAll v0 σ = some q) : s_le σ q.2 := by
  unfold F_X8_worldsOfAll at h
  obtain ⟨-, -, h⟩ := s_bind h
  exact s_run_ind (V := fun x r => s_le x.2.2 r.2) (fun x z r hs hk => by
    have h9 := l_X8_worldsOfAll_s hs
    cases z with
    | inl y => exact s_le.tr h9 hk
    | inr q => cases hk; exact h9) h
theorem b_X8_worldsOfAll {v0 : Nat} {σ : sS} {q : Unit × sS} (h : F_X8_worldsOfAll v0 σ = some q) : ∃ fs, σ.1 v0 = some (.inr (8, fs)) := by
  unfold F_X8_worldsOfAll at h
  obtain ⟨u, hu, -⟩ := s_bind h
  exact s_is_to hu
set_option maxRecDepth 100000 in
set_option maxHeartbeats 4000000 in
theorem v_X8_worldsOfAll_0 {G : sG} {d : Nat} {vs0 : List Value} {σ0 : sS} {v0 : Nat} {σ : sS} {z : sZ Unit} {r : Unit × sS} (hf : T_X8_worldsOfAll_0 v0 σ = some z) (k : s_K G (d + 4) M_X8_worldsOfAll vs0 σ0 Y_X8_worldsOfAll e_V z r) : s_V G (d + 4) M_X8_worldsOfAll vs0 σ0 Y_X8_worldsOfAll (0, [.ref v0], σ) (e_V r) := by
  have le0 : s_le σ (e_V r).2 := s_lek hem_V (l_X8_worldsOfAll_0 hf) k
  refine ⟨le0, ?_⟩
  intro p e s m below meth c H locs cells slots ls X I hn1 hn2 hl
  have hn : cells + σ0.2.1 ≤ σ.2.1 ∧ slots + σ0.2.2.1 ≤ σ.2.2.1 := ⟨hn1, hn2⟩
  have hl : lv_has ls 3 [(0, .ref v0)] := hl
  have hx := X.1
  have hb : c.code = cX8_worldsOfAll := X.2.1
  have hown : s.vm.findClass RX8 = some m.cls := X.2.2.2.2.2.1
  have hts := X.2.2.2.2.2.2.1
  refine W.eq (g2 := F0 m 0 ls []) rfl ?_
  unfold T_X8_worldsOfAll_0 at hf
  cases hf
  have k : s_V G (d + 4) M_X8_worldsOfAll vs0 σ0 Y_X8_worldsOfAll (2, [.ref v0, .int 0], σ) (e_V r) := k
  refine lv_iconst (v := 0) hx hb dX8_worldsOfAll_0 (by decide) ?_
  refine lv_istore_n (lv' := [(1, .int 0), (0, .ref v0)]) hx hb dX8_worldsOfAll_1 rfl hl (by decide) rfl (fun ls hl => ?_)
  exact k.2 p e s m below meth c _ _ _ _ _ X I hn.1 hn.2 (lv_sub hl [1, 0] rfl)
set_option maxRecDepth 100000 in
set_option maxHeartbeats 4000000 in
theorem v_X8_worldsOfAll_2 {G : sG} {d : Nat} {vs0 : List Value} {σ0 : sS} {v0 : Nat} {v1 : Int32} {σ : sS} {z : sZ Unit} {r : Unit × sS} (hf : T_X8_worldsOfAll_2 v0 v1 σ = some z) (k : s_K G (d + 4) M_X8_worldsOfAll vs0 σ0 Y_X8_worldsOfAll e_V z r) : s_V G (d + 4) M_X8_worldsOfAll vs0 σ0 Y_X8_worldsOfAll (2, [.ref v0, .int v1], σ) (e_V r) := by
  have le0 : s_le σ (e_V r).2 := s_lek hem_V (l_X8_worldsOfAll_2 hf) k
  refine ⟨le0, ?_⟩
  intro p e s m below meth c H locs cells slots ls X I hn1 hn2 hl
  have hn : cells + σ0.2.1 ≤ σ.2.1 ∧ slots + σ0.2.2.1 ≤ σ.2.2.1 := ⟨hn1, hn2⟩
  have hl : lv_has ls 3 [(0, .ref v0), (1, .int v1)] := hl
  have hx := X.1
  have hb : c.code = cX8_worldsOfAll := X.2.1
  have hown : s.vm.findClass RX8 = some m.cls := X.2.2.2.2.2.1
  have hts := X.2.2.2.2.2.2.1
  refine W.eq (g2 := F0 m 2 ls []) rfl ?_
  unfold T_X8_worldsOfAll_2 at hf
  refine lv_iload_n hx hb dX8_worldsOfAll_2 rfl (lv_at hl 1 rfl) ?_
  refine lv_sipush (v := 960) hx hb dX8_worldsOfAll_3 (by decide) ?_
  rcases s_ite hf with ⟨c1, hf⟩ | ⟨c1, hf⟩
  · refine lv_icmp_ge (tgt := 22) hx hb dX8_worldsOfAll_6 (by decide) (fun _ => ?_) (fun n => absurd c1 n)
    cases hf
    have k : s_V G (d + 4) M_X8_worldsOfAll vs0 σ0 Y_X8_worldsOfAll (24, [.ref v0, .int 0], σ) (e_V r) := k
    refine lv_iconst (v := 0) hx hb dX8_worldsOfAll_22 (by decide) ?_
    refine lv_istore_n (lv' := [(1, .int 0), (0, .ref v0)]) hx hb dX8_worldsOfAll_23 rfl hl (by decide) rfl (fun ls hl => ?_)
    exact k.2 p e s m below meth c _ _ _ _ _ X I hn.1 hn.2 (lv_sub hl [1, 0] rfl)
  · refine lv_icmp_ge (tgt := 22) hx hb dX8_worldsOfAll_6 (by decide) (fun n => absurd n c1) (fun _ => ?_)
    obtain ⟨x1, h2, hf⟩ := s_bind hf
    obtain ⟨σ2, h3, hf⟩ := s_bind hf
    cases hf
    have k : s_V G (d + 4) M_X8_worldsOfAll vs0 σ0 Y_X8_worldsOfAll (2, [.ref v0, .int (v1 + 1)], σ2) (e_V r) := k
    have le4 : s_le σ2 (e_V r).2 := k.1
    refine lv_aload_n hx hb dX8_worldsOfAll_9 rfl (lv_at hl 0 rfl) ?_
    refine r_gr X I fl_X8_53 h2 dX8_worldsOfAll_10 ?_
    refine lv_iload_n hx hb dX8_worldsOfAll_13 rfl (lv_at hl 1 rfl) ?_
    refine lv_iconst (v := 0) hx hb dX8_worldsOfAll_14 (by decide) ?_
    refine r_iast X I h3 dX8_worldsOfAll_15 (fun H locs I => ?_)
    have hn := s_k2 (s_si_2 h3) hn
    refine lv_iinc (v := (v1 + 1)) (lv' := [(1, .int (v1 + 1)), (0, .ref v0)]) hx hb dX8_worldsOfAll_16 hl (k := 1) rfl rfl (by decide) rfl (fun ls hl => ?_)
    refine lv_goto (tgt := 2) hx hb dX8_worldsOfAll_19 (by decide) ?_
    exact k.2 p e s m below meth c _ _ _ _ _ X I hn.1 hn.2 (lv_sub hl [1, 0] rfl)
set_option maxRecDepth 100000 in
set_option maxHeartbeats 4000000 in
theorem v_X8_worldsOfAll_24 {G : sG} {d : Nat} {vs0 : List Value} {σ0 : sS} {v0 : Nat} {v1 : Int32} {σ : sS} {z : sZ Unit} {r : Unit × sS} (hf : T_X8_worldsOfAll_24 v0 v1 σ = some z) (k : s_K G (d + 4) M_X8_worldsOfAll vs0 σ0 Y_X8_worldsOfAll e_V z r) : s_V G (d + 4) M_X8_worldsOfAll vs0 σ0 Y_X8_worldsOfAll (24, [.ref v0, .int v1], σ) (e_V r) := by
  have le0 : s_le σ (e_V r).2 := s_lek hem_V (l_X8_worldsOfAll_24 hf) k
  refine ⟨le0, ?_⟩
  intro p e s m below meth c H locs cells slots ls X I hn1 hn2 hl
  have hn : cells + σ0.2.1 ≤ σ.2.1 ∧ slots + σ0.2.2.1 ≤ σ.2.2.1 := ⟨hn1, hn2⟩
  have hl : lv_has ls 3 [(0, .ref v0), (1, .int v1)] := hl
  have hx := X.1
  have hb : c.code = cX8_worldsOfAll := X.2.1
  have hown : s.vm.findClass RX8 = some m.cls := X.2.2.2.2.2.1
  have hts := X.2.2.2.2.2.2.1
  refine W.eq (g2 := F0 m 24 ls []) rfl ?_
  unfold T_X8_worldsOfAll_24 at hf
  obtain ⟨q1, h1, hf⟩ := s_bind hf
  have le2 : s_le q1.2 (e_V r).2 := by
    refine s_lek hem_V ?_ k
    rcases s_ite hf with ⟨-, hf⟩ | ⟨-, hf⟩
    · cases hf
      exact s_le.rf
    · cases hf
      exact s_le.rf
  refine lv_iload_n hx hb dX8_worldsOfAll_24 rfl (lv_at hl 1 rfl) ?_
  refine lv_aload_n hx hb dX8_worldsOfAll_25 rfl (lv_at hl 0 rfl) ?_
  refine r_callV (Y := M_X8_formulas) (v := some (.int q1.1)) X I w_1813 my_X8_formulas (by omega) (t_X8_formulas (G := G) (d := d + 2) h1) (b_X8_formulas h1) rfl rfl hl.1 rfl (Nat.le_of_ble_eq_true rfl) hn le2 dX8_worldsOfAll_26 (fun H locs cells slots I hn1 hn2 => ?_)
  have I : s_I G q1.2 s H locs := I
  have hn : cells + σ0.2.1 ≤ q1.2.2.1 ∧ slots + σ0.2.2.1 ≤ q1.2.2.2.1 := ⟨hn1, hn2⟩
  rcases s_ite hf with ⟨c3, hf⟩ | ⟨c3, hf⟩
  · refine lv_icmp_ge (tgt := 90) hx hb dX8_worldsOfAll_29 (by decide) (fun _ => ?_) (fun n => absurd c3 n)
    cases hf
    have k : _ = r := k
    subst k
    exact r_vret X I rfl rfl hn dX8_worldsOfAll_90
  · refine lv_icmp_ge (tgt := 90) hx hb dX8_worldsOfAll_29 (by decide) (fun n => absurd n c3) (fun _ => ?_)
    cases hf
    have k : s_V G (d + 4) M_X8_worldsOfAll vs0 σ0 Y_X8_worldsOfAll (34, [.ref v0, .int v1, .int 0], q1.2) (e_V r) := k
    refine lv_iconst (v := 0) hx hb dX8_worldsOfAll_32 (by decide) ?_
    refine lv_istore_n (lv' := [(2, .int 0), (0, .ref v0), (1, .int v1)]) hx hb dX8_worldsOfAll_33 rfl hl (by decide) rfl (fun ls hl => ?_)
    exact k.2 p e s m below meth c _ _ _ _ _ X I hn.1 hn.2 (lv_sub hl [1, 2, 0] rfl)
set_option maxRecDepth 100000 in
set_option maxHeartbeats 4000000 in
theorem v_X8_worldsOfAll_34 {G : sG} {d : Nat} {vs0 : List Value} {σ0 : sS} {v0 : Nat} {v1 : Int32} {v2 : Int32} {σ : sS} {z : sZ Unit} {r : Unit × sS} (hf : T_X8_worldsOfAll_34 v0 v1 v2 σ = some z) (k : s_K G (d + 4) M_X8_worldsOfAll vs0 σ0 Y_X8_worldsOfAll e_V z r) : s_V G (d + 4) M_X8_worldsOfAll vs0 σ0 Y_X8_worldsOfAll (34, [.ref v0, .int v1, .int v2], σ) (e_V r) := by
  have le0 : s_le σ (e_V r).2 := s_lek hem_V (l_X8_worldsOfAll_34 hf) k
  refine ⟨le0, ?_⟩
  intro p e s m below meth c H locs cells slots ls X I hn1 hn2 hl
  have hn : cells + σ0.2.1 ≤ σ.2.1 ∧ slots + σ0.2.2.1 ≤ σ.2.2.1 := ⟨hn1, hn2⟩
  have hl : lv_has ls 3 [(0, .ref v0), (1, .int v1), (2, .int v2)] := hl
  have hx := X.1
  have hb : c.code = cX8_worldsOfAll := X.2.1
  have hown : s.vm.findClass RX8 = some m.cls := X.2.2.2.2.2.1
  have hts := X.2.2.2.2.2.2.1
  refine W.eq (g2 := F0 m 34 ls []) rfl ?_
  unfold T_X8_worldsOfAll_34 at hf
  obtain ⟨q1, h1, hf⟩ := s_bind hf
  have le2 : s_le q1.2 (e_V r).2 := by
    refine s_lek hem_V ?_ k
    rcases s_ite hf with ⟨-, hf⟩ | ⟨-, hf⟩
    · cases hf
      exact s_le.rf
    · obtain ⟨x2, -, hf⟩ := s_bind hf
      obtain ⟨x3, -, hf⟩ := s_bind hf
      obtain ⟨q4, hh, hf⟩ := s_bind hf
      refine s_lz.tr (l_X8_isTrue hh) ?_
      rcases s_ite hf with ⟨-, hf⟩ | ⟨-, hf⟩
      · cases hf
        exact s_le.rf
      · cases hf
        exact s_le.rf
  refine lv_iload_n hx hb dX8_worldsOfAll_34 rfl (lv_at hl 2 rfl) ?_
  refine lv_aload_n hx hb dX8_worldsOfAll_35 rfl (lv_at hl 0 rfl) ?_
  refine r_callV (Y := M_X8_worldsMany) (v := some (.int q1.1)) X I w_1943 my_X8_worldsMany (by omega) (t_X8_worldsMany (G := G) (d := d + 1) h1) (b_X8_worldsMany h1) rfl rfl hl.1 rfl (Nat.le_of_ble_eq_true rfl) hn le2 dX8_worldsOfAll_36 (fun H locs cells slots I hn1 hn2 => ?_)
  have I : s_I G q1.2 s H locs := I
  have hn : cells + σ0.2.1 ≤ q1.2.2.1 ∧ slots + σ0.2.2.1 ≤ q1.2.2.2.1 := ⟨hn1, hn2⟩
  rcases s_ite hf with ⟨c3, hf⟩ | ⟨c3, hf⟩
  · refine lv_icmp_ge (tgt := 84) hx hb dX8_worldsOfAll_39 (by decide) (fun _ => ?_) (fun n => absurd c3 n)
    cases hf
    have k : s_V G (d + 4) M_X8_worldsOfAll vs0 σ0 Y_X8_worldsOfAll (24, [.ref v0, .int (v1 + 1)], q1.2) (e_V r) := k
    refine lv_iinc (v := (v1 + 1)) (lv' := [(1, .int (v1 + 1)), (0, .ref v0), (2, .int v2)]) hx hb dX8_worldsOfAll_84 hl (k := 1) rfl rfl (by decide) rfl (fun ls hl => ?_)
    refine lv_goto (tgt := 24) hx hb dX8_worldsOfAll_87 (by decide) ?_
    exact k.2 p e s m below meth c _ _ _ _ _ X I hn.1 hn.2 (lv_sub hl [1, 0] rfl)
  · refine lv_icmp_ge (tgt := 84) hx hb dX8_worldsOfAll_39 (by decide) (fun n => absurd n c3) (fun _ => ?_)
    obtain ⟨x2, h4, hf⟩ := s_bind hf
    obtain ⟨x3, h5, hf⟩ := s_bind hf
    obtain ⟨q4, h6, hf⟩ := s_bind hf
    have le7 : s_le q4.2 (e_V r).2 := by
      refine s_lek hem_V ?_ k
      rcases s_ite hf with ⟨-, hf⟩ | ⟨-, hf⟩
      · cases hf
        exact s_le.rf
      · cases hf
        exact s_le.rf
    refine lv_aload_n hx hb dX8_worldsOfAll_42 rfl (lv_at hl 0 rfl) ?_
    refine r_gr X I fl_X8_53 h4 dX8_worldsOfAll_43 ?_
    refine lv_bipush (v := 32) hx hb dX8_worldsOfAll_46 (by decide) ?_
    refine lv_iload_n hx hb dX8_worldsOfAll_48 rfl (lv_at hl 1 rfl) ?_
    refine lv_imul hx hb dX8_worldsOfAll_49 ?_
    refine lv_iload_n hx hb dX8_worldsOfAll_50 rfl (lv_at hl 2 rfl) ?_
    refine lv_bipush (v := 32) hx hb dX8_worldsOfAll_51 (by decide) ?_
    refine lv_idiv hx hb dX8_worldsOfAll_53 (by decide) ?_
    refine lv_iadd hx hb dX8_worldsOfAll_54 ?_
    refine lv_dup2_11 hx hb dX8_worldsOfAll_55 rfl rfl ?_
    refine r_iald X I h5 dX8_worldsOfAll_56 ?_
    refine lv_aload_n hx hb dX8_worldsOfAll_57 rfl (lv_at hl 0 rfl) ?_
    refine lv_iload_n hx hb dX8_worldsOfAll_58 rfl (lv_at hl 1 rfl) ?_
    refine lv_iload_n hx hb dX8_worldsOfAll_59 rfl (lv_at hl 2 rfl) ?_
    refine r_callV (Y := M_X8_isTrue) (v := some (.int q4.1)) X I w_1947 my_X8_isTrue (by omega) (t_X8_isTrue (G := G) (d := d + 0) h6) (b_X8_isTrue h6) rfl rfl hl.1 rfl (Nat.le_of_ble_eq_true rfl) hn le7 dX8_worldsOfAll_60 (fun H locs cells slots I hn1 hn2 => ?_)
    have I : s_I G q4.2 s H locs := I
    have hn : cells + σ0.2.1 ≤ q4.2.2.1 ∧ slots + σ0.2.2.1 ≤ q4.2.2.2.1 := ⟨hn1, hn2⟩
    rcases s_ite hf with ⟨c8, hf⟩ | ⟨c8, hf⟩
    · refine lv_if_eq (tgt := 75) hx hb dX8_worldsOfAll_63 (by decide) (fun _ => ?_) (fun n => absurd c8 n)
      cases hf
      have k : s_V G (d + 4) M_X8_worldsOfAll vs0 σ0 Y_X8_worldsOfAll (76, [.ref v0, .int v1, .int v2, .int 0, .int x3, .int ((32 * v1) + (v2 / 32)), .ref x2], q4.2) (e_V r) := k
      refine lv_iconst (v := 0) hx hb dX8_worldsOfAll_75 (by decide) ?_
      exact k.2 p e s m below meth c _ _ _ _ _ X I hn.1 hn.2 (lv_sub hl [0, 1, 2] rfl)
    · refine lv_if_eq (tgt := 75) hx hb dX8_worldsOfAll_63 (by decide) (fun n => absurd n c8) (fun _ => ?_)
      cases hf
      have k : s_V G (d + 4) M_X8_worldsOfAll vs0 σ0 Y_X8_worldsOfAll (76, [.ref v0, .int v1, .int v2, .int (1 <<< ((v2 - v2 / 32 * 32) &&& 31)), .int x3, .int ((32 * v1) + (v2 / 32)), .ref x2], q4.2) (e_V r) := k
      refine lv_iconst (v := 1) hx hb dX8_worldsOfAll_66 (by decide) ?_
      refine lv_iload_n hx hb dX8_worldsOfAll_67 rfl (lv_at hl 2 rfl) ?_
      refine lv_bipush (v := 32) hx hb dX8_worldsOfAll_68 (by decide) ?_
      refine lv_irem hx hb dX8_worldsOfAll_70 (by decide) ?_
      refine lv_ishl hx hb dX8_worldsOfAll_71 ?_
      refine lv_goto (tgt := 76) hx hb dX8_worldsOfAll_72 (by decide) ?_
      exact k.2 p e s m below meth c _ _ _ _ _ X I hn.1 hn.2 (lv_sub hl [0, 1, 2] rfl)
set_option maxRecDepth 100000 in
set_option maxHeartbeats 4000000 in
theorem v_X8_worldsOfAll_76 {G : sG} {d : Nat} {vs0 : List Value} {σ0 : sS} {v0 : Nat} {v1 : Int32} {v2 : Int32} {w0 : Int32} {w1 : Int32} {w2 : Int32} {w3 : Nat} {σ : sS} {z : sZ Unit} {r : Unit × sS} (hf : T_X8_worldsOfAll_76 v0 v1 v2 w0 w1 w2 w3 σ = some z) (k : s_K G (d + 4) M_X8_worldsOfAll vs0 σ0 Y_X8_worldsOfAll e_V z r) : s_V G (d + 4) M_X8_worldsOfAll vs0 σ0 Y_X8_worldsOfAll (76, [.ref v0, .int v1, .int v2, .int w0, .int w1, .int w2, .ref w3], σ) (e_V r) := by
  have le0 : s_le σ (e_V r).2 := s_lek hem_V (l_X8_worldsOfAll_76 hf) k
  refine ⟨le0, ?_⟩
  intro p e s m below meth c H locs cells slots ls X I hn1 hn2 hl
  have hn : cells + σ0.2.1 ≤ σ.2.1 ∧ slots + σ0.2.2.1 ≤ σ.2.2.1 := ⟨hn1, hn2⟩
  have hl : lv_has ls 3 [(0, .ref v0), (1, .int v1), (2, .int v2)] := hl
  have hx := X.1
  have hb : c.code = cX8_worldsOfAll := X.2.1
  have hown : s.vm.findClass RX8 = some m.cls := X.2.2.2.2.2.1
  have hts := X.2.2.2.2.2.2.1
  refine W.eq (g2 := F0 m 76 ls [.int w0, .int w1, .int w2, .ref w3]) rfl ?_
  unfold T_X8_worldsOfAll_76 at hf
  obtain ⟨σ1, h1, hf⟩ := s_bind hf
  cases hf
  have k : s_V G (d + 4) M_X8_worldsOfAll vs0 σ0 Y_X8_worldsOfAll (34, [.ref v0, .int v1, .int (v2 + 1)], σ1) (e_V r) := k
  have le2 : s_le σ1 (e_V r).2 := k.1
  refine lv_ior hx hb dX8_worldsOfAll_76 ?_
  refine r_iast X I h1 dX8_worldsOfAll_77 (fun H locs I => ?_)
  have hn := s_k2 (s_si_2 h1) hn
  refine lv_iinc (v := (v2 + 1)) (lv' := [(2, .int (v2 + 1)), (0, .ref v0), (1, .int v1)]) hx hb dX8_worldsOfAll_78 hl (k := 2) rfl rfl (by decide) rfl (fun ls hl => ?_)
  refine lv_goto (tgt := 34) hx hb dX8_worldsOfAll_81 (by decide) ?_
  exact k.2 p e s m below meth c _ _ _ _ _ X I hn.1 hn.2 (lv_sub hl [1, 2, 0] rfl)
theorem v_X8_worldsOfAll {G : sG} {d : Nat} {vs0 : List Value} {σ0 : sS} {x : sL} {z : sZ Unit} {r : Unit × sS} (hs : S_X8_worldsOfAll x = some z) (k : s_K G (d + 4) M_X8_worldsOfAll vs0 σ0 Y_X8_worldsOfAll e_V z r) : s_V G (d + 4) M_X8_worldsOfAll vs0 σ0 Y_X8_worldsOfAll x (e_V r) := by
  obtain ⟨pc, vs, σ⟩ := x
  unfold S_X8_worldsOfAll at hs
  dsimp only at hs
  rcases s_ite hs with ⟨c, hs⟩ | ⟨-, hs⟩
  · subst c
    unfold U_X8_worldsOfAll_0 at hs
    obtain ⟨a0, g0, hs⟩ := s_bind hs
    obtain ⟨u9, ge, hs⟩ := s_bind hs
    rw [g_r_to g0, g_e_to ge]
    exact v_X8_worldsOfAll_0 hs k
  rcases s_ite hs with ⟨c, hs⟩ | ⟨-, hs⟩
  · subst c
    unfold U_X8_worldsOfAll_2 at hs
    obtain ⟨a0, g0, hs⟩ := s_bind hs
    obtain ⟨a1, g1, hs⟩ := s_bind hs
    obtain ⟨u9, ge, hs⟩ := s_bind hs
    rw [g_r_to g0, g_i_to g1, g_e_to ge]
    exact v_X8_worldsOfAll_2 hs k
  rcases s_ite hs with ⟨c, hs⟩ | ⟨-, hs⟩
  · subst c
    unfold U_X8_worldsOfAll_24 at hs
    obtain ⟨a0, g0, hs⟩ := s_bind hs
    obtain ⟨a1, g1, hs⟩ := s_bind hs
    obtain ⟨u9, ge, hs⟩ := s_bind hs
    rw [g_r_to g0, g_i_to g1, g_e_to ge]
    exact v_X8_worldsOfAll_24 hs k
  rcases s_ite hs with ⟨c, hs⟩ | ⟨-, hs⟩
  · subst c
    unfold U_X8_worldsOfAll_34 at hs
    obtain ⟨a0, g0, hs⟩ := s_bind hs
    obtain ⟨a1, g1, hs⟩ := s_bind hs
    obtain ⟨a2, g2, hs⟩ := s_bind hs
    obtain ⟨u9, ge, hs⟩ := s_bind hs
    rw [g_r_to g0, g_i_to g1, g_i_to g2, g_e_to ge]
    exact v_X8_worldsOfAll_34 hs k
  rcases s_ite hs with ⟨c, hs⟩ | ⟨-, hs⟩
  · subst c
    unfold U_X8_worldsOfAll_76 at hs
    obtain ⟨a0, g0, hs⟩ := s_bind hs
    obtain ⟨a1, g1, hs⟩ := s_bind hs
    obtain ⟨a2, g2, hs⟩ := s_bind hs
    obtain ⟨a3, g3, hs⟩ := s_bind hs
    obtain ⟨a4, g4, hs⟩ := s_bind hs
    obtain ⟨a5, g5, hs⟩ := s_bind hs
    obtain ⟨a6, g6, hs⟩ := s_bind hs
    obtain ⟨u9, ge, hs⟩ := s_bind hs
    rw [g_r_to g0, g_i_to g1, g_i_to g2, g_i_to g3, g_i_to g4, g_i_to g5, g_r_to g6, g_e_to ge]
    exact v_X8_worldsOfAll_76 hs k
  cases hs
theorem t_X8_worldsOfAll {G : sG} {d : Nat} {v0 : Nat} {σ : sS} {q : Unit × sS} (h : F_X8_worldsOfAll v0 σ = some q) : s_T G (d + 4) M_X8_worldsOfAll [.ref v0] σ (e_V q) := by
  unfold F_X8_worldsOfAll at h
  obtain ⟨-, -, h⟩ := s_bind h
  exact s_ofV rfl (by decide) (Nat.le_of_ble_eq_true rfl) rfl rfl (s_run_ind (V := fun x r => s_V G (d + 4) M_X8_worldsOfAll [.ref v0] σ Y_X8_worldsOfAll x (e_V r)) (fun x z r hs hk => v_X8_worldsOfAll hs (by cases z <;> exact hk)) h)
/-! X8_isEnough -/
noncomputable def T_X8_isEnough_0 (v0 : Nat) (v1 : Int32) (v2 : Int32) (σ : sS) : Option (sZ Int32) :=
  some (.inl (8, [.ref v0, .int v1, .int v2, .int 0, .int 1, .int 0], σ))
noncomputable def U_X8_isEnough_0 (vs : List Value) (σ : sS) : Option (sZ Int32) := (g_r vs).bind fun a0 => (g_i a0.2).bind fun a1 => (g_i a1.2).bind fun a2 => (g_e a2.2).bind fun _ => T_X8_isEnough_0 a0.1 a1.1 a2.1 σ
noncomputable def T_X8_isEnough_8 (v0 : Nat) (v1 : Int32) (v2 : Int32) (v3 : Int32) (v4 : Int32) (v5 : Int32) (σ : sS) : Option (sZ Int32) :=
  if (32 : Int32) ≤ v5 then (if v3 = 0 then (some (.inr (0, σ)))
  else (if v4 = 0 then (some (.inr (0, σ)))
  else (some (.inr (1, σ)))))
  else ((s_fr σ v0 8 21).bind fun x1 =>
  (s_ai σ x1 ((32 * (30 + v1)) + v5)).bind fun x2 =>
  if v3 = 0 then (if x2 = 0 then (some (.inl (46, [.ref v0, .int v1, .int v2, .int v4, .int v5, .int x2, .int 0], σ)))
  else (some (.inl (41, [.ref v0, .int v1, .int v2, .int v4, .int v5, .int x2], σ))))
  else (some (.inl (41, [.ref v0, .int v1, .int v2, .int v4, .int v5, .int x2], σ))))
noncomputable def U_X8_isEnough_8 (vs : List Value) (σ : sS) : Option (sZ Int32) := (g_r vs).bind fun a0 => (g_i a0.2).bind fun a1 => (g_i a1.2).bind fun a2 => (g_i a2.2).bind fun a3 => (g_i a3.2).bind fun a4 => (g_i a4.2).bind fun a5 => (g_e a5.2).bind fun _ => T_X8_isEnough_8 a0.1 a1.1 a2.1 a3.1 a4.1 a5.1 σ
noncomputable def T_X8_isEnough_41 (v0 : Nat) (v1 : Int32) (v2 : Int32) (v4 : Int32) (v5 : Int32) (v6 : Int32) (σ : sS) : Option (sZ Int32) :=
  some (.inl (46, [.ref v0, .int v1, .int v2, .int v4, .int v5, .int v6, .int 1], σ))
noncomputable def U_X8_isEnough_41 (vs : List Value) (σ : sS) : Option (sZ Int32) := (g_r vs).bind fun a0 => (g_i a0.2).bind fun a1 => (g_i a1.2).bind fun a2 => (g_i a2.2).bind fun a3 => (g_i a3.2).bind fun a4 => (g_i a4.2).bind fun a5 => (g_e a5.2).bind fun _ => T_X8_isEnough_41 a0.1 a1.1 a2.1 a3.1 a4.1 a5.1 σ
noncomputable def T_X8_isEnough_46 (v0 : Nat) (v1 : Int32) (v2 : Int32) (v4 : Int32) (v5 : Int32) (v6 : Int32) (w0 : Int32) (σ : sS) : Option (sZ Int32) :=
  if v4 = 0 then (some (.inl (76, [.ref v0, .int v1, .int v2, .int w0, .int v5], σ)))
  else ((s_fr σ v0 8 21).bind fun x1 =>
  (s_ai σ x1 ((32 * v2) + v5)).bind fun x2 =>
  if (v6 &&& (x2 ^^^ (-1))) = 0 then (some (.inl (77, [.ref v0, .int v1, .int v2, .int w0, .int v5, .int 1], σ)))
  else (some (.inl (76, [.ref v0, .int v1, .int v2, .int w0, .int v5], σ))))
noncomputable def U_X8_isEnough_46 (vs : List Value) (σ : sS) : Option (sZ Int32) := (g_r vs).bind fun a0 => (g_i a0.2).bind fun a1 => (g_i a1.2).bind fun a2 => (g_i a2.2).bind fun a3 => (g_i a3.2).bind fun a4 => (g_i a4.2).bind fun a5 => (g_i a5.2).bind fun a6 => (g_e a6.2).bind fun _ => T_X8_isEnough_46 a0.1 a1.1 a2.1 a3.1 a4.1 a5.1 a6.1 σ
noncomputable def T_X8_isEnough_76 (v0 : Nat) (v1 : Int32) (v2 : Int32) (v3 : Int32) (v5 : Int32) (σ : sS) : Option (sZ Int32) :=
  some (.inl (77, [.ref v0, .int v1, .int v2, .int v3, .int v5, .int 0], σ))
noncomputable def U_X8_isEnough_76 (vs : List Value) (σ : sS) : Option (sZ Int32) := (g_r vs).bind fun a0 => (g_i a0.2).bind fun a1 => (g_i a1.2).bind fun a2 => (g_i a2.2).bind fun a3 => (g_i a3.2).bind fun a4 => (g_e a4.2).bind fun _ => T_X8_isEnough_76 a0.1 a1.1 a2.1 a3.1 a4.1 σ
noncomputable def T_X8_isEnough_77 (v0 : Nat) (v1 : Int32) (v2 : Int32) (v3 : Int32) (v5 : Int32) (w0 : Int32) (σ : sS) : Option (sZ Int32) :=
  some (.inl (8, [.ref v0, .int v1, .int v2, .int v3, .int w0, .int (v5 + 1)], σ))
noncomputable def U_X8_isEnough_77 (vs : List Value) (σ : sS) : Option (sZ Int32) := (g_r vs).bind fun a0 => (g_i a0.2).bind fun a1 => (g_i a1.2).bind fun a2 => (g_i a2.2).bind fun a3 => (g_i a3.2).bind fun a4 => (g_i a4.2).bind fun a5 => (g_e a5.2).bind fun _ => T_X8_isEnough_77 a0.1 a1.1 a2.1 a3.1 a4.1 a5.1 σ
noncomputable def S_X8_isEnough (x : sL) : Option (sZ Int32) := if x.1 = 0 then U_X8_isEnough_0 x.2.1 x.2.2 else if x.1 = 8 then U_X8_isEnough_8 x.2.1 x.2.2 else if x.1 = 41 then U_X8_isEnough_41 x.2.1 x.2.2 else if x.1 = 46 then U_X8_isEnough_46 x.2.1 x.2.2 else if x.1 = 76 then U_X8_isEnough_76 x.2.1 x.2.2 else if x.1 = 77 then U_X8_isEnough_77 x.2.1 x.2.2 else none
def Y_X8_isEnough (pc : Nat) : List Nat := if pc = 0 then [0, 1, 2] else if pc = 8 then [0, 1, 2, 3, 4, 5] else if pc = 41 then [0, 1, 2, 4, 5, 6] else if pc = 46 then [0, 1, 2, 4, 5, 6] else if pc = 76 then [0, 1, 2, 3, 5] else if pc = 77 then [0, 1, 2, 3, 5] else []
noncomputable def F_X8_isEnough (v0 : Nat) (v1 : Int32) (v2 : Int32) (σ : sS) : Option (Int32 × sS) := (s_is σ v0 8).bind fun _ => s_run S_X8_isEnough (0, [.ref v0, .int v1, .int v2], σ)
theorem l_X8_isEnough_0 {v0 : Nat} {v1 : Int32} {v2 : Int32} {σ : sS} {z : sZ Int32} (hf : T_X8_isEnough_0 v0 v1 v2 σ = some z) : s_lz σ z := by
  unfold T_X8_isEnough_0 at hf
  cases hf
  exact s_le.rf
theorem l_X8_isEnough_8 {v0 : Nat} {v1 : Int32} {v2 : Int32} {v3 : Int32} {v4 : Int32} {v5 : Int32} {σ : sS} {z : sZ Int32} (hf : T_X8_isEnough_8 v0 v1 v2 v3 v4 v5 σ = some z) : s_lz σ z := by
  unfold T_X8_isEnough_8 at hf
  rcases s_ite hf with ⟨-, hf⟩ | ⟨-, hf⟩
  · rcases s_ite hf with ⟨-, hf⟩ | ⟨-, hf⟩
    · cases hf
      exact s_le.rf
    · rcases s_ite hf with ⟨-, hf⟩ | ⟨-, hf⟩
      · cases hf
        exact s_le.rf
      · cases hf
        exact s_le.rf
  · obtain ⟨x1, -, hf⟩ := s_bind hf
    obtain ⟨x2, -, hf⟩ := s_bind hf
    rcases s_ite hf with ⟨-, hf⟩ | ⟨-, hf⟩
    · rcases s_ite hf with ⟨-, hf⟩ | ⟨-, hf⟩
      · cases hf
        exact s_le.rf
      · cases hf
        exact s_le.rf
    · cases hf
      exact s_le.rf
theorem l_X8_isEnough_41 {v0 : Nat} {v1 : Int32} {v2 : Int32} {v4 : Int32} {v5 : Int32} {v6 : Int32} {σ : sS} {z : sZ Int32} (hf : T_X8_isEnough_41 v0 v1 v2 v4 v5 v6 σ = some z) : s_lz σ z := by
  unfold T_X8_isEnough_41 at hf
  cases hf
  exact s_le.rf
theorem l_X8_isEnough_46 {v0 : Nat} {v1 : Int32} {v2 : Int32} {v4 : Int32} {v5 : Int32} {v6 : Int32} {w0 : Int32} {σ : sS} {z : sZ Int32} (hf : T_X8_isEnough_46 v0 v1 v2 v4 v5 v6 w0 σ = some z) : s_lz σ z := by
  unfold T_X8_isEnough_46 at hf
  rcases s_ite hf with ⟨-, hf⟩ | ⟨-, hf⟩
  · cases hf
    exact s_le.rf
  · obtain ⟨x1, -, hf⟩ := s_bind hf
    obtain ⟨x2, -, hf⟩ := s_bind hf
    rcases s_ite hf with ⟨-, hf⟩ | ⟨-, hf⟩
    · cases hf
      exact s_le.rf
    · cases hf
      exact s_le.rf
theorem l_X8_isEnough_76 {v0 : Nat} {v1 : Int32} {v2 : Int32} {v3 : Int32} {v5 : Int32} {σ : sS} {z : sZ Int32} (hf : T_X8_isEnough_76 v0 v1 v2 v3 v5 σ = some z) : s_lz σ z := by
  unfold T_X8_isEnough_76 at hf
  cases hf
  exact s_le.rf
theorem l_X8_isEnough_77 {v0 : Nat} {v1 : Int32} {v2 : Int32} {v3 : Int32} {v5 : Int32} {w0 : Int32} {σ : sS} {z : sZ Int32} (hf : T_X8_isEnough_77 v0 v1 v2 v3 v5 w0 σ = some z) : s_lz σ z := by
  unfold T_X8_isEnough_77 at hf
  cases hf
  exact s_le.rf
theorem l_X8_isEnough_s {x : sL} {z : sZ Int32} (hs : S_X8_isEnough x = some z) : s_lz x.2.2 z := by
  obtain ⟨pc, vs, σ⟩ := x
  unfold S_X8_isEnough at hs
  dsimp only at hs ⊢
  rcases s_ite hs with ⟨c, hs⟩ | ⟨-, hs⟩
  · subst c
    unfold U_X8_isEnough_0 at hs
    obtain ⟨a0, g0, hs⟩ := s_bind hs
    obtain ⟨a1, g1, hs⟩ := s_bind hs
    obtain ⟨a2, g2, hs⟩ := s_bind hs
    obtain ⟨u9, ge, hs⟩ := s_bind hs
    exact l_X8_isEnough_0 hs
  rcases s_ite hs with ⟨c, hs⟩ | ⟨-, hs⟩
  · subst c
    unfold U_X8_isEnough_8 at hs
    obtain ⟨a0, g0, hs⟩ := s_bind hs
    obtain ⟨a1, g1, hs⟩ := s_bind hs
    obtain ⟨a2, g2, hs⟩ := s_bind hs
    obtain ⟨a3, g3, hs⟩ := s_bind hs
    obtain ⟨a4, g4, hs⟩ := s_bind hs
    obtain ⟨a5, g5, hs⟩ := s_bind hs
    obtain ⟨u9, ge, hs⟩ := s_bind hs
    exact l_X8_isEnough_8 hs
  rcases s_ite hs with ⟨c, hs⟩ | ⟨-, hs⟩
  · subst c
    unfold U_X8_isEnough_41 at hs
    obtain ⟨a0, g0, hs⟩ := s_bind hs
    obtain ⟨a1, g1, hs⟩ := s_bind hs
    obtain ⟨a2, g2, hs⟩ := s_bind hs
    obtain ⟨a3, g3, hs⟩ := s_bind hs
    obtain ⟨a4, g4, hs⟩ := s_bind hs
    obtain ⟨a5, g5, hs⟩ := s_bind hs
    obtain ⟨u9, ge, hs⟩ := s_bind hs
    exact l_X8_isEnough_41 hs
  rcases s_ite hs with ⟨c, hs⟩ | ⟨-, hs⟩
  · subst c
    unfold U_X8_isEnough_46 at hs
    obtain ⟨a0, g0, hs⟩ := s_bind hs
    obtain ⟨a1, g1, hs⟩ := s_bind hs
    obtain ⟨a2, g2, hs⟩ := s_bind hs
    obtain ⟨a3, g3, hs⟩ := s_bind hs
    obtain ⟨a4, g4, hs⟩ := s_bind hs
    obtain ⟨a5, g5, hs⟩ := s_bind hs
    obtain ⟨a6, g6, hs⟩ := s_bind hs
    obtain ⟨u9, ge, hs⟩ := s_bind hs
    exact l_X8_isEnough_46 hs
  rcases s_ite hs with ⟨c, hs⟩ | ⟨-, hs⟩
  · subst c
    unfold U_X8_isEnough_76 at hs
    obtain ⟨a0, g0, hs⟩ := s_bind hs
    obtain ⟨a1, g1, hs⟩ := s_bind hs
    obtain ⟨a2, g2, hs⟩ := s_bind hs
    obtain ⟨a3, g3, hs⟩ := s_bind hs
    obtain ⟨a4, g4, hs⟩ := s_bind hs
    obtain ⟨u9, ge, hs⟩ := s_bind hs
    exact l_X8_isEnough_76 hs
  rcases s_ite hs with ⟨c, hs⟩ | ⟨-, hs⟩
  · subst c
    unfold U_X8_isEnough_77 at hs
    obtain ⟨a0, g0, hs⟩ := s_bind hs
    obtain ⟨a1, g1, hs⟩ := s_bind hs
    obtain ⟨a2, g2, hs⟩ := s_bind hs
    obtain ⟨a3, g3, hs⟩ := s_bind hs
    obtain ⟨a4, g4, hs⟩ := s_bind hs
    obtain ⟨a5, g5, hs⟩ := s_bind hs
    obtain ⟨u9, ge, hs⟩ := s_bind hs
    exact l_X8_isEnough_77 hs
  cases hs
theorem l_X8_isEnough {v0 : Nat} {v1 : Int32} {v2 : Int32} {σ : sS} {q : Int32 × sS} (h : F_X8_isEnough v0 v1 v2 σ = some q) : s_le σ q.2 := by
  unfold F_X8_isEnough at h
  obtain ⟨-, -, h⟩ := s_bind h
  exact s_run_ind (V := fun x r => s_le x.2.2 r.2) (fun x z r hs hk => by
    have h9 := l_X8_isEnough_s hs
    cases z with
    | inl y => exact s_le.tr h9 hk
    | inr q => cases hk; exact h9) h
theorem b_X8_isEnough {v0 : Nat} {v1 : Int32} {v2 : Int32} {σ : sS} {q : Int32 × sS} (h : F_X8_isEnough v0 v1 v2 σ = some q) : ∃ fs, σ.1 v0 = some (.inr (8, fs)) := by
  unfold F_X8_isEnough at h
  obtain ⟨u, hu, -⟩ := s_bind h
  exact s_is_to hu
set_option maxRecDepth 100000 in
set_option maxHeartbeats 4000000 in
theorem v_X8_isEnough_0 {G : sG} {d : Nat} {vs0 : List Value} {σ0 : sS} {v0 : Nat} {v1 : Int32} {v2 : Int32} {σ : sS} {z : sZ Int32} {r : Int32 × sS} (hf : T_X8_isEnough_0 v0 v1 v2 σ = some z) (k : s_K G (d + 1) M_X8_isEnough vs0 σ0 Y_X8_isEnough e_I z r) : s_V G (d + 1) M_X8_isEnough vs0 σ0 Y_X8_isEnough (0, [.ref v0, .int v1, .int v2], σ) (e_I r) := by
  have le0 : s_le σ (e_I r).2 := s_lek hem_I (l_X8_isEnough_0 hf) k
  refine ⟨le0, ?_⟩
  intro p e s m below meth c H locs cells slots ls X I hn1 hn2 hl
  have hn : cells + σ0.2.1 ≤ σ.2.1 ∧ slots + σ0.2.2.1 ≤ σ.2.2.1 := ⟨hn1, hn2⟩
  have hl : lv_has ls 7 [(0, .ref v0), (1, .int v1), (2, .int v2)] := hl
  have hx := X.1
  have hb : c.code = cX8_isEnough := X.2.1
  have hown : s.vm.findClass RX8 = some m.cls := X.2.2.2.2.2.1
  have hts := X.2.2.2.2.2.2.1
  refine W.eq (g2 := F0 m 0 ls []) rfl ?_
  unfold T_X8_isEnough_0 at hf
  cases hf
  have k : s_V G (d + 1) M_X8_isEnough vs0 σ0 Y_X8_isEnough (8, [.ref v0, .int v1, .int v2, .int 0, .int 1, .int 0], σ) (e_I r) := k
  refine lv_iconst (v := 0) hx hb dX8_isEnough_0 (by decide) ?_
  refine lv_istore_n (lv' := [(3, .int 0), (0, .ref v0), (1, .int v1), (2, .int v2)]) hx hb dX8_isEnough_1 rfl hl (by decide) rfl (fun ls hl => ?_)
  refine lv_iconst (v := 1) hx hb dX8_isEnough_2 (by decide) ?_
  refine lv_istore (lv' := [(4, .int 1), (3, .int 0), (0, .ref v0), (1, .int v1), (2, .int v2)]) hx hb dX8_isEnough_3 hl (by decide) rfl (fun ls hl => ?_)
  refine lv_iconst (v := 0) hx hb dX8_isEnough_5 (by decide) ?_
  refine lv_istore (lv' := [(5, .int 0), (4, .int 1), (3, .int 0), (0, .ref v0), (1, .int v1), (2, .int v2)]) hx hb dX8_isEnough_6 hl (by decide) rfl (fun ls hl => ?_)
  exact k.2 p e s m below meth c _ _ _ _ _ X I hn.1 hn.2 (lv_sub hl [3, 4, 5, 2, 1, 0] rfl)
set_option maxRecDepth 100000 in
set_option maxHeartbeats 4000000 in
theorem v_X8_isEnough_8 {G : sG} {d : Nat} {vs0 : List Value} {σ0 : sS} {v0 : Nat} {v1 : Int32} {v2 : Int32} {v3 : Int32} {v4 : Int32} {v5 : Int32} {σ : sS} {z : sZ Int32} {r : Int32 × sS} (hf : T_X8_isEnough_8 v0 v1 v2 v3 v4 v5 σ = some z) (k : s_K G (d + 1) M_X8_isEnough vs0 σ0 Y_X8_isEnough e_I z r) : s_V G (d + 1) M_X8_isEnough vs0 σ0 Y_X8_isEnough (8, [.ref v0, .int v1, .int v2, .int v3, .int v4, .int v5], σ) (e_I r) := by
  have le0 : s_le σ (e_I r).2 := s_lek hem_I (l_X8_isEnough_8 hf) k
  refine ⟨le0, ?_⟩
  intro p e s m below meth c H locs cells slots ls X I hn1 hn2 hl
  have hn : cells + σ0.2.1 ≤ σ.2.1 ∧ slots + σ0.2.2.1 ≤ σ.2.2.1 := ⟨hn1, hn2⟩
  have hl : lv_has ls 7 [(0, .ref v0), (1, .int v1), (2, .int v2), (3, .int v3), (4, .int v4), (5, .int v5)] := hl
  have hx := X.1
  have hb : c.code = cX8_isEnough := X.2.1
  have hown : s.vm.findClass RX8 = some m.cls := X.2.2.2.2.2.1
  have hts := X.2.2.2.2.2.2.1
  refine W.eq (g2 := F0 m 8 ls []) rfl ?_
  unfold T_X8_isEnough_8 at hf
  refine lv_iload hx hb dX8_isEnough_8 (lv_at hl 5 rfl) ?_
  refine lv_bipush (v := 32) hx hb dX8_isEnough_10 (by decide) ?_
  rcases s_ite hf with ⟨c1, hf⟩ | ⟨c1, hf⟩
  · refine lv_icmp_ge (tgt := 85) hx hb dX8_isEnough_12 (by decide) (fun _ => ?_) (fun n => absurd c1 n)
    refine lv_iload_n hx hb dX8_isEnough_85 rfl (lv_at hl 3 rfl) ?_
    rcases s_ite hf with ⟨c2, hf⟩ | ⟨c2, hf⟩
    · refine lv_if_eq (tgt := 98) hx hb dX8_isEnough_86 (by decide) (fun _ => ?_) (fun n => absurd c2 n)
      cases hf
      have k : _ = r := k
      subst k
      refine lv_iconst (v := 0) hx hb dX8_isEnough_98 (by decide) ?_
      exact r_iret X I rfl rfl rfl hn dX8_isEnough_99
    · refine lv_if_eq (tgt := 98) hx hb dX8_isEnough_86 (by decide) (fun n => absurd n c2) (fun _ => ?_)
      refine lv_iload hx hb dX8_isEnough_89 (lv_at hl 4 rfl) ?_
      rcases s_ite hf with ⟨c3, hf⟩ | ⟨c3, hf⟩
      · refine lv_if_eq (tgt := 98) hx hb dX8_isEnough_91 (by decide) (fun _ => ?_) (fun n => absurd c3 n)
        cases hf
        have k : _ = r := k
        subst k
        refine lv_iconst (v := 0) hx hb dX8_isEnough_98 (by decide) ?_
        exact r_iret X I rfl rfl rfl hn dX8_isEnough_99
      · refine lv_if_eq (tgt := 98) hx hb dX8_isEnough_91 (by decide) (fun n => absurd n c3) (fun _ => ?_)
        cases hf
        have k : _ = r := k
        subst k
        refine lv_iconst (v := 1) hx hb dX8_isEnough_94 (by decide) ?_
        refine lv_goto (tgt := 99) hx hb dX8_isEnough_95 (by decide) ?_
        exact r_iret X I rfl rfl rfl hn dX8_isEnough_99
  · refine lv_icmp_ge (tgt := 85) hx hb dX8_isEnough_12 (by decide) (fun n => absurd n c1) (fun _ => ?_)
    obtain ⟨x1, h4, hf⟩ := s_bind hf
    obtain ⟨x2, h5, hf⟩ := s_bind hf
    refine lv_aload_n hx hb dX8_isEnough_15 rfl (lv_at hl 0 rfl) ?_
    refine r_gr X I fl_X8_53 h4 dX8_isEnough_16 ?_
    refine lv_bipush (v := 32) hx hb dX8_isEnough_19 (by decide) ?_
    refine lv_bipush (v := 30) hx hb dX8_isEnough_21 (by decide) ?_
    refine lv_iload_n hx hb dX8_isEnough_23 rfl (lv_at hl 1 rfl) ?_
    refine lv_iadd hx hb dX8_isEnough_24 ?_
    refine lv_imul hx hb dX8_isEnough_25 ?_
    refine lv_iload hx hb dX8_isEnough_26 (lv_at hl 5 rfl) ?_
    refine lv_iadd hx hb dX8_isEnough_28 ?_
    refine r_iald X I h5 dX8_isEnough_29 ?_
    refine lv_istore (lv' := [(6, .int x2), (0, .ref v0), (1, .int v1), (2, .int v2), (3, .int v3), (4, .int v4), (5, .int v5)]) hx hb dX8_isEnough_30 hl (by decide) rfl (fun ls hl => ?_)
    refine lv_iload_n hx hb dX8_isEnough_32 rfl (lv_at hl 4 rfl) ?_
    rcases s_ite hf with ⟨c6, hf⟩ | ⟨c6, hf⟩
    · refine lv_if_ne (tgt := 41) hx hb dX8_isEnough_33 (by decide) (fun n => absurd c6 n) (fun _ => ?_)
      refine lv_iload hx hb dX8_isEnough_36 (lv_at hl 0 rfl) ?_
      rcases s_ite hf with ⟨c7, hf⟩ | ⟨c7, hf⟩
      · refine lv_if_eq (tgt := 45) hx hb dX8_isEnough_38 (by decide) (fun _ => ?_) (fun n => absurd c7 n)
        cases hf
        have k : s_V G (d + 1) M_X8_isEnough vs0 σ0 Y_X8_isEnough (46, [.ref v0, .int v1, .int v2, .int v4, .int v5, .int x2, .int 0], σ) (e_I r) := k
        refine lv_iconst (v := 0) hx hb dX8_isEnough_45 (by decide) ?_
        exact k.2 p e s m below meth c _ _ _ _ _ X I hn.1 hn.2 (lv_sub hl [1, 2, 3, 5, 6, 0] rfl)
      · refine lv_if_eq (tgt := 45) hx hb dX8_isEnough_38 (by decide) (fun n => absurd n c7) (fun _ => ?_)
        cases hf
        have k : s_V G (d + 1) M_X8_isEnough vs0 σ0 Y_X8_isEnough (41, [.ref v0, .int v1, .int v2, .int v4, .int v5, .int x2], σ) (e_I r) := k
        exact k.2 p e s m below meth c _ _ _ _ _ X I hn.1 hn.2 (lv_sub hl [1, 2, 3, 5, 6, 0] rfl)
    · refine lv_if_ne (tgt := 41) hx hb dX8_isEnough_33 (by decide) (fun _ => ?_) (fun n => absurd n c6)
      cases hf
      have k : s_V G (d + 1) M_X8_isEnough vs0 σ0 Y_X8_isEnough (41, [.ref v0, .int v1, .int v2, .int v4, .int v5, .int x2], σ) (e_I r) := k
      exact k.2 p e s m below meth c _ _ _ _ _ X I hn.1 hn.2 (lv_sub hl [1, 2, 3, 5, 6, 0] rfl)
set_option maxRecDepth 100000 in
set_option maxHeartbeats 4000000 in
theorem v_X8_isEnough_41 {G : sG} {d : Nat} {vs0 : List Value} {σ0 : sS} {v0 : Nat} {v1 : Int32} {v2 : Int32} {v4 : Int32} {v5 : Int32} {v6 : Int32} {σ : sS} {z : sZ Int32} {r : Int32 × sS} (hf : T_X8_isEnough_41 v0 v1 v2 v4 v5 v6 σ = some z) (k : s_K G (d + 1) M_X8_isEnough vs0 σ0 Y_X8_isEnough e_I z r) : s_V G (d + 1) M_X8_isEnough vs0 σ0 Y_X8_isEnough (41, [.ref v0, .int v1, .int v2, .int v4, .int v5, .int v6], σ) (e_I r) := by
  have le0 : s_le σ (e_I r).2 := s_lek hem_I (l_X8_isEnough_41 hf) k
  refine ⟨le0, ?_⟩
  intro p e s m below meth c H locs cells slots ls X I hn1 hn2 hl
  have hn : cells + σ0.2.1 ≤ σ.2.1 ∧ slots + σ0.2.2.1 ≤ σ.2.2.1 := ⟨hn1, hn2⟩
  have hl : lv_has ls 7 [(0, .ref v0), (1, .int v1), (2, .int v2), (4, .int v4), (5, .int v5), (6, .int v6)] := hl
  have hx := X.1
  have hb : c.code = cX8_isEnough := X.2.1
  have hown : s.vm.findClass RX8 = some m.cls := X.2.2.2.2.2.1
  have hts := X.2.2.2.2.2.2.1
  refine W.eq (g2 := F0 m 41 ls []) rfl ?_
  unfold T_X8_isEnough_41 at hf
  cases hf
  have k : s_V G (d + 1) M_X8_isEnough vs0 σ0 Y_X8_isEnough (46, [.ref v0, .int v1, .int v2, .int v4, .int v5, .int v6, .int 1], σ) (e_I r) := k
  refine lv_iconst (v := 1) hx hb dX8_isEnough_41 (by decide) ?_
  refine lv_goto (tgt := 46) hx hb dX8_isEnough_42 (by decide) ?_
  exact k.2 p e s m below meth c _ _ _ _ _ X I hn.1 hn.2 (lv_sub hl [0, 1, 2, 3, 4, 5] rfl)
set_option maxRecDepth 100000 in
set_option maxHeartbeats 4000000 in
theorem v_X8_isEnough_46 {G : sG} {d : Nat} {vs0 : List Value} {σ0 : sS} {v0 : Nat} {v1 : Int32} {v2 : Int32} {v4 : Int32} {v5 : Int32} {v6 : Int32} {w0 : Int32} {σ : sS} {z : sZ Int32} {r : Int32 × sS} (hf : T_X8_isEnough_46 v0 v1 v2 v4 v5 v6 w0 σ = some z) (k : s_K G (d + 1) M_X8_isEnough vs0 σ0 Y_X8_isEnough e_I z r) : s_V G (d + 1) M_X8_isEnough vs0 σ0 Y_X8_isEnough (46, [.ref v0, .int v1, .int v2, .int v4, .int v5, .int v6, .int w0], σ) (e_I r) := by
  have le0 : s_le σ (e_I r).2 := s_lek hem_I (l_X8_isEnough_46 hf) k
  refine ⟨le0, ?_⟩
  intro p e s m below meth c H locs cells slots ls X I hn1 hn2 hl
  have hn : cells + σ0.2.1 ≤ σ.2.1 ∧ slots + σ0.2.2.1 ≤ σ.2.2.1 := ⟨hn1, hn2⟩
  have hl : lv_has ls 7 [(0, .ref v0), (1, .int v1), (2, .int v2), (4, .int v4), (5, .int v5), (6, .int v6)] := hl
  have hx := X.1
  have hb : c.code = cX8_isEnough := X.2.1
  have hown : s.vm.findClass RX8 = some m.cls := X.2.2.2.2.2.1
  have hts := X.2.2.2.2.2.2.1
  refine W.eq (g2 := F0 m 46 ls [.int w0]) rfl ?_
  unfold T_X8_isEnough_46 at hf
  refine lv_istore_n (lv' := [(3, .int w0), (0, .ref v0), (1, .int v1), (2, .int v2), (4, .int v4), (5, .int v5), (6, .int v6)]) hx hb dX8_isEnough_46 rfl hl (by decide) rfl (fun ls hl => ?_)
  refine lv_iload hx hb dX8_isEnough_47 (lv_at hl 4 rfl) ?_
  rcases s_ite hf with ⟨c1, hf⟩ | ⟨c1, hf⟩
  · refine lv_if_eq (tgt := 76) hx hb dX8_isEnough_49 (by decide) (fun _ => ?_) (fun n => absurd c1 n)
    cases hf
    have k : s_V G (d + 1) M_X8_isEnough vs0 σ0 Y_X8_isEnough (76, [.ref v0, .int v1, .int v2, .int w0, .int v5], σ) (e_I r) := k
    exact k.2 p e s m below meth c _ _ _ _ _ X I hn.1 hn.2 (lv_sub hl [1, 2, 3, 0, 5] rfl)
  · refine lv_if_eq (tgt := 76) hx hb dX8_isEnough_49 (by decide) (fun n => absurd n c1) (fun _ => ?_)
    obtain ⟨x1, h2, hf⟩ := s_bind hf
    obtain ⟨x2, h3, hf⟩ := s_bind hf
    refine lv_iload hx hb dX8_isEnough_52 (lv_at hl 6 rfl) ?_
    refine lv_aload_n hx hb dX8_isEnough_54 rfl (lv_at hl 1 rfl) ?_
    refine r_gr X I fl_X8_53 h2 dX8_isEnough_55 ?_
    refine lv_bipush (v := 32) hx hb dX8_isEnough_58 (by decide) ?_
    refine lv_iload_n hx hb dX8_isEnough_60 rfl (lv_at hl 3 rfl) ?_
    refine lv_imul hx hb dX8_isEnough_61 ?_
    refine lv_iload hx hb dX8_isEnough_62 (lv_at hl 5 rfl) ?_
    refine lv_iadd hx hb dX8_isEnough_64 ?_
    refine r_iald X I h3 dX8_isEnough_65 ?_
    refine lv_iconst (v := (-1)) hx hb dX8_isEnough_66 (by decide) ?_
    refine lv_ixor hx hb dX8_isEnough_67 ?_
    refine lv_iand hx hb dX8_isEnough_68 ?_
    rcases s_ite hf with ⟨c4, hf⟩ | ⟨c4, hf⟩
    · refine lv_if_ne (tgt := 76) hx hb dX8_isEnough_69 (by decide) (fun n => absurd c4 n) (fun _ => ?_)
      cases hf
      have k : s_V G (d + 1) M_X8_isEnough vs0 σ0 Y_X8_isEnough (77, [.ref v0, .int v1, .int v2, .int w0, .int v5, .int 1], σ) (e_I r) := k
      refine lv_iconst (v := 1) hx hb dX8_isEnough_72 (by decide) ?_
      refine lv_goto (tgt := 77) hx hb dX8_isEnough_73 (by decide) ?_
      exact k.2 p e s m below meth c _ _ _ _ _ X I hn.1 hn.2 (lv_sub hl [1, 2, 3, 0, 5] rfl)
    · refine lv_if_ne (tgt := 76) hx hb dX8_isEnough_69 (by decide) (fun _ => ?_) (fun n => absurd n c4)
      cases hf
      have k : s_V G (d + 1) M_X8_isEnough vs0 σ0 Y_X8_isEnough (76, [.ref v0, .int v1, .int v2, .int w0, .int v5], σ) (e_I r) := k
      exact k.2 p e s m below meth c _ _ _ _ _ X I hn.1 hn.2 (lv_sub hl [1, 2, 3, 0, 5] rfl)
set_option maxRecDepth 100000 in
set_option maxHeartbeats 4000000 in
theorem v_X8_isEnough_76 {G : sG} {d : Nat} {vs0 : List Value} {σ0 : sS} {v0 : Nat} {v1 : Int32} {v2 : Int32} {v3 : Int32} {v5 : Int32} {σ : sS} {z : sZ Int32} {r : Int32 × sS} (hf : T_X8_isEnough_76 v0 v1 v2 v3 v5 σ = some z) (k : s_K G (d + 1) M_X8_isEnough vs0 σ0 Y_X8_isEnough e_I z r) : s_V G (d + 1) M_X8_isEnough vs0 σ0 Y_X8_isEnough (76, [.ref v0, .int v1, .int v2, .int v3, .int v5], σ) (e_I r) := by
  have le0 : s_le σ (e_I r).2 := s_lek hem_I (l_X8_isEnough_76 hf) k
  refine ⟨le0, ?_⟩
  intro p e s m below meth c H locs cells slots ls X I hn1 hn2 hl
  have hn : cells + σ0.2.1 ≤ σ.2.1 ∧ slots + σ0.2.2.1 ≤ σ.2.2.1 := ⟨hn1, hn2⟩
  have hl : lv_has ls 7 [(0, .ref v0), (1, .int v1), (2, .int v2), (3, .int v3), (5, .int v5)] := hl
  have hx := X.1
  have hb : c.code = cX8_isEnough := X.2.1
  have hown : s.vm.findClass RX8 = some m.cls := X.2.2.2.2.2.1
  have hts := X.2.2.2.2.2.2.1
  refine W.eq (g2 := F0 m 76 ls []) rfl ?_
  unfold T_X8_isEnough_76 at hf
  cases hf
  have k : s_V G (d + 1) M_X8_isEnough vs0 σ0 Y_X8_isEnough (77, [.ref v0, .int v1, .int v2, .int v3, .int v5, .int 0], σ) (e_I r) := k
  refine lv_iconst (v := 0) hx hb dX8_isEnough_76 (by decide) ?_
  exact k.2 p e s m below meth c _ _ _ _ _ X I hn.1 hn.2 (lv_sub hl [0, 1, 2, 3, 4] rfl)
set_option maxRecDepth 100000 in
set_option maxHeartbeats 4000000 in
theorem v_X8_isEnough_77 {G : sG} {d : Nat} {vs0 : List Value} {σ0 : sS} {v0 : Nat} {v1 : Int32} {v2 : Int32} {v3 : Int32} {v5 : Int32} {w0 : Int32} {σ : sS} {z : sZ Int32} {r : Int32 × sS} (hf : T_X8_isEnough_77 v0 v1 v2 v3 v5 w0 σ = some z) (k : s_K G (d + 1) M_X8_isEnough vs0 σ0 Y_X8_isEnough e_I z r) : s_V G (d + 1) M_X8_isEnough vs0 σ0 Y_X8_isEnough (77, [.ref v0, .int v1, .int v2, .int v3, .int v5, .int w0], σ) (e_I r) := by
  have le0 : s_le σ (e_I r).2 := s_lek hem_I (l_X8_isEnough_77 hf) k
  refine ⟨le0, ?_⟩
  intro p e s m below meth c H locs cells slots ls X I hn1 hn2 hl
  have hn : cells + σ0.2.1 ≤ σ.2.1 ∧ slots + σ0.2.2.1 ≤ σ.2.2.1 := ⟨hn1, hn2⟩
  have hl : lv_has ls 7 [(0, .ref v0), (1, .int v1), (2, .int v2), (3, .int v3), (5, .int v5)] := hl
  have hx := X.1
  have hb : c.code = cX8_isEnough := X.2.1
  have hown : s.vm.findClass RX8 = some m.cls := X.2.2.2.2.2.1
  have hts := X.2.2.2.2.2.2.1
  refine W.eq (g2 := F0 m 77 ls [.int w0]) rfl ?_
  unfold T_X8_isEnough_77 at hf
  cases hf
  have k : s_V G (d + 1) M_X8_isEnough vs0 σ0 Y_X8_isEnough (8, [.ref v0, .int v1, .int v2, .int v3, .int w0, .int (v5 + 1)], σ) (e_I r) := k
  refine lv_istore (lv' := [(4, .int w0), (0, .ref v0), (1, .int v1), (2, .int v2), (3, .int v3), (5, .int v5)]) hx hb dX8_isEnough_77 hl (by decide) rfl (fun ls hl => ?_)
  refine lv_iinc (v := (v5 + 1)) (lv' := [(5, .int (v5 + 1)), (4, .int w0), (0, .ref v0), (1, .int v1), (2, .int v2), (3, .int v3)]) hx hb dX8_isEnough_79 hl (k := 5) rfl rfl (by decide) rfl (fun ls hl => ?_)
  refine lv_goto (tgt := 8) hx hb dX8_isEnough_82 (by decide) ?_
  exact k.2 p e s m below meth c _ _ _ _ _ X I hn.1 hn.2 (lv_sub hl [2, 3, 4, 5, 1, 0] rfl)
theorem v_X8_isEnough {G : sG} {d : Nat} {vs0 : List Value} {σ0 : sS} {x : sL} {z : sZ Int32} {r : Int32 × sS} (hs : S_X8_isEnough x = some z) (k : s_K G (d + 1) M_X8_isEnough vs0 σ0 Y_X8_isEnough e_I z r) : s_V G (d + 1) M_X8_isEnough vs0 σ0 Y_X8_isEnough x (e_I r) := by
  obtain ⟨pc, vs, σ⟩ := x
  unfold S_X8_isEnough at hs
  dsimp only at hs
  rcases s_ite hs with ⟨c, hs⟩ | ⟨-, hs⟩
  · subst c
    unfold U_X8_isEnough_0 at hs
    obtain ⟨a0, g0, hs⟩ := s_bind hs
    obtain ⟨a1, g1, hs⟩ := s_bind hs
    obtain ⟨a2, g2, hs⟩ := s_bind hs
    obtain ⟨u9, ge, hs⟩ := s_bind hs
    rw [g_r_to g0, g_i_to g1, g_i_to g2, g_e_to ge]
    exact v_X8_isEnough_0 hs k
  rcases s_ite hs with ⟨c, hs⟩ | ⟨-, hs⟩
  · subst c
    unfold U_X8_isEnough_8 at hs
    obtain ⟨a0, g0, hs⟩ := s_bind hs
    obtain ⟨a1, g1, hs⟩ := s_bind hs
    obtain ⟨a2, g2, hs⟩ := s_bind hs
    obtain ⟨a3, g3, hs⟩ := s_bind hs
    obtain ⟨a4, g4, hs⟩ := s_bind hs
    obtain ⟨a5, g5, hs⟩ := s_bind hs
    obtain ⟨u9, ge, hs⟩ := s_bind hs
    rw [g_r_to g0, g_i_to g1, g_i_to g2, g_i_to g3, g_i_to g4, g_i_to g5, g_e_to ge]
    exact v_X8_isEnough_8 hs k
  rcases s_ite hs with ⟨c, hs⟩ | ⟨-, hs⟩
  · subst c
    unfold U_X8_isEnough_41 at hs
    obtain ⟨a0, g0, hs⟩ := s_bind hs
    obtain ⟨a1, g1, hs⟩ := s_bind hs
    obtain ⟨a2, g2, hs⟩ := s_bind hs
    obtain ⟨a3, g3, hs⟩ := s_bind hs
    obtain ⟨a4, g4, hs⟩ := s_bind hs
    obtain ⟨a5, g5, hs⟩ := s_bind hs
    obtain ⟨u9, ge, hs⟩ := s_bind hs
    rw [g_r_to g0, g_i_to g1, g_i_to g2, g_i_to g3, g_i_to g4, g_i_to g5, g_e_to ge]
    exact v_X8_isEnough_41 hs k
  rcases s_ite hs with ⟨c, hs⟩ | ⟨-, hs⟩
  · subst c
    unfold U_X8_isEnough_46 at hs
    obtain ⟨a0, g0, hs⟩ := s_bind hs
    obtain ⟨a1, g1, hs⟩ := s_bind hs
    obtain ⟨a2, g2, hs⟩ := s_bind hs
    obtain ⟨a3, g3, hs⟩ := s_bind hs
    obtain ⟨a4, g4, hs⟩ := s_bind hs
    obtain ⟨a5, g5, hs⟩ := s_bind hs
    obtain ⟨a6, g6, hs⟩ := s_bind hs
    obtain ⟨u9, ge, hs⟩ := s_bind hs
    rw [g_r_to g0, g_i_to g1, g_i_to g2, g_i_to g3, g_i_to g4, g_i_to g5, g_i_to g6, g_e_to ge]
    exact v_X8_isEnough_46 hs k
  rcases s_ite hs with ⟨c, hs⟩ | ⟨-, hs⟩
  · subst c
    unfold U_X8_isEnough_76 at hs
    obtain ⟨a0, g0, hs⟩ := s_bind hs
    obtain ⟨a1, g1, hs⟩ := s_bind hs
    obtain ⟨a2, g2, hs⟩ := s_bind hs
    obtain ⟨a3, g3, hs⟩ := s_bind hs
    obtain ⟨a4, g4, hs⟩ := s_bind hs
    obtain ⟨u9, ge, hs⟩ := s_bind hs
    rw [g_r_to g0, g_i_to g1, g_i_to g2, g_i_to g3, g_i_to g4, g_e_to ge]
    exact v_X8_isEnough_76 hs k
  rcases s_ite hs with ⟨c, hs⟩ | ⟨-, hs⟩
  · subst c
    unfold U_X8_isEnough_77 at hs
    obtain ⟨a0, g0, hs⟩ := s_bind hs
    obtain ⟨a1, g1, hs⟩ := s_bind hs
    obtain ⟨a2, g2, hs⟩ := s_bind hs
    obtain ⟨a3, g3, hs⟩ := s_bind hs
    obtain ⟨a4, g4, hs⟩ := s_bind hs
    obtain ⟨a5, g5, hs⟩ := s_bind hs
    obtain ⟨u9, ge, hs⟩ := s_bind hs
    rw [g_r_to g0, g_i_to g1, g_i_to g2, g_i_to g3, g_i_to g4, g_i_to g5, g_e_to ge]
    exact v_X8_isEnough_77 hs k
  cases hs
theorem t_X8_isEnough {G : sG} {d : Nat} {v0 : Nat} {v1 : Int32} {v2 : Int32} {σ : sS} {q : Int32 × sS} (h : F_X8_isEnough v0 v1 v2 σ = some q) : s_T G (d + 1) M_X8_isEnough [.ref v0, .int v1, .int v2] σ (e_I q) := by
  unfold F_X8_isEnough at h
  obtain ⟨-, -, h⟩ := s_bind h
  exact s_ofV rfl (by decide) (Nat.le_of_ble_eq_true rfl) rfl rfl (s_run_ind (V := fun x r => s_V G (d + 1) M_X8_isEnough [.ref v0, .int v1, .int v2] σ Y_X8_isEnough x (e_I r)) (fun x z r hs hk => v_X8_isEnough hs (by cases z <;> exact hk)) h)
/-! X8_bitsOf -/
noncomputable def T_X8_bitsOf_0 (v0 : Nat) (v1 : Int32) (σ : sS) : Option (sZ Int32) :=
  some (.inl (4, [.ref v0, .int v1, .int 0, .int 0], σ))
noncomputable def U_X8_bitsOf_0 (vs : List Value) (σ : sS) : Option (sZ Int32) := (g_r vs).bind fun a0 => (g_i a0.2).bind fun a1 => (g_e a1.2).bind fun _ => T_X8_bitsOf_0 a0.1 a1.1 σ
noncomputable def T_X8_bitsOf_4 (v0 : Nat) (v1 : Int32) (v2 : Int32) (v3 : Int32) (σ : sS) : Option (sZ Int32) :=
  if v1 ≤ v3 then (some (.inr (v2, σ)))
  else ((s_fr σ v0 8 22).bind fun x1 =>
  (s_ai σ x1 v3).bind fun x2 =>
  some (.inl (4, [.ref v0, .int v1, .int (v2 ||| (1 <<< (x2 &&& 31))), .int (v3 + 1)], σ)))
noncomputable def U_X8_bitsOf_4 (vs : List Value) (σ : sS) : Option (sZ Int32) := (g_r vs).bind fun a0 => (g_i a0.2).bind fun a1 => (g_i a1.2).bind fun a2 => (g_i a2.2).bind fun a3 => (g_e a3.2).bind fun _ => T_X8_bitsOf_4 a0.1 a1.1 a2.1 a3.1 σ
noncomputable def S_X8_bitsOf (x : sL) : Option (sZ Int32) := if x.1 = 0 then U_X8_bitsOf_0 x.2.1 x.2.2 else if x.1 = 4 then U_X8_bitsOf_4 x.2.1 x.2.2 else none
def Y_X8_bitsOf (pc : Nat) : List Nat := if pc = 0 then [0, 1] else if pc = 4 then [0, 1, 2, 3] else []
noncomputable def F_X8_bitsOf (v0 : Nat) (v1 : Int32) (σ : sS) : Option (Int32 × sS) := (s_is σ v0 8).bind fun _ => s_run S_X8_bitsOf (0, [.ref v0, .int v1], σ)
theorem l_X8_bitsOf_0 {v0 : Nat} {v1 : Int32} {σ : sS} {z : sZ Int32} (hf : T_X8_bitsOf_0 v0 v1 σ = some z) : s_lz σ z := by
  unfold T_X8_bitsOf_0 at hf
  cases hf
  exact s_le.rf
theorem l_X8_bitsOf_4 {v0 : Nat} {v1 : Int32} {v2 : Int32} {v3 : Int32} {σ : sS} {z : sZ Int32} (hf : T_X8_bitsOf_4 v0 v1 v2 v3 σ = some z) : s_lz σ z := by
  unfold T_X8_bitsOf_4 at hf
  rcases s_ite hf with ⟨-, hf⟩ | ⟨-, hf⟩
  · cases hf
    exact s_le.rf
  · obtain ⟨x1, -, hf⟩ := s_bind hf
    obtain ⟨x2, -, hf⟩ := s_bind hf
    cases hf
    exact s_le.rf
theorem l_X8_bitsOf_s {x : sL} {z : sZ Int32} (hs : S_X8_bitsOf x = some z) : s_lz x.2.2 z := by
  obtain ⟨pc, vs, σ⟩ := x
  unfold S_X8_bitsOf at hs
  dsimp only at hs ⊢
  rcases s_ite hs with ⟨c, hs⟩ | ⟨-, hs⟩
  · subst c
    unfold U_X8_bitsOf_0 at hs
    obtain ⟨a0, g0, hs⟩ := s_bind hs
    obtain ⟨a1, g1, hs⟩ := s_bind hs
    obtain ⟨u9, ge, hs⟩ := s_bind hs
    exact l_X8_bitsOf_0 hs
  rcases s_ite hs with ⟨c, hs⟩ | ⟨-, hs⟩
  · subst c
    unfold U_X8_bitsOf_4 at hs
    obtain ⟨a0, g0, hs⟩ := s_bind hs
    obtain ⟨a1, g1, hs⟩ := s_bind hs
    obtain ⟨a2, g2, hs⟩ := s_bind hs
    obtain ⟨a3, g3, hs⟩ := s_bind hs
    obtain ⟨u9, ge, hs⟩ := s_bind hs
    exact l_X8_bitsOf_4 hs
  cases hs
theorem l_X8_bitsOf {v0 : Nat} {v1 : Int32} {σ : sS} {q : Int32 × sS} (h : F_X8_bitsOf v0 v1 σ = some q) : s_le σ q.2 := by
  unfold F_X8_bitsOf at h
  obtain ⟨-, -, h⟩ := s_bind h
  exact s_run_ind (V := fun x r => s_le x.2.2 r.2) (fun x z r hs hk => by
    have h9 := l_X8_bitsOf_s hs
    cases z with
    | inl y => exact s_le.tr h9 hk
    | inr q => cases hk; exact h9) h
theorem b_X8_bitsOf {v0 : Nat} {v1 : Int32} {σ : sS} {q : Int32 × sS} (h : F_X8_bitsOf v0 v1 σ = some q) : ∃ fs, σ.1 v0 = some (.inr (8, fs)) := by
  unfold F_X8_bitsOf at h
  obtain ⟨u, hu, -⟩ := s_bind h
  exact s_is_to hu
set_option maxRecDepth 100000 in
set_option maxHeartbeats 4000000 in
theorem v_X8_bitsOf_0 {G : sG} {d : Nat} {vs0 : List Value} {σ0 : sS} {v0 : Nat} {v1 : Int32} {σ : sS} {z : sZ Int32} {r : Int32 × sS} (hf : T_X8_bitsOf_0 v0 v1 σ = some z) (k : s_K G (d + 1) M_X8_bitsOf vs0 σ0 Y_X8_bitsOf e_I z r) : s_V G (d + 1) M_X8_bitsOf vs0 σ0 Y_X8_bitsOf (0, [.ref v0, .int v1], σ) (e_I r) := by
  have le0 : s_le σ (e_I r).2 := s_lek hem_I (l_X8_bitsOf_0 hf) k
  refine ⟨le0, ?_⟩
  intro p e s m below meth c H locs cells slots ls X I hn1 hn2 hl
  have hn : cells + σ0.2.1 ≤ σ.2.1 ∧ slots + σ0.2.2.1 ≤ σ.2.2.1 := ⟨hn1, hn2⟩
  have hl : lv_has ls 4 [(0, .ref v0), (1, .int v1)] := hl
  have hx := X.1
  have hb : c.code = cX8_bitsOf := X.2.1
  have hown : s.vm.findClass RX8 = some m.cls := X.2.2.2.2.2.1
  have hts := X.2.2.2.2.2.2.1
  refine W.eq (g2 := F0 m 0 ls []) rfl ?_
  unfold T_X8_bitsOf_0 at hf
  cases hf
  have k : s_V G (d + 1) M_X8_bitsOf vs0 σ0 Y_X8_bitsOf (4, [.ref v0, .int v1, .int 0, .int 0], σ) (e_I r) := k
  refine lv_iconst (v := 0) hx hb dX8_bitsOf_0 (by decide) ?_
  refine lv_istore_n (lv' := [(2, .int 0), (0, .ref v0), (1, .int v1)]) hx hb dX8_bitsOf_1 rfl hl (by decide) rfl (fun ls hl => ?_)
  refine lv_iconst (v := 0) hx hb dX8_bitsOf_2 (by decide) ?_
  refine lv_istore_n (lv' := [(3, .int 0), (2, .int 0), (0, .ref v0), (1, .int v1)]) hx hb dX8_bitsOf_3 rfl hl (by decide) rfl (fun ls hl => ?_)
  exact k.2 p e s m below meth c _ _ _ _ _ X I hn.1 hn.2 (lv_sub hl [2, 3, 1, 0] rfl)
set_option maxRecDepth 100000 in
set_option maxHeartbeats 4000000 in
theorem v_X8_bitsOf_4 {G : sG} {d : Nat} {vs0 : List Value} {σ0 : sS} {v0 : Nat} {v1 : Int32} {v2 : Int32} {v3 : Int32} {σ : sS} {z : sZ Int32} {r : Int32 × sS} (hf : T_X8_bitsOf_4 v0 v1 v2 v3 σ = some z) (k : s_K G (d + 1) M_X8_bitsOf vs0 σ0 Y_X8_bitsOf e_I z r) : s_V G (d + 1) M_X8_bitsOf vs0 σ0 Y_X8_bitsOf (4, [.ref v0, .int v1, .int v2, .int v3], σ) (e_I r) := by
  have le0 : s_le σ (e_I r).2 := s_lek hem_I (l_X8_bitsOf_4 hf) k
  refine ⟨le0, ?_⟩
  intro p e s m below meth c H locs cells slots ls X I hn1 hn2 hl
  have hn : cells + σ0.2.1 ≤ σ.2.1 ∧ slots + σ0.2.2.1 ≤ σ.2.2.1 := ⟨hn1, hn2⟩
  have hl : lv_has ls 4 [(0, .ref v0), (1, .int v1), (2, .int v2), (3, .int v3)] := hl
  have hx := X.1
  have hb : c.code = cX8_bitsOf := X.2.1
  have hown : s.vm.findClass RX8 = some m.cls := X.2.2.2.2.2.1
  have hts := X.2.2.2.2.2.2.1
  refine W.eq (g2 := F0 m 4 ls []) rfl ?_
  unfold T_X8_bitsOf_4 at hf
  refine lv_iload_n hx hb dX8_bitsOf_4 rfl (lv_at hl 3 rfl) ?_
  refine lv_iload_n hx hb dX8_bitsOf_5 rfl (lv_at hl 1 rfl) ?_
  rcases s_ite hf with ⟨c1, hf⟩ | ⟨c1, hf⟩
  · refine lv_icmp_ge (tgt := 26) hx hb dX8_bitsOf_6 (by decide) (fun _ => ?_) (fun n => absurd c1 n)
    cases hf
    have k : _ = r := k
    subst k
    refine lv_iload_n hx hb dX8_bitsOf_26 rfl (lv_at hl 2 rfl) ?_
    exact r_iret X I rfl rfl rfl hn dX8_bitsOf_27
  · refine lv_icmp_ge (tgt := 26) hx hb dX8_bitsOf_6 (by decide) (fun n => absurd n c1) (fun _ => ?_)
    obtain ⟨x1, h2, hf⟩ := s_bind hf
    obtain ⟨x2, h3, hf⟩ := s_bind hf
    cases hf
    have k : s_V G (d + 1) M_X8_bitsOf vs0 σ0 Y_X8_bitsOf (4, [.ref v0, .int v1, .int (v2 ||| (1 <<< (x2 &&& 31))), .int (v3 + 1)], σ) (e_I r) := k
    refine lv_iload_n hx hb dX8_bitsOf_9 rfl (lv_at hl 2 rfl) ?_
    refine lv_iconst (v := 1) hx hb dX8_bitsOf_10 (by decide) ?_
    refine lv_aload_n hx hb dX8_bitsOf_11 rfl (lv_at hl 0 rfl) ?_
    refine r_gr X I fl_X8_56 h2 dX8_bitsOf_12 ?_
    refine lv_iload_n hx hb dX8_bitsOf_15 rfl (lv_at hl 3 rfl) ?_
    refine r_iald X I h3 dX8_bitsOf_16 ?_
    refine lv_ishl hx hb dX8_bitsOf_17 ?_
    refine lv_ior hx hb dX8_bitsOf_18 ?_
    refine lv_istore_n (lv' := [(2, .int (v2 ||| (1 <<< (x2 &&& 31)))), (0, .ref v0), (1, .int v1), (3, .int v3)]) hx hb dX8_bitsOf_19 rfl hl (by decide) rfl (fun ls hl => ?_)
    refine lv_iinc (v := (v3 + 1)) (lv' := [(3, .int (v3 + 1)), (2, .int (v2 ||| (1 <<< (x2 &&& 31)))), (0, .ref v0), (1, .int v1)]) hx hb dX8_bitsOf_20 hl (k := 3) rfl rfl (by decide) rfl (fun ls hl => ?_)
    refine lv_goto (tgt := 4) hx hb dX8_bitsOf_23 (by decide) ?_
    exact k.2 p e s m below meth c _ _ _ _ _ X I hn.1 hn.2 (lv_sub hl [2, 3, 1, 0] rfl)
theorem v_X8_bitsOf {G : sG} {d : Nat} {vs0 : List Value} {σ0 : sS} {x : sL} {z : sZ Int32} {r : Int32 × sS} (hs : S_X8_bitsOf x = some z) (k : s_K G (d + 1) M_X8_bitsOf vs0 σ0 Y_X8_bitsOf e_I z r) : s_V G (d + 1) M_X8_bitsOf vs0 σ0 Y_X8_bitsOf x (e_I r) := by
  obtain ⟨pc, vs, σ⟩ := x
  unfold S_X8_bitsOf at hs
  dsimp only at hs
  rcases s_ite hs with ⟨c, hs⟩ | ⟨-, hs⟩
  · subst c
    unfold U_X8_bitsOf_0 at hs
    obtain ⟨a0, g0, hs⟩ := s_bind hs
    obtain ⟨a1, g1, hs⟩ := s_bind hs
    obtain ⟨u9, ge, hs⟩ := s_bind hs
    rw [g_r_to g0, g_i_to g1, g_e_to ge]
    exact v_X8_bitsOf_0 hs k
  rcases s_ite hs with ⟨c, hs⟩ | ⟨-, hs⟩
  · subst c
    unfold U_X8_bitsOf_4 at hs
    obtain ⟨a0, g0, hs⟩ := s_bind hs
    obtain ⟨a1, g1, hs⟩ := s_bind hs
    obtain ⟨a2, g2, hs⟩ := s_bind hs
    obtain ⟨a3, g3, hs⟩ := s_bind hs
    obtain ⟨u9, ge, hs⟩ := s_bind hs
    rw [g_r_to g0, g_i_to g1, g_i_to g2, g_i_to g3, g_e_to ge]
    exact v_X8_bitsOf_4 hs k
  cases hs
theorem t_X8_bitsOf {G : sG} {d : Nat} {v0 : Nat} {v1 : Int32} {σ : sS} {q : Int32 × sS} (h : F_X8_bitsOf v0 v1 σ = some q) : s_T G (d + 1) M_X8_bitsOf [.ref v0, .int v1] σ (e_I q) := by
  unfold F_X8_bitsOf at h
  obtain ⟨-, -, h⟩ := s_bind h
  exact s_ofV rfl (by decide) (Nat.le_of_ble_eq_true rfl) rfl rfl (s_run_ind (V := fun x r => s_V G (d + 1) M_X8_bitsOf [.ref v0, .int v1] σ Y_X8_bitsOf x (e_I r)) (fun x z r hs hk => v_X8_bitsOf hs (by cases z <;> exact hk)) h)
/-! X8_narrows -/
noncomputable def T_X8_narrows_0 (v0 : Nat) (v1 : Int32) (v2 : Int32) (σ : sS) : Option (sZ Unit) :=
  some (.inl (2, [.ref v0, .int v1, .int v2, .int 0], σ))
noncomputable def U_X8_narrows_0 (vs : List Value) (σ : sS) : Option (sZ Unit) := (g_r vs).bind fun a0 => (g_i a0.2).bind fun a1 => (g_i a1.2).bind fun a2 => (g_e a2.2).bind fun _ => T_X8_narrows_0 a0.1 a1.1 a2.1 σ
noncomputable def T_X8_narrows_2 (v0 : Nat) (v1 : Int32) (v2 : Int32) (v3 : Int32) (σ : sS) : Option (sZ Unit) :=
  if (32 : Int32) ≤ v3 then (some (.inr ((), σ)))
  else ((s_fr σ v0 8 21).bind fun x1 =>
  (s_fr σ v0 8 21).bind fun x2 =>
  (s_ai σ x2 ((32 * (30 + v1)) + v3)).bind fun x3 =>
  (s_fr σ v0 8 21).bind fun x4 =>
  (s_ai σ x4 ((32 * v2) + v3)).bind fun x5 =>
  (s_si σ x1 ((32 * ((30 + v1) + 1)) + v3) (x3 &&& x5)).bind fun σ6 =>
  some (.inl (2, [.ref v0, .int v1, .int v2, .int (v3 + 1)], σ6)))
noncomputable def U_X8_narrows_2 (vs : List Value) (σ : sS) : Option (sZ Unit) := (g_r vs).bind fun a0 => (g_i a0.2).bind fun a1 => (g_i a1.2).bind fun a2 => (g_i a2.2).bind fun a3 => (g_e a3.2).bind fun _ => T_X8_narrows_2 a0.1 a1.1 a2.1 a3.1 σ
noncomputable def S_X8_narrows (x : sL) : Option (sZ Unit) := if x.1 = 0 then U_X8_narrows_0 x.2.1 x.2.2 else if x.1 = 2 then U_X8_narrows_2 x.2.1 x.2.2 else none
def Y_X8_narrows (pc : Nat) : List Nat := if pc = 0 then [0, 1, 2] else if pc = 2 then [0, 1, 2, 3] else []
noncomputable def F_X8_narrows (v0 : Nat) (v1 : Int32) (v2 : Int32) (σ : sS) : Option (Unit × sS) := (s_is σ v0 8).bind fun _ => s_run S_X8_narrows (0, [.ref v0, .int v1, .int v2], σ)
theorem l_X8_narrows_0 {v0 : Nat} {v1 : Int32} {v2 : Int32} {σ : sS} {z : sZ Unit} (hf : T_X8_narrows_0 v0 v1 v2 σ = some z) : s_lz σ z := by
  unfold T_X8_narrows_0 at hf
  cases hf
  exact s_le.rf
theorem l_X8_narrows_2 {v0 : Nat} {v1 : Int32} {v2 : Int32} {v3 : Int32} {σ : sS} {z : sZ Unit} (hf : T_X8_narrows_2 v0 v1 v2 v3 σ = some z) : s_lz σ z := by
  unfold T_X8_narrows_2 at hf
  rcases s_ite hf with ⟨-, hf⟩ | ⟨-, hf⟩
  · cases hf
    exact s_le.rf
  · obtain ⟨x1, -, hf⟩ := s_bind hf
    obtain ⟨x2, -, hf⟩ := s_bind hf
    obtain ⟨x3, -, hf⟩ := s_bind hf
    obtain ⟨x4, -, hf⟩ := s_bind hf
    obtain ⟨x5, -, hf⟩ := s_bind hf
    obtain ⟨σ6, hh, hf⟩ := s_bind hf
    refine s_lz.tr (s_le2 (s_si_2 hh)) ?_
    cases hf
    exact s_le.rf
theorem l_X8_narrows_s {x : sL} {z : sZ Unit} (hs : S_X8_narrows x = some z) : s_lz x.2.2 z := by
  obtain ⟨pc, vs, σ⟩ := x
  unfold S_X8_narrows at hs
  dsimp only at hs ⊢
  rcases s_ite hs with ⟨c, hs⟩ | ⟨-, hs⟩
  · subst c
    unfold U_X8_narrows_0 at hs
    obtain ⟨a0, g0, hs⟩ := s_bind hs
    obtain ⟨a1, g1, hs⟩ := s_bind hs
    obtain ⟨a2, g2, hs⟩ := s_bind hs
    obtain ⟨u9, ge, hs⟩ := s_bind hs
    exact l_X8_narrows_0 hs
  rcases s_ite hs with ⟨c, hs⟩ | ⟨-, hs⟩
  · subst c
    unfold U_X8_narrows_2 at hs
    obtain ⟨a0, g0, hs⟩ := s_bind hs
    obtain ⟨a1, g1, hs⟩ := s_bind hs
    obtain ⟨a2, g2, hs⟩ := s_bind hs
    obtain ⟨a3, g3, hs⟩ := s_bind hs
    obtain ⟨u9, ge, hs⟩ := s_bind hs
    exact l_X8_narrows_2 hs
  cases hs
theorem l_X8_narrows {v0 : Nat} {v1 : Int32} {v2 : Int32} {σ : sS} {q : Unit × sS} (h : F_X8_narrows v0 v1 v2 σ = some q) : s_le σ q.2 := by
  unfold F_X8_narrows at h
  obtain ⟨-, -, h⟩ := s_bind h
  exact s_run_ind (V := fun x r => s_le x.2.2 r.2) (fun x z r hs hk => by
    have h9 := l_X8_narrows_s hs
    cases z with
    | inl y => exact s_le.tr h9 hk
    | inr q => cases hk; exact h9) h
theorem b_X8_narrows {v0 : Nat} {v1 : Int32} {v2 : Int32} {σ : sS} {q : Unit × sS} (h : F_X8_narrows v0 v1 v2 σ = some q) : ∃ fs, σ.1 v0 = some (.inr (8, fs)) := by
  unfold F_X8_narrows at h
  obtain ⟨u, hu, -⟩ := s_bind h
  exact s_is_to hu
set_option maxRecDepth 100000 in
set_option maxHeartbeats 4000000 in
theorem v_X8_narrows_0 {G : sG} {d : Nat} {vs0 : List Value} {σ0 : sS} {v0 : Nat} {v1 : Int32} {v2 : Int32} {σ : sS} {z : sZ Unit} {r : Unit × sS} (hf : T_X8_narrows_0 v0 v1 v2 σ = some z) (k : s_K G (d + 1) M_X8_narrows vs0 σ0 Y_X8_narrows e_V z r) : s_V G (d + 1) M_X8_narrows vs0 σ0 Y_X8_narrows (0, [.ref v0, .int v1, .int v2], σ) (e_V r) := by
  have le0 : s_le σ (e_V r).2 := s_lek hem_V (l_X8_narrows_0 hf) k
  refine ⟨le0, ?_⟩
  intro p e s m below meth c H locs cells slots ls X I hn1 hn2 hl
  have hn : cells + σ0.2.1 ≤ σ.2.1 ∧ slots + σ0.2.2.1 ≤ σ.2.2.1 := ⟨hn1, hn2⟩
  have hl : lv_has ls 4 [(0, .ref v0), (1, .int v1), (2, .int v2)] := hl
  have hx := X.1
  have hb : c.code = cX8_narrows := X.2.1
  have hown : s.vm.findClass RX8 = some m.cls := X.2.2.2.2.2.1
  have hts := X.2.2.2.2.2.2.1
  refine W.eq (g2 := F0 m 0 ls []) rfl ?_
  unfold T_X8_narrows_0 at hf
  cases hf
  have k : s_V G (d + 1) M_X8_narrows vs0 σ0 Y_X8_narrows (2, [.ref v0, .int v1, .int v2, .int 0], σ) (e_V r) := k
  refine lv_iconst (v := 0) hx hb dX8_narrows_0 (by decide) ?_
  refine lv_istore_n (lv' := [(3, .int 0), (0, .ref v0), (1, .int v1), (2, .int v2)]) hx hb dX8_narrows_1 rfl hl (by decide) rfl (fun ls hl => ?_)
  exact k.2 p e s m below meth c _ _ _ _ _ X I hn.1 hn.2 (lv_sub hl [1, 2, 3, 0] rfl)
set_option maxRecDepth 100000 in
set_option maxHeartbeats 4000000 in
theorem v_X8_narrows_2 {G : sG} {d : Nat} {vs0 : List Value} {σ0 : sS} {v0 : Nat} {v1 : Int32} {v2 : Int32} {v3 : Int32} {σ : sS} {z : sZ Unit} {r : Unit × sS} (hf : T_X8_narrows_2 v0 v1 v2 v3 σ = some z) (k : s_K G (d + 1) M_X8_narrows vs0 σ0 Y_X8_narrows e_V z r) : s_V G (d + 1) M_X8_narrows vs0 σ0 Y_X8_narrows (2, [.ref v0, .int v1, .int v2, .int v3], σ) (e_V r) := by
  have le0 : s_le σ (e_V r).2 := s_lek hem_V (l_X8_narrows_2 hf) k
  refine ⟨le0, ?_⟩
  intro p e s m below meth c H locs cells slots ls X I hn1 hn2 hl
  have hn : cells + σ0.2.1 ≤ σ.2.1 ∧ slots + σ0.2.2.1 ≤ σ.2.2.1 := ⟨hn1, hn2⟩
  have hl : lv_has ls 4 [(0, .ref v0), (1, .int v1), (2, .int v2), (3, .int v3)] := hl
  have hx := X.1
  have hb : c.code = cX8_narrows := X.2.1
  have hown : s.vm.findClass RX8 = some m.cls := X.2.2.2.2.2.1
  have hts := X.2.2.2.2.2.2.1
  refine W.eq (g2 := F0 m 2 ls []) rfl ?_
  unfold T_X8_narrows_2 at hf
  refine lv_iload_n hx hb dX8_narrows_2 rfl (lv_at hl 3 rfl) ?_
  refine lv_bipush (v := 32) hx hb dX8_narrows_3 (by decide) ?_
  rcases s_ite hf with ⟨c1, hf⟩ | ⟨c1, hf⟩
  · refine lv_icmp_ge (tgt := 56) hx hb dX8_narrows_5 (by decide) (fun _ => ?_) (fun n => absurd c1 n)
    cases hf
    have k : _ = r := k
    subst k
    exact r_vret X I rfl rfl hn dX8_narrows_56
  · refine lv_icmp_ge (tgt := 56) hx hb dX8_narrows_5 (by decide) (fun n => absurd n c1) (fun _ => ?_)
    obtain ⟨x1, h2, hf⟩ := s_bind hf
    obtain ⟨x2, h3, hf⟩ := s_bind hf
    obtain ⟨x3, h4, hf⟩ := s_bind hf
    obtain ⟨x4, h5, hf⟩ := s_bind hf
    obtain ⟨x5, h6, hf⟩ := s_bind hf
    obtain ⟨σ6, h7, hf⟩ := s_bind hf
    cases hf
    have k : s_V G (d + 1) M_X8_narrows vs0 σ0 Y_X8_narrows (2, [.ref v0, .int v1, .int v2, .int (v3 + 1)], σ6) (e_V r) := k
    have le8 : s_le σ6 (e_V r).2 := k.1
    refine lv_aload_n hx hb dX8_narrows_8 rfl (lv_at hl 0 rfl) ?_
    refine r_gr X I fl_X8_53 h2 dX8_narrows_9 ?_
    refine lv_bipush (v := 32) hx hb dX8_narrows_12 (by decide) ?_
    refine lv_bipush (v := 30) hx hb dX8_narrows_14 (by decide) ?_
    refine lv_iload_n hx hb dX8_narrows_16 rfl (lv_at hl 1 rfl) ?_
    refine lv_iadd hx hb dX8_narrows_17 ?_
    refine lv_iconst (v := 1) hx hb dX8_narrows_18 (by decide) ?_
    refine lv_iadd hx hb dX8_narrows_19 ?_
    refine lv_imul hx hb dX8_narrows_20 ?_
    refine lv_iload_n hx hb dX8_narrows_21 rfl (lv_at hl 3 rfl) ?_
    refine lv_iadd hx hb dX8_narrows_22 ?_
    refine lv_aload_n hx hb dX8_narrows_23 rfl (lv_at hl 0 rfl) ?_
    refine r_gr X I fl_X8_53 h3 dX8_narrows_24 ?_
    refine lv_bipush (v := 32) hx hb dX8_narrows_27 (by decide) ?_
    refine lv_bipush (v := 30) hx hb dX8_narrows_29 (by decide) ?_
    refine lv_iload_n hx hb dX8_narrows_31 rfl (lv_at hl 1 rfl) ?_
    refine lv_iadd hx hb dX8_narrows_32 ?_
    refine lv_imul hx hb dX8_narrows_33 ?_
    refine lv_iload_n hx hb dX8_narrows_34 rfl (lv_at hl 3 rfl) ?_
    refine lv_iadd hx hb dX8_narrows_35 ?_
    refine r_iald X I h4 dX8_narrows_36 ?_
    refine lv_aload_n hx hb dX8_narrows_37 rfl (lv_at hl 0 rfl) ?_
    refine r_gr X I fl_X8_53 h5 dX8_narrows_38 ?_
    refine lv_bipush (v := 32) hx hb dX8_narrows_41 (by decide) ?_
    refine lv_iload_n hx hb dX8_narrows_43 rfl (lv_at hl 2 rfl) ?_
    refine lv_imul hx hb dX8_narrows_44 ?_
    refine lv_iload_n hx hb dX8_narrows_45 rfl (lv_at hl 3 rfl) ?_
    refine lv_iadd hx hb dX8_narrows_46 ?_
    refine r_iald X I h6 dX8_narrows_47 ?_
    refine lv_iand hx hb dX8_narrows_48 ?_
    refine r_iast X I h7 dX8_narrows_49 (fun H locs I => ?_)
    have hn := s_k2 (s_si_2 h7) hn
    refine lv_iinc (v := (v3 + 1)) (lv' := [(3, .int (v3 + 1)), (0, .ref v0), (1, .int v1), (2, .int v2)]) hx hb dX8_narrows_50 hl (k := 3) rfl rfl (by decide) rfl (fun ls hl => ?_)
    refine lv_goto (tgt := 2) hx hb dX8_narrows_53 (by decide) ?_
    exact k.2 p e s m below meth c _ _ _ _ _ X I hn.1 hn.2 (lv_sub hl [1, 2, 3, 0] rfl)
theorem v_X8_narrows {G : sG} {d : Nat} {vs0 : List Value} {σ0 : sS} {x : sL} {z : sZ Unit} {r : Unit × sS} (hs : S_X8_narrows x = some z) (k : s_K G (d + 1) M_X8_narrows vs0 σ0 Y_X8_narrows e_V z r) : s_V G (d + 1) M_X8_narrows vs0 σ0 Y_X8_narrows x (e_V r) := by
  obtain ⟨pc, vs, σ⟩ := x
  unfold S_X8_narrows at hs
  dsimp only at hs
  rcases s_ite hs with ⟨c, hs⟩ | ⟨-, hs⟩
  · subst c
    unfold U_X8_narrows_0 at hs
    obtain ⟨a0, g0, hs⟩ := s_bind hs
    obtain ⟨a1, g1, hs⟩ := s_bind hs
    obtain ⟨a2, g2, hs⟩ := s_bind hs
    obtain ⟨u9, ge, hs⟩ := s_bind hs
    rw [g_r_to g0, g_i_to g1, g_i_to g2, g_e_to ge]
    exact v_X8_narrows_0 hs k
  rcases s_ite hs with ⟨c, hs⟩ | ⟨-, hs⟩
  · subst c
    unfold U_X8_narrows_2 at hs
    obtain ⟨a0, g0, hs⟩ := s_bind hs
    obtain ⟨a1, g1, hs⟩ := s_bind hs
    obtain ⟨a2, g2, hs⟩ := s_bind hs
    obtain ⟨a3, g3, hs⟩ := s_bind hs
    obtain ⟨u9, ge, hs⟩ := s_bind hs
    rw [g_r_to g0, g_i_to g1, g_i_to g2, g_i_to g3, g_e_to ge]
    exact v_X8_narrows_2 hs k
  cases hs
theorem t_X8_narrows {G : sG} {d : Nat} {v0 : Nat} {v1 : Int32} {v2 : Int32} {σ : sS} {q : Unit × sS} (h : F_X8_narrows v0 v1 v2 σ = some q) : s_T G (d + 1) M_X8_narrows [.ref v0, .int v1, .int v2] σ (e_V q) := by
  unfold F_X8_narrows at h
  obtain ⟨-, -, h⟩ := s_bind h
  exact s_ofV rfl (by decide) (Nat.le_of_ble_eq_true rfl) rfl rfl (s_run_ind (V := fun x r => s_V G (d + 1) M_X8_narrows [.ref v0, .int v1, .int v2] σ Y_X8_narrows x (e_V r)) (fun x z r hs hk => v_X8_narrows hs (by cases z <;> exact hk)) h)
/-! X8_leastNamed -/
noncomputable def T_X8_leastNamed_0 (v0 : Nat) (v1 : Int32) (v2 : Int32) (σ : sS) : Option (sZ Int32) :=
  (s_fr σ v0 8 22).bind fun x1 =>
  (s_si σ x1 0 (-1)).bind fun σ2 =>
  some (.inl (9, [.ref v0, .int v1, .int v2, .int 0], σ2))
noncomputable def U_X8_leastNamed_0 (vs : List Value) (σ : sS) : Option (sZ Int32) := (g_r vs).bind fun a0 => (g_i a0.2).bind fun a1 => (g_i a1.2).bind fun a2 => (g_e a2.2).bind fun _ => T_X8_leastNamed_0 a0.1 a1.1 a2.1 σ
noncomputable def T_X8_leastNamed_9 (v0 : Nat) (v1 : Int32) (v2 : Int32) (v3 : Int32) (σ : sS) : Option (sZ Int32) :=
  if v3 < 0 then (some (.inr ((-1), σ)))
  else (if v3 = v1 then ((F_X8_isEnough v0 v3 v2 σ).bind fun q4 =>
  if q4.1 = 0 then (some (.inl (9, [.ref v0, .int v1, .int v2, .int (v3 + (-1))], q4.2)))
  else ((F_X8_bitsOf v0 v1 q4.2).bind fun q5 =>
  some (.inr (q5.1, q5.2))))
  else (if v3 = 0 then ((F_X8_formulas v0 σ).bind fun q3 =>
  some (.inl (58, [.ref v0, .int v1, .int v2, .int v3, .int q3.1], q3.2)))
  else ((s_fr σ v0 8 22).bind fun x1 =>
  (s_ai σ x1 (v3 - 1)).bind fun x2 =>
  some (.inl (58, [.ref v0, .int v1, .int v2, .int v3, .int x2], σ)))))
noncomputable def U_X8_leastNamed_9 (vs : List Value) (σ : sS) : Option (sZ Int32) := (g_r vs).bind fun a0 => (g_i a0.2).bind fun a1 => (g_i a1.2).bind fun a2 => (g_i a2.2).bind fun a3 => (g_e a3.2).bind fun _ => T_X8_leastNamed_9 a0.1 a1.1 a2.1 a3.1 σ
noncomputable def T_X8_leastNamed_58 (v0 : Nat) (v1 : Int32) (v2 : Int32) (v3 : Int32) (w0 : Int32) (σ : sS) : Option (sZ Int32) :=
  (s_fr σ v0 8 22).bind fun x1 =>
  (s_ai σ x1 v3).bind fun x2 =>
  (s_si σ x1 v3 (x2 + 1)).bind fun σ3 =>
  some (.inl (70, [.ref v0, .int v1, .int v2, .int v3, .int w0], σ3))
noncomputable def U_X8_leastNamed_58 (vs : List Value) (σ : sS) : Option (sZ Int32) := (g_r vs).bind fun a0 => (g_i a0.2).bind fun a1 => (g_i a1.2).bind fun a2 => (g_i a2.2).bind fun a3 => (g_i a3.2).bind fun a4 => (g_e a4.2).bind fun _ => T_X8_leastNamed_58 a0.1 a1.1 a2.1 a3.1 a4.1 σ
noncomputable def T_X8_leastNamed_70 (v0 : Nat) (v1 : Int32) (v2 : Int32) (v3 : Int32) (v4 : Int32) (σ : sS) : Option (sZ Int32) :=
  (s_fr σ v0 8 22).bind fun x1 =>
  (s_ai σ x1 v3).bind fun x2 =>
  if v4 ≤ x2 then (some (.inl (108, [.ref v0, .int v1, .int v2, .int v3, .int v4], σ)))
  else ((s_fr σ v0 8 22).bind fun x3 =>
  (s_ai σ x3 v3).bind fun x4 =>
  (F_X8_isSame v0 x4 v2 σ).bind fun q5 =>
  if q5.1 = 0 then (some (.inl (108, [.ref v0, .int v1, .int v2, .int v3, .int v4], q5.2)))
  else ((s_fr q5.2 v0 8 22).bind fun x6 =>
  (s_ai q5.2 x6 v3).bind fun x7 =>
  (s_si q5.2 x6 v3 (x7 + 1)).bind fun σ8 =>
  some (.inl (70, [.ref v0, .int v1, .int v2, .int v3, .int v4], σ8))))
noncomputable def U_X8_leastNamed_70 (vs : List Value) (σ : sS) : Option (sZ Int32) := (g_r vs).bind fun a0 => (g_i a0.2).bind fun a1 => (g_i a1.2).bind fun a2 => (g_i a2.2).bind fun a3 => (g_i a3.2).bind fun a4 => (g_e a4.2).bind fun _ => T_X8_leastNamed_70 a0.1 a1.1 a2.1 a3.1 a4.1 σ
noncomputable def T_X8_leastNamed_108 (v0 : Nat) (v1 : Int32) (v2 : Int32) (v3 : Int32) (v4 : Int32) (σ : sS) : Option (sZ Int32) :=
  (s_fr σ v0 8 22).bind fun x1 =>
  (s_ai σ x1 v3).bind fun x2 =>
  if x2 < v4 then ((s_fr σ v0 8 22).bind fun x3 =>
  (s_ai σ x3 v3).bind fun x4 =>
  (F_X8_narrows v0 v3 x4 σ).bind fun q5 =>
  if v1 ≤ (v3 + 1) then (some (.inl (151, [.ref v0, .int v1, .int v2, .int (v3 + 1)], q5.2)))
  else ((s_fr q5.2 v0 8 22).bind fun x6 =>
  (s_si q5.2 x6 (v3 + 1) (-1)).bind fun σ7 =>
  some (.inl (151, [.ref v0, .int v1, .int v2, .int (v3 + 1)], σ7))))
  else (some (.inl (9, [.ref v0, .int v1, .int v2, .int (v3 + (-1))], σ)))
noncomputable def U_X8_leastNamed_108 (vs : List Value) (σ : sS) : Option (sZ Int32) := (g_r vs).bind fun a0 => (g_i a0.2).bind fun a1 => (g_i a1.2).bind fun a2 => (g_i a2.2).bind fun a3 => (g_i a3.2).bind fun a4 => (g_e a4.2).bind fun _ => T_X8_leastNamed_108 a0.1 a1.1 a2.1 a3.1 a4.1 σ
noncomputable def T_X8_leastNamed_151 (v0 : Nat) (v1 : Int32) (v2 : Int32) (v3 : Int32) (σ : sS) : Option (sZ Int32) :=
  some (.inl (9, [.ref v0, .int v1, .int v2, .int v3], σ))
noncomputable def U_X8_leastNamed_151 (vs : List Value) (σ : sS) : Option (sZ Int32) := (g_r vs).bind fun a0 => (g_i a0.2).bind fun a1 => (g_i a1.2).bind fun a2 => (g_i a2.2).bind fun a3 => (g_e a3.2).bind fun _ => T_X8_leastNamed_151 a0.1 a1.1 a2.1 a3.1 σ
noncomputable def S_X8_leastNamed (x : sL) : Option (sZ Int32) := if x.1 = 0 then U_X8_leastNamed_0 x.2.1 x.2.2 else if x.1 = 9 then U_X8_leastNamed_9 x.2.1 x.2.2 else if x.1 = 58 then U_X8_leastNamed_58 x.2.1 x.2.2 else if x.1 = 70 then U_X8_leastNamed_70 x.2.1 x.2.2 else if x.1 = 108 then U_X8_leastNamed_108 x.2.1 x.2.2 else if x.1 = 151 then U_X8_leastNamed_151 x.2.1 x.2.2 else none
def Y_X8_leastNamed (pc : Nat) : List Nat := if pc = 0 then [0, 1, 2] else if pc = 9 then [0, 1, 2, 3] else if pc = 58 then [0, 1, 2, 3] else if pc = 70 then [0, 1, 2, 3, 4] else if pc = 108 then [0, 1, 2, 3, 4] else if pc = 151 then [0, 1, 2, 3] else []
noncomputable def F_X8_leastNamed (v0 : Nat) (v1 : Int32) (v2 : Int32) (σ : sS) : Option (Int32 × sS) := (s_is σ v0 8).bind fun _ => s_run S_X8_leastNamed (0, [.ref v0, .int v1, .int v2], σ)
theorem l_X8_leastNamed_0 {v0 : Nat} {v1 : Int32} {v2 : Int32} {σ : sS} {z : sZ Int32} (hf : T_X8_leastNamed_0 v0 v1 v2 σ = some z) : s_lz σ z := by
  unfold T_X8_leastNamed_0 at hf
  obtain ⟨x1, -, hf⟩ := s_bind hf
  obtain ⟨σ2, hh, hf⟩ := s_bind hf
  refine s_lz.tr (s_le2 (s_si_2 hh)) ?_
  cases hf
  exact s_le.rf
theorem l_X8_leastNamed_9 {v0 : Nat} {v1 : Int32} {v2 : Int32} {v3 : Int32} {σ : sS} {z : sZ Int32} (hf : T_X8_leastNamed_9 v0 v1 v2 v3 σ = some z) : s_lz σ z := by
  unfold T_X8_leastNamed_9 at hf
  rcases s_ite hf with ⟨-, hf⟩ | ⟨-, hf⟩
  · cases hf
    exact s_le.rf
  · rcases s_ite hf with ⟨-, hf⟩ | ⟨-, hf⟩
    · obtain ⟨q4, hh, hf⟩ := s_bind hf
      refine s_lz.tr (l_X8_isEnough hh) ?_
      rcases s_ite hf with ⟨-, hf⟩ | ⟨-, hf⟩
      · cases hf
        exact s_le.rf
      · obtain ⟨q5, hh, hf⟩ := s_bind hf
        refine s_lz.tr (l_X8_bitsOf hh) ?_
        cases hf
        exact s_le.rf
    · rcases s_ite hf with ⟨-, hf⟩ | ⟨-, hf⟩
      · obtain ⟨q3, hh, hf⟩ := s_bind hf
        refine s_lz.tr (l_X8_formulas hh) ?_
        cases hf
        exact s_le.rf
      · obtain ⟨x1, -, hf⟩ := s_bind hf
        obtain ⟨x2, -, hf⟩ := s_bind hf
        cases hf
        exact s_le.rf
theorem l_X8_leastNamed_58 {v0 : Nat} {v1 : Int32} {v2 : Int32} {v3 : Int32} {w0 : Int32} {σ : sS} {z : sZ Int32} (hf : T_X8_leastNamed_58 v0 v1 v2 v3 w0 σ = some z) : s_lz σ z := by
  unfold T_X8_leastNamed_58 at hf
  obtain ⟨x1, -, hf⟩ := s_bind hf
  obtain ⟨x2, -, hf⟩ := s_bind hf
  obtain ⟨σ3, hh, hf⟩ := s_bind hf
  refine s_lz.tr (s_le2 (s_si_2 hh)) ?_
  cases hf
  exact s_le.rf
theorem l_X8_leastNamed_70 {v0 : Nat} {v1 : Int32} {v2 : Int32} {v3 : Int32} {v4 : Int32} {σ : sS} {z : sZ Int32} (hf : T_X8_leastNamed_70 v0 v1 v2 v3 v4 σ = some z) : s_lz σ z := by
  unfold T_X8_leastNamed_70 at hf
  obtain ⟨x1, -, hf⟩ := s_bind hf
  obtain ⟨x2, -, hf⟩ := s_bind hf
  rcases s_ite hf with ⟨-, hf⟩ | ⟨-, hf⟩
  · cases hf
    exact s_le.rf
  · obtain ⟨x3, -, hf⟩ := s_bind hf
    obtain ⟨x4, -, hf⟩ := s_bind hf
    obtain ⟨q5, hh, hf⟩ := s_bind hf
    refine s_lz.tr (l_X8_isSame hh) ?_
    rcases s_ite hf with ⟨-, hf⟩ | ⟨-, hf⟩
    · cases hf
      exact s_le.rf
    · obtain ⟨x6, -, hf⟩ := s_bind hf
      obtain ⟨x7, -, hf⟩ := s_bind hf
      obtain ⟨σ8, hh, hf⟩ := s_bind hf
      refine s_lz.tr (s_le2 (s_si_2 hh)) ?_
      cases hf
      exact s_le.rf
theorem l_X8_leastNamed_108 {v0 : Nat} {v1 : Int32} {v2 : Int32} {v3 : Int32} {v4 : Int32} {σ : sS} {z : sZ Int32} (hf : T_X8_leastNamed_108 v0 v1 v2 v3 v4 σ = some z) : s_lz σ z := by
  unfold T_X8_leastNamed_108 at hf
  obtain ⟨x1, -, hf⟩ := s_bind hf
  obtain ⟨x2, -, hf⟩ := s_bind hf
  rcases s_ite hf with ⟨-, hf⟩ | ⟨-, hf⟩
  · obtain ⟨x3, -, hf⟩ := s_bind hf
    obtain ⟨x4, -, hf⟩ := s_bind hf
    obtain ⟨q5, hh, hf⟩ := s_bind hf
    refine s_lz.tr (l_X8_narrows hh) ?_
    rcases s_ite hf with ⟨-, hf⟩ | ⟨-, hf⟩
    · cases hf
      exact s_le.rf
    · obtain ⟨x6, -, hf⟩ := s_bind hf
      obtain ⟨σ7, hh, hf⟩ := s_bind hf
      refine s_lz.tr (s_le2 (s_si_2 hh)) ?_
      cases hf
      exact s_le.rf
  · cases hf
    exact s_le.rf
theorem l_X8_leastNamed_151 {v0 : Nat} {v1 : Int32} {v2 : Int32} {v3 : Int32} {σ : sS} {z : sZ Int32} (hf : T_X8_leastNamed_151 v0 v1 v2 v3 σ = some z) : s_lz σ z := by
  unfold T_X8_leastNamed_151 at hf
  cases hf
  exact s_le.rf
theorem l_X8_leastNamed_s {x : sL} {z : sZ Int32} (hs : S_X8_leastNamed x = some z) : s_lz x.2.2 z := by
  obtain ⟨pc, vs, σ⟩ := x
  unfold S_X8_leastNamed at hs
  dsimp only at hs ⊢
  rcases s_ite hs with ⟨c, hs⟩ | ⟨-, hs⟩
  · subst c
    unfold U_X8_leastNamed_0 at hs
    obtain ⟨a0, g0, hs⟩ := s_bind hs
    obtain ⟨a1, g1, hs⟩ := s_bind hs
    obtain ⟨a2, g2, hs⟩ := s_bind hs
    obtain ⟨u9, ge, hs⟩ := s_bind hs
    exact l_X8_leastNamed_0 hs
  rcases s_ite hs with ⟨c, hs⟩ | ⟨-, hs⟩
  · subst c
    unfold U_X8_leastNamed_9 at hs
    obtain ⟨a0, g0, hs⟩ := s_bind hs
    obtain ⟨a1, g1, hs⟩ := s_bind hs
    obtain ⟨a2, g2, hs⟩ := s_bind hs
    obtain ⟨a3, g3, hs⟩ := s_bind hs
    obtain ⟨u9, ge, hs⟩ := s_bind hs
    exact l_X8_leastNamed_9 hs
  rcases s_ite hs with ⟨c, hs⟩ | ⟨-, hs⟩
  · subst c
    unfold U_X8_leastNamed_58 at hs
    obtain ⟨a0, g0, hs⟩ := s_bind hs
    obtain ⟨a1, g1, hs⟩ := s_bind hs
    obtain ⟨a2, g2, hs⟩ := s_bind hs
    obtain ⟨a3, g3, hs⟩ := s_bind hs
    obtain ⟨a4, g4, hs⟩ := s_bind hs
    obtain ⟨u9, ge, hs⟩ := s_bind hs
    exact l_X8_leastNamed_58 hs
  rcases s_ite hs with ⟨c, hs⟩ | ⟨-, hs⟩
  · subst c
    unfold U_X8_leastNamed_70 at hs
    obtain ⟨a0, g0, hs⟩ := s_bind hs
    obtain ⟨a1, g1, hs⟩ := s_bind hs
    obtain ⟨a2, g2, hs⟩ := s_bind hs
    obtain ⟨a3, g3, hs⟩ := s_bind hs
    obtain ⟨a4, g4, hs⟩ := s_bind hs
    obtain ⟨u9, ge, hs⟩ := s_bind hs
    exact l_X8_leastNamed_70 hs
  rcases s_ite hs with ⟨c, hs⟩ | ⟨-, hs⟩
  · subst c
    unfold U_X8_leastNamed_108 at hs
    obtain ⟨a0, g0, hs⟩ := s_bind hs
    obtain ⟨a1, g1, hs⟩ := s_bind hs
    obtain ⟨a2, g2, hs⟩ := s_bind hs
    obtain ⟨a3, g3, hs⟩ := s_bind hs
    obtain ⟨a4, g4, hs⟩ := s_bind hs
    obtain ⟨u9, ge, hs⟩ := s_bind hs
    exact l_X8_leastNamed_108 hs
  rcases s_ite hs with ⟨c, hs⟩ | ⟨-, hs⟩
  · subst c
    unfold U_X8_leastNamed_151 at hs
    obtain ⟨a0, g0, hs⟩ := s_bind hs
    obtain ⟨a1, g1, hs⟩ := s_bind hs
    obtain ⟨a2, g2, hs⟩ := s_bind hs
    obtain ⟨a3, g3, hs⟩ := s_bind hs
    obtain ⟨u9, ge, hs⟩ := s_bind hs
    exact l_X8_leastNamed_151 hs
  cases hs
theorem l_X8_leastNamed {v0 : Nat} {v1 : Int32} {v2 : Int32} {σ : sS} {q : Int32 × sS} (h : F_X8_leastNamed v0 v1 v2 σ = some q) : s_le σ q.2 := by
  unfold F_X8_leastNamed at h
  obtain ⟨-, -, h⟩ := s_bind h
  exact s_run_ind (V := fun x r => s_le x.2.2 r.2) (fun x z r hs hk => by
    have h9 := l_X8_leastNamed_s hs
    cases z with
    | inl y => exact s_le.tr h9 hk
    | inr q => cases hk; exact h9) h
theorem b_X8_leastNamed {v0 : Nat} {v1 : Int32} {v2 : Int32} {σ : sS} {q : Int32 × sS} (h : F_X8_leastNamed v0 v1 v2 σ = some q) : ∃ fs, σ.1 v0 = some (.inr (8, fs)) := by
  unfold F_X8_leastNamed at h
  obtain ⟨u, hu, -⟩ := s_bind h
  exact s_is_to hu
set_option maxRecDepth 100000 in
set_option maxHeartbeats 4000000 in
theorem v_X8_leastNamed_0 {G : sG} {d : Nat} {vs0 : List Value} {σ0 : sS} {v0 : Nat} {v1 : Int32} {v2 : Int32} {σ : sS} {z : sZ Int32} {r : Int32 × sS} (hf : T_X8_leastNamed_0 v0 v1 v2 σ = some z) (k : s_K G (d + 4) M_X8_leastNamed vs0 σ0 Y_X8_leastNamed e_I z r) : s_V G (d + 4) M_X8_leastNamed vs0 σ0 Y_X8_leastNamed (0, [.ref v0, .int v1, .int v2], σ) (e_I r) := by
  have le0 : s_le σ (e_I r).2 := s_lek hem_I (l_X8_leastNamed_0 hf) k
  refine ⟨le0, ?_⟩
  intro p e s m below meth c H locs cells slots ls X I hn1 hn2 hl
  have hn : cells + σ0.2.1 ≤ σ.2.1 ∧ slots + σ0.2.2.1 ≤ σ.2.2.1 := ⟨hn1, hn2⟩
  have hl : lv_has ls 5 [(0, .ref v0), (1, .int v1), (2, .int v2)] := hl
  have hx := X.1
  have hb : c.code = cX8_leastNamed := X.2.1
  have hown : s.vm.findClass RX8 = some m.cls := X.2.2.2.2.2.1
  have hts := X.2.2.2.2.2.2.1
  refine W.eq (g2 := F0 m 0 ls []) rfl ?_
  unfold T_X8_leastNamed_0 at hf
  obtain ⟨x1, h1, hf⟩ := s_bind hf
  obtain ⟨σ2, h2, hf⟩ := s_bind hf
  cases hf
  have k : s_V G (d + 4) M_X8_leastNamed vs0 σ0 Y_X8_leastNamed (9, [.ref v0, .int v1, .int v2, .int 0], σ2) (e_I r) := k
  have le3 : s_le σ2 (e_I r).2 := k.1
  refine lv_iconst (v := 0) hx hb dX8_leastNamed_0 (by decide) ?_
  refine lv_istore_n (lv' := [(3, .int 0), (0, .ref v0), (1, .int v1), (2, .int v2)]) hx hb dX8_leastNamed_1 rfl hl (by decide) rfl (fun ls hl => ?_)
  refine lv_aload_n hx hb dX8_leastNamed_2 rfl (lv_at hl 1 rfl) ?_
  refine r_gr X I fl_X8_56 h1 dX8_leastNamed_3 ?_
  refine lv_iconst (v := 0) hx hb dX8_leastNamed_6 (by decide) ?_
  refine lv_iconst (v := (-1)) hx hb dX8_leastNamed_7 (by decide) ?_
  refine r_iast X I h2 dX8_leastNamed_8 (fun H locs I => ?_)
  have hn := s_k2 (s_si_2 h2) hn
  exact k.2 p e s m below meth c _ _ _ _ _ X I hn.1 hn.2 (lv_sub hl [1, 2, 3, 0] rfl)
set_option maxRecDepth 100000 in
set_option maxHeartbeats 4000000 in
theorem v_X8_leastNamed_9 {G : sG} {d : Nat} {vs0 : List Value} {σ0 : sS} {v0 : Nat} {v1 : Int32} {v2 : Int32} {v3 : Int32} {σ : sS} {z : sZ Int32} {r : Int32 × sS} (hf : T_X8_leastNamed_9 v0 v1 v2 v3 σ = some z) (k : s_K G (d + 4) M_X8_leastNamed vs0 σ0 Y_X8_leastNamed e_I z r) : s_V G (d + 4) M_X8_leastNamed vs0 σ0 Y_X8_leastNamed (9, [.ref v0, .int v1, .int v2, .int v3], σ) (e_I r) := by
  have le0 : s_le σ (e_I r).2 := s_lek hem_I (l_X8_leastNamed_9 hf) k
  refine ⟨le0, ?_⟩
  intro p e s m below meth c H locs cells slots ls X I hn1 hn2 hl
  have hn : cells + σ0.2.1 ≤ σ.2.1 ∧ slots + σ0.2.2.1 ≤ σ.2.2.1 := ⟨hn1, hn2⟩
  have hl : lv_has ls 5 [(0, .ref v0), (1, .int v1), (2, .int v2), (3, .int v3)] := hl
  have hx := X.1
  have hb : c.code = cX8_leastNamed := X.2.1
  have hown : s.vm.findClass RX8 = some m.cls := X.2.2.2.2.2.1
  have hts := X.2.2.2.2.2.2.1
  refine W.eq (g2 := F0 m 9 ls []) rfl ?_
  unfold T_X8_leastNamed_9 at hf
  refine lv_iload_n hx hb dX8_leastNamed_9 rfl (lv_at hl 3 rfl) ?_
  rcases s_ite hf with ⟨c1, hf⟩ | ⟨c1, hf⟩
  · refine lv_if_lt (tgt := 154) hx hb dX8_leastNamed_10 (by decide) (fun _ => ?_) (fun n => absurd c1 n)
    cases hf
    have k : _ = r := k
    subst k
    refine lv_iconst (v := (-1)) hx hb dX8_leastNamed_154 (by decide) ?_
    exact r_iret X I rfl rfl rfl hn dX8_leastNamed_155
  · refine lv_if_lt (tgt := 154) hx hb dX8_leastNamed_10 (by decide) (fun n => absurd n c1) (fun _ => ?_)
    refine lv_iload_n hx hb dX8_leastNamed_13 rfl (lv_at hl 3 rfl) ?_
    refine lv_iload_n hx hb dX8_leastNamed_14 rfl (lv_at hl 1 rfl) ?_
    rcases s_ite hf with ⟨c2, hf⟩ | ⟨c2, hf⟩
    · refine lv_icmp_ne (tgt := 39) hx hb dX8_leastNamed_15 (by decide) (fun n => absurd c2 n) (fun _ => ?_)
      obtain ⟨q4, h3, hf⟩ := s_bind hf
      have le4 : s_le q4.2 (e_I r).2 := by
        refine s_lek hem_I ?_ k
        rcases s_ite hf with ⟨-, hf⟩ | ⟨-, hf⟩
        · cases hf
          exact s_le.rf
        · obtain ⟨q5, hh, hf⟩ := s_bind hf
          refine s_lz.tr (l_X8_bitsOf hh) ?_
          cases hf
          exact s_le.rf
      refine lv_aload_n hx hb dX8_leastNamed_18 rfl (lv_at hl 0 rfl) ?_
      refine lv_iload_n hx hb dX8_leastNamed_19 rfl (lv_at hl 3 rfl) ?_
      refine lv_iload_n hx hb dX8_leastNamed_20 rfl (lv_at hl 2 rfl) ?_
      refine r_callV (Y := M_X8_isEnough) (v := some (.int q4.1)) X I w_2192 my_X8_isEnough (by omega) (t_X8_isEnough (G := G) (d := d + 2) h3) (b_X8_isEnough h3) rfl rfl hl.1 rfl (Nat.le_of_ble_eq_true rfl) hn le4 dX8_leastNamed_21 (fun H locs cells slots I hn1 hn2 => ?_)
      have I : s_I G q4.2 s H locs := I
      have hn : cells + σ0.2.1 ≤ q4.2.2.1 ∧ slots + σ0.2.2.1 ≤ q4.2.2.2.1 := ⟨hn1, hn2⟩
      rcases s_ite hf with ⟨c5, hf⟩ | ⟨c5, hf⟩
      · refine lv_if_eq (tgt := 33) hx hb dX8_leastNamed_24 (by decide) (fun _ => ?_) (fun n => absurd c5 n)
        cases hf
        have k : s_V G (d + 4) M_X8_leastNamed vs0 σ0 Y_X8_leastNamed (9, [.ref v0, .int v1, .int v2, .int (v3 + (-1))], q4.2) (e_I r) := k
        refine lv_iinc (v := (v3 + (-1))) (lv' := [(3, .int (v3 + (-1))), (0, .ref v0), (1, .int v1), (2, .int v2)]) hx hb dX8_leastNamed_33 hl (k := 3) rfl rfl (by decide) rfl (fun ls hl => ?_)
        refine lv_goto (tgt := 9) hx hb dX8_leastNamed_36 (by decide) ?_
        exact k.2 p e s m below meth c _ _ _ _ _ X I hn.1 hn.2 (lv_sub hl [1, 2, 3, 0] rfl)
      · refine lv_if_eq (tgt := 33) hx hb dX8_leastNamed_24 (by decide) (fun n => absurd n c5) (fun _ => ?_)
        obtain ⟨q5, h6, hf⟩ := s_bind hf
        cases hf
        have k : _ = r := k
        subst k
        have le7 : s_le q5.2 q5.2 := s_le.rf
        refine lv_aload_n hx hb dX8_leastNamed_27 rfl (lv_at hl 0 rfl) ?_
        refine lv_iload_n hx hb dX8_leastNamed_28 rfl (lv_at hl 1 rfl) ?_
        refine r_callV (Y := M_X8_bitsOf) (v := some (.int q5.1)) X I w_2196 my_X8_bitsOf (by omega) (t_X8_bitsOf (G := G) (d := d + 2) h6) (b_X8_bitsOf h6) rfl rfl hl.1 rfl (Nat.le_of_ble_eq_true rfl) hn le7 dX8_leastNamed_29 (fun H locs cells slots I hn1 hn2 => ?_)
        have I : s_I G q5.2 s H locs := I
        have hn : cells + σ0.2.1 ≤ q5.2.2.1 ∧ slots + σ0.2.2.1 ≤ q5.2.2.2.1 := ⟨hn1, hn2⟩
        exact r_iret X I rfl rfl rfl hn dX8_leastNamed_32
    · refine lv_icmp_ne (tgt := 39) hx hb dX8_leastNamed_15 (by decide) (fun _ => ?_) (fun n => absurd n c2)
      refine lv_iload_n hx hb dX8_leastNamed_39 rfl (lv_at hl 3 rfl) ?_
      rcases s_ite hf with ⟨c8, hf⟩ | ⟨c8, hf⟩
      · refine lv_if_ne (tgt := 50) hx hb dX8_leastNamed_40 (by decide) (fun n => absurd c8 n) (fun _ => ?_)
        obtain ⟨q3, h9, hf⟩ := s_bind hf
        cases hf
        have k : s_V G (d + 4) M_X8_leastNamed vs0 σ0 Y_X8_leastNamed (58, [.ref v0, .int v1, .int v2, .int v3, .int q3.1], q3.2) (e_I r) := k
        have le10 : s_le q3.2 (e_I r).2 := k.1
        refine lv_aload_n hx hb dX8_leastNamed_43 rfl (lv_at hl 0 rfl) ?_
        refine r_callV (Y := M_X8_formulas) (v := some (.int q3.1)) X I w_1813 my_X8_formulas (by omega) (t_X8_formulas (G := G) (d := d + 2) h9) (b_X8_formulas h9) rfl rfl hl.1 rfl (Nat.le_of_ble_eq_true rfl) hn le10 dX8_leastNamed_44 (fun H locs cells slots I hn1 hn2 => ?_)
        have I : s_I G q3.2 s H locs := I
        have hn : cells + σ0.2.1 ≤ q3.2.2.1 ∧ slots + σ0.2.2.1 ≤ q3.2.2.2.1 := ⟨hn1, hn2⟩
        refine lv_goto (tgt := 58) hx hb dX8_leastNamed_47 (by decide) ?_
        exact k.2 p e s m below meth c _ _ _ _ _ X I hn.1 hn.2 (lv_sub hl [0, 1, 2, 3] rfl)
      · refine lv_if_ne (tgt := 50) hx hb dX8_leastNamed_40 (by decide) (fun _ => ?_) (fun n => absurd n c8)
        obtain ⟨x1, h11, hf⟩ := s_bind hf
        obtain ⟨x2, h12, hf⟩ := s_bind hf
        cases hf
        have k : s_V G (d + 4) M_X8_leastNamed vs0 σ0 Y_X8_leastNamed (58, [.ref v0, .int v1, .int v2, .int v3, .int x2], σ) (e_I r) := k
        refine lv_aload_n hx hb dX8_leastNamed_50 rfl (lv_at hl 0 rfl) ?_
        refine r_gr X I fl_X8_56 h11 dX8_leastNamed_51 ?_
        refine lv_iload_n hx hb dX8_leastNamed_54 rfl (lv_at hl 3 rfl) ?_
        refine lv_iconst (v := 1) hx hb dX8_leastNamed_55 (by decide) ?_
        refine lv_isub hx hb dX8_leastNamed_56 ?_
        refine r_iald X I h12 dX8_leastNamed_57 ?_
        exact k.2 p e s m below meth c _ _ _ _ _ X I hn.1 hn.2 (lv_sub hl [0, 1, 2, 3] rfl)
set_option maxRecDepth 100000 in
set_option maxHeartbeats 4000000 in
theorem v_X8_leastNamed_58 {G : sG} {d : Nat} {vs0 : List Value} {σ0 : sS} {v0 : Nat} {v1 : Int32} {v2 : Int32} {v3 : Int32} {w0 : Int32} {σ : sS} {z : sZ Int32} {r : Int32 × sS} (hf : T_X8_leastNamed_58 v0 v1 v2 v3 w0 σ = some z) (k : s_K G (d + 4) M_X8_leastNamed vs0 σ0 Y_X8_leastNamed e_I z r) : s_V G (d + 4) M_X8_leastNamed vs0 σ0 Y_X8_leastNamed (58, [.ref v0, .int v1, .int v2, .int v3, .int w0], σ) (e_I r) := by
  have le0 : s_le σ (e_I r).2 := s_lek hem_I (l_X8_leastNamed_58 hf) k
  refine ⟨le0, ?_⟩
  intro p e s m below meth c H locs cells slots ls X I hn1 hn2 hl
  have hn : cells + σ0.2.1 ≤ σ.2.1 ∧ slots + σ0.2.2.1 ≤ σ.2.2.1 := ⟨hn1, hn2⟩
  have hl : lv_has ls 5 [(0, .ref v0), (1, .int v1), (2, .int v2), (3, .int v3)] := hl
  have hx := X.1
  have hb : c.code = cX8_leastNamed := X.2.1
  have hown : s.vm.findClass RX8 = some m.cls := X.2.2.2.2.2.1
  have hts := X.2.2.2.2.2.2.1
  refine W.eq (g2 := F0 m 58 ls [.int w0]) rfl ?_
  unfold T_X8_leastNamed_58 at hf
  obtain ⟨x1, h1, hf⟩ := s_bind hf
  obtain ⟨x2, h2, hf⟩ := s_bind hf
  obtain ⟨σ3, h3, hf⟩ := s_bind hf
  cases hf
  have k : s_V G (d + 4) M_X8_leastNamed vs0 σ0 Y_X8_leastNamed (70, [.ref v0, .int v1, .int v2, .int v3, .int w0], σ3) (e_I r) := k
  have le4 : s_le σ3 (e_I r).2 := k.1
  refine lv_istore (lv' := [(4, .int w0), (0, .ref v0), (1, .int v1), (2, .int v2), (3, .int v3)]) hx hb dX8_leastNamed_58 hl (by decide) rfl (fun ls hl => ?_)
  refine lv_aload_n hx hb dX8_leastNamed_60 rfl (lv_at hl 1 rfl) ?_
  refine r_gr X I fl_X8_56 h1 dX8_leastNamed_61 ?_
  refine lv_iload_n hx hb dX8_leastNamed_64 rfl (lv_at hl 4 rfl) ?_
  refine lv_dup2_11 hx hb dX8_leastNamed_65 rfl rfl ?_
  refine r_iald X I h2 dX8_leastNamed_66 ?_
  refine lv_iconst (v := 1) hx hb dX8_leastNamed_67 (by decide) ?_
  refine lv_iadd hx hb dX8_leastNamed_68 ?_
  refine r_iast X I h3 dX8_leastNamed_69 (fun H locs I => ?_)
  have hn := s_k2 (s_si_2 h3) hn
  exact k.2 p e s m below meth c _ _ _ _ _ X I hn.1 hn.2 (lv_sub hl [1, 2, 3, 4, 0] rfl)
set_option maxRecDepth 100000 in
set_option maxHeartbeats 4000000 in
theorem v_X8_leastNamed_70 {G : sG} {d : Nat} {vs0 : List Value} {σ0 : sS} {v0 : Nat} {v1 : Int32} {v2 : Int32} {v3 : Int32} {v4 : Int32} {σ : sS} {z : sZ Int32} {r : Int32 × sS} (hf : T_X8_leastNamed_70 v0 v1 v2 v3 v4 σ = some z) (k : s_K G (d + 4) M_X8_leastNamed vs0 σ0 Y_X8_leastNamed e_I z r) : s_V G (d + 4) M_X8_leastNamed vs0 σ0 Y_X8_leastNamed (70, [.ref v0, .int v1, .int v2, .int v3, .int v4], σ) (e_I r) := by
  have le0 : s_le σ (e_I r).2 := s_lek hem_I (l_X8_leastNamed_70 hf) k
  refine ⟨le0, ?_⟩
  intro p e s m below meth c H locs cells slots ls X I hn1 hn2 hl
  have hn : cells + σ0.2.1 ≤ σ.2.1 ∧ slots + σ0.2.2.1 ≤ σ.2.2.1 := ⟨hn1, hn2⟩
  have hl : lv_has ls 5 [(0, .ref v0), (1, .int v1), (2, .int v2), (3, .int v3), (4, .int v4)] := hl
  have hx := X.1
  have hb : c.code = cX8_leastNamed := X.2.1
  have hown : s.vm.findClass RX8 = some m.cls := X.2.2.2.2.2.1
  have hts := X.2.2.2.2.2.2.1
  refine W.eq (g2 := F0 m 70 ls []) rfl ?_
  unfold T_X8_leastNamed_70 at hf
  obtain ⟨x1, h1, hf⟩ := s_bind hf
  obtain ⟨x2, h2, hf⟩ := s_bind hf
  refine lv_aload_n hx hb dX8_leastNamed_70 rfl (lv_at hl 0 rfl) ?_
  refine r_gr X I fl_X8_56 h1 dX8_leastNamed_71 ?_
  refine lv_iload_n hx hb dX8_leastNamed_74 rfl (lv_at hl 3 rfl) ?_
  refine r_iald X I h2 dX8_leastNamed_75 ?_
  refine lv_iload hx hb dX8_leastNamed_76 (lv_at hl 4 rfl) ?_
  rcases s_ite hf with ⟨c3, hf⟩ | ⟨c3, hf⟩
  · refine lv_icmp_ge (tgt := 108) hx hb dX8_leastNamed_78 (by decide) (fun _ => ?_) (fun n => absurd c3 n)
    cases hf
    have k : s_V G (d + 4) M_X8_leastNamed vs0 σ0 Y_X8_leastNamed (108, [.ref v0, .int v1, .int v2, .int v3, .int v4], σ) (e_I r) := k
    exact k.2 p e s m below meth c _ _ _ _ _ X I hn.1 hn.2 (lv_sub hl [0, 1, 2, 3, 4] rfl)
  · refine lv_icmp_ge (tgt := 108) hx hb dX8_leastNamed_78 (by decide) (fun n => absurd n c3) (fun _ => ?_)
    obtain ⟨x3, h4, hf⟩ := s_bind hf
    obtain ⟨x4, h5, hf⟩ := s_bind hf
    obtain ⟨q5, h6, hf⟩ := s_bind hf
    have le7 : s_le q5.2 (e_I r).2 := by
      refine s_lek hem_I ?_ k
      rcases s_ite hf with ⟨-, hf⟩ | ⟨-, hf⟩
      · cases hf
        exact s_le.rf
      · obtain ⟨x6, -, hf⟩ := s_bind hf
        obtain ⟨x7, -, hf⟩ := s_bind hf
        obtain ⟨σ8, hh, hf⟩ := s_bind hf
        refine s_lz.tr (s_le2 (s_si_2 hh)) ?_
        cases hf
        exact s_le.rf
    refine lv_aload_n hx hb dX8_leastNamed_81 rfl (lv_at hl 0 rfl) ?_
    refine lv_aload_n hx hb dX8_leastNamed_82 rfl (lv_at hl 0 rfl) ?_
    refine r_gr X I fl_X8_56 h4 dX8_leastNamed_83 ?_
    refine lv_iload_n hx hb dX8_leastNamed_86 rfl (lv_at hl 3 rfl) ?_
    refine r_iald X I h5 dX8_leastNamed_87 ?_
    refine lv_iload_n hx hb dX8_leastNamed_88 rfl (lv_at hl 2 rfl) ?_
    refine r_callV (Y := M_X8_isSame) (v := some (.int q5.1)) X I w_1924 my_X8_isSame (by omega) (t_X8_isSame (G := G) (d := d + 0) h6) (b_X8_isSame h6) rfl rfl hl.1 rfl (Nat.le_of_ble_eq_true rfl) hn le7 dX8_leastNamed_89 (fun H locs cells slots I hn1 hn2 => ?_)
    have I : s_I G q5.2 s H locs := I
    have hn : cells + σ0.2.1 ≤ q5.2.2.1 ∧ slots + σ0.2.2.1 ≤ q5.2.2.2.1 := ⟨hn1, hn2⟩
    rcases s_ite hf with ⟨c8, hf⟩ | ⟨c8, hf⟩
    · refine lv_if_eq (tgt := 108) hx hb dX8_leastNamed_92 (by decide) (fun _ => ?_) (fun n => absurd c8 n)
      cases hf
      have k : s_V G (d + 4) M_X8_leastNamed vs0 σ0 Y_X8_leastNamed (108, [.ref v0, .int v1, .int v2, .int v3, .int v4], q5.2) (e_I r) := k
      exact k.2 p e s m below meth c _ _ _ _ _ X I hn.1 hn.2 (lv_sub hl [0, 1, 2, 3, 4] rfl)
    · refine lv_if_eq (tgt := 108) hx hb dX8_leastNamed_92 (by decide) (fun n => absurd n c8) (fun _ => ?_)
      obtain ⟨x6, h9, hf⟩ := s_bind hf
      obtain ⟨x7, h10, hf⟩ := s_bind hf
      obtain ⟨σ8, h11, hf⟩ := s_bind hf
      cases hf
      have k : s_V G (d + 4) M_X8_leastNamed vs0 σ0 Y_X8_leastNamed (70, [.ref v0, .int v1, .int v2, .int v3, .int v4], σ8) (e_I r) := k
      have le12 : s_le σ8 (e_I r).2 := k.1
      refine lv_aload_n hx hb dX8_leastNamed_95 rfl (lv_at hl 0 rfl) ?_
      refine r_gr X I fl_X8_56 h9 dX8_leastNamed_96 ?_
      refine lv_iload_n hx hb dX8_leastNamed_99 rfl (lv_at hl 3 rfl) ?_
      refine lv_dup2_11 hx hb dX8_leastNamed_100 rfl rfl ?_
      refine r_iald X I h10 dX8_leastNamed_101 ?_
      refine lv_iconst (v := 1) hx hb dX8_leastNamed_102 (by decide) ?_
      refine lv_iadd hx hb dX8_leastNamed_103 ?_
      refine r_iast X I h11 dX8_leastNamed_104 (fun H locs I => ?_)
      have hn := s_k2 (s_si_2 h11) hn
      refine lv_goto (tgt := 70) hx hb dX8_leastNamed_105 (by decide) ?_
      exact k.2 p e s m below meth c _ _ _ _ _ X I hn.1 hn.2 (lv_sub hl [0, 1, 2, 3, 4] rfl)
set_option maxRecDepth 100000 in
set_option maxHeartbeats 4000000 in
theorem v_X8_leastNamed_108 {G : sG} {d : Nat} {vs0 : List Value} {σ0 : sS} {v0 : Nat} {v1 : Int32} {v2 : Int32} {v3 : Int32} {v4 : Int32} {σ : sS} {z : sZ Int32} {r : Int32 × sS} (hf : T_X8_leastNamed_108 v0 v1 v2 v3 v4 σ = some z) (k : s_K G (d + 4) M_X8_leastNamed vs0 σ0 Y_X8_leastNamed e_I z r) : s_V G (d + 4) M_X8_leastNamed vs0 σ0 Y_X8_leastNamed (108, [.ref v0, .int v1, .int v2, .int v3, .int v4], σ) (e_I r) := by
  have le0 : s_le σ (e_I r).2 := s_lek hem_I (l_X8_leastNamed_108 hf) k
  refine ⟨le0, ?_⟩
  intro p e s m below meth c H locs cells slots ls X I hn1 hn2 hl
  have hn : cells + σ0.2.1 ≤ σ.2.1 ∧ slots + σ0.2.2.1 ≤ σ.2.2.1 := ⟨hn1, hn2⟩
  have hl : lv_has ls 5 [(0, .ref v0), (1, .int v1), (2, .int v2), (3, .int v3), (4, .int v4)] := hl
  have hx := X.1
  have hb : c.code = cX8_leastNamed := X.2.1
  have hown : s.vm.findClass RX8 = some m.cls := X.2.2.2.2.2.1
  have hts := X.2.2.2.2.2.2.1
  refine W.eq (g2 := F0 m 108 ls []) rfl ?_
  unfold T_X8_leastNamed_108 at hf
  obtain ⟨x1, h1, hf⟩ := s_bind hf
  obtain ⟨x2, h2, hf⟩ := s_bind hf
  refine lv_aload_n hx hb dX8_leastNamed_108 rfl (lv_at hl 0 rfl) ?_
  refine r_gr X I fl_X8_56 h1 dX8_leastNamed_109 ?_
  refine lv_iload_n hx hb dX8_leastNamed_112 rfl (lv_at hl 3 rfl) ?_
  refine r_iald X I h2 dX8_leastNamed_113 ?_
  refine lv_iload hx hb dX8_leastNamed_114 (lv_at hl 4 rfl) ?_
  rcases s_ite hf with ⟨c3, hf⟩ | ⟨c3, hf⟩
  · refine lv_icmp_lt (tgt := 125) hx hb dX8_leastNamed_116 (by decide) (fun _ => ?_) (fun n => absurd c3 n)
    obtain ⟨x3, h4, hf⟩ := s_bind hf
    obtain ⟨x4, h5, hf⟩ := s_bind hf
    obtain ⟨q5, h6, hf⟩ := s_bind hf
    have le7 : s_le q5.2 (e_I r).2 := by
      refine s_lek hem_I ?_ k
      rcases s_ite hf with ⟨-, hf⟩ | ⟨-, hf⟩
      · cases hf
        exact s_le.rf
      · obtain ⟨x6, -, hf⟩ := s_bind hf
        obtain ⟨σ7, hh, hf⟩ := s_bind hf
        refine s_lz.tr (s_le2 (s_si_2 hh)) ?_
        cases hf
        exact s_le.rf
    refine lv_aload_n hx hb dX8_leastNamed_125 rfl (lv_at hl 0 rfl) ?_
    refine lv_iload_n hx hb dX8_leastNamed_126 rfl (lv_at hl 3 rfl) ?_
    refine lv_aload_n hx hb dX8_leastNamed_127 rfl (lv_at hl 0 rfl) ?_
    refine r_gr X I fl_X8_56 h4 dX8_leastNamed_128 ?_
    refine lv_iload_n hx hb dX8_leastNamed_131 rfl (lv_at hl 3 rfl) ?_
    refine r_iald X I h5 dX8_leastNamed_132 ?_
    refine r_callV (Y := M_X8_narrows) (v := none) X I w_2200 my_X8_narrows (by omega) (t_X8_narrows (G := G) (d := d + 2) h6) (b_X8_narrows h6) rfl rfl hl.1 rfl (Nat.le_of_ble_eq_true rfl) hn le7 dX8_leastNamed_133 (fun H locs cells slots I hn1 hn2 => ?_)
    have I : s_I G q5.2 s H locs := I
    have hn : cells + σ0.2.1 ≤ q5.2.2.1 ∧ slots + σ0.2.2.1 ≤ q5.2.2.2.1 := ⟨hn1, hn2⟩
    refine lv_iinc (v := (v3 + 1)) (lv' := [(3, .int (v3 + 1)), (0, .ref v0), (1, .int v1), (2, .int v2), (4, .int v4)]) hx hb dX8_leastNamed_136 hl (k := 3) rfl rfl (by decide) rfl (fun ls hl => ?_)
    refine lv_iload_n hx hb dX8_leastNamed_139 rfl (lv_at hl 0 rfl) ?_
    refine lv_iload_n hx hb dX8_leastNamed_140 rfl (lv_at hl 2 rfl) ?_
    rcases s_ite hf with ⟨c8, hf⟩ | ⟨c8, hf⟩
    · refine lv_icmp_ge (tgt := 151) hx hb dX8_leastNamed_141 (by decide) (fun _ => ?_) (fun n => absurd c8 n)
      cases hf
      have k : s_V G (d + 4) M_X8_leastNamed vs0 σ0 Y_X8_leastNamed (151, [.ref v0, .int v1, .int v2, .int (v3 + 1)], q5.2) (e_I r) := k
      exact k.2 p e s m below meth c _ _ _ _ _ X I hn.1 hn.2 (lv_sub hl [1, 2, 3, 0] rfl)
    · refine lv_icmp_ge (tgt := 151) hx hb dX8_leastNamed_141 (by decide) (fun n => absurd n c8) (fun _ => ?_)
      obtain ⟨x6, h9, hf⟩ := s_bind hf
      obtain ⟨σ7, h10, hf⟩ := s_bind hf
      cases hf
      have k : s_V G (d + 4) M_X8_leastNamed vs0 σ0 Y_X8_leastNamed (151, [.ref v0, .int v1, .int v2, .int (v3 + 1)], σ7) (e_I r) := k
      have le11 : s_le σ7 (e_I r).2 := k.1
      refine lv_aload_n hx hb dX8_leastNamed_144 rfl (lv_at hl 1 rfl) ?_
      refine r_gr X I fl_X8_56 h9 dX8_leastNamed_145 ?_
      refine lv_iload_n hx hb dX8_leastNamed_148 rfl (lv_at hl 0 rfl) ?_
      refine lv_iconst (v := (-1)) hx hb dX8_leastNamed_149 (by decide) ?_
      refine r_iast X I h10 dX8_leastNamed_150 (fun H locs I => ?_)
      have hn := s_k2 (s_si_2 h10) hn
      exact k.2 p e s m below meth c _ _ _ _ _ X I hn.1 hn.2 (lv_sub hl [1, 2, 3, 0] rfl)
  · refine lv_icmp_lt (tgt := 125) hx hb dX8_leastNamed_116 (by decide) (fun n => absurd n c3) (fun _ => ?_)
    cases hf
    have k : s_V G (d + 4) M_X8_leastNamed vs0 σ0 Y_X8_leastNamed (9, [.ref v0, .int v1, .int v2, .int (v3 + (-1))], σ) (e_I r) := k
    refine lv_iinc (v := (v3 + (-1))) (lv' := [(3, .int (v3 + (-1))), (0, .ref v0), (1, .int v1), (2, .int v2), (4, .int v4)]) hx hb dX8_leastNamed_119 hl (k := 3) rfl rfl (by decide) rfl (fun ls hl => ?_)
    refine lv_goto (tgt := 9) hx hb dX8_leastNamed_122 (by decide) ?_
    exact k.2 p e s m below meth c _ _ _ _ _ X I hn.1 hn.2 (lv_sub hl [1, 2, 3, 0] rfl)
set_option maxRecDepth 100000 in
set_option maxHeartbeats 4000000 in
theorem v_X8_leastNamed_151 {G : sG} {d : Nat} {vs0 : List Value} {σ0 : sS} {v0 : Nat} {v1 : Int32} {v2 : Int32} {v3 : Int32} {σ : sS} {z : sZ Int32} {r : Int32 × sS} (hf : T_X8_leastNamed_151 v0 v1 v2 v3 σ = some z) (k : s_K G (d + 4) M_X8_leastNamed vs0 σ0 Y_X8_leastNamed e_I z r) : s_V G (d + 4) M_X8_leastNamed vs0 σ0 Y_X8_leastNamed (151, [.ref v0, .int v1, .int v2, .int v3], σ) (e_I r) := by
  have le0 : s_le σ (e_I r).2 := s_lek hem_I (l_X8_leastNamed_151 hf) k
  refine ⟨le0, ?_⟩
  intro p e s m below meth c H locs cells slots ls X I hn1 hn2 hl
  have hn : cells + σ0.2.1 ≤ σ.2.1 ∧ slots + σ0.2.2.1 ≤ σ.2.2.1 := ⟨hn1, hn2⟩
  have hl : lv_has ls 5 [(0, .ref v0), (1, .int v1), (2, .int v2), (3, .int v3)] := hl
  have hx := X.1
  have hb : c.code = cX8_leastNamed := X.2.1
  have hown : s.vm.findClass RX8 = some m.cls := X.2.2.2.2.2.1
  have hts := X.2.2.2.2.2.2.1
  refine W.eq (g2 := F0 m 151 ls []) rfl ?_
  unfold T_X8_leastNamed_151 at hf
  cases hf
  have k : s_V G (d + 4) M_X8_leastNamed vs0 σ0 Y_X8_leastNamed (9, [.ref v0, .int v1, .int v2, .int v3], σ) (e_I r) := k
  refine lv_goto (tgt := 9) hx hb dX8_leastNamed_151 (by decide) ?_
  exact k.2 p e s m below meth c _ _ _ _ _ X I hn.1 hn.2 (lv_sub hl [0, 1, 2, 3] rfl)
theorem v_X8_leastNamed {G : sG} {d : Nat} {vs0 : List Value} {σ0 : sS} {x : sL} {z : sZ Int32} {r : Int32 × sS} (hs : S_X8_leastNamed x = some z) (k : s_K G (d + 4) M_X8_leastNamed vs0 σ0 Y_X8_leastNamed e_I z r) : s_V G (d + 4) M_X8_leastNamed vs0 σ0 Y_X8_leastNamed x (e_I r) := by
  obtain ⟨pc, vs, σ⟩ := x
  unfold S_X8_leastNamed at hs
  dsimp only at hs
  rcases s_ite hs with ⟨c, hs⟩ | ⟨-, hs⟩
  · subst c
    unfold U_X8_leastNamed_0 at hs
    obtain ⟨a0, g0, hs⟩ := s_bind hs
    obtain ⟨a1, g1, hs⟩ := s_bind hs
    obtain ⟨a2, g2, hs⟩ := s_bind hs
    obtain ⟨u9, ge, hs⟩ := s_bind hs
    rw [g_r_to g0, g_i_to g1, g_i_to g2, g_e_to ge]
    exact v_X8_leastNamed_0 hs k
  rcases s_ite hs with ⟨c, hs⟩ | ⟨-, hs⟩
  · subst c
    unfold U_X8_leastNamed_9 at hs
    obtain ⟨a0, g0, hs⟩ := s_bind hs
    obtain ⟨a1, g1, hs⟩ := s_bind hs
    obtain ⟨a2, g2, hs⟩ := s_bind hs
    obtain ⟨a3, g3, hs⟩ := s_bind hs
    obtain ⟨u9, ge, hs⟩ := s_bind hs
    rw [g_r_to g0, g_i_to g1, g_i_to g2, g_i_to g3, g_e_to ge]
    exact v_X8_leastNamed_9 hs k
  rcases s_ite hs with ⟨c, hs⟩ | ⟨-, hs⟩
  · subst c
    unfold U_X8_leastNamed_58 at hs
    obtain ⟨a0, g0, hs⟩ := s_bind hs
    obtain ⟨a1, g1, hs⟩ := s_bind hs
    obtain ⟨a2, g2, hs⟩ := s_bind hs
    obtain ⟨a3, g3, hs⟩ := s_bind hs
    obtain ⟨a4, g4, hs⟩ := s_bind hs
    obtain ⟨u9, ge, hs⟩ := s_bind hs
    rw [g_r_to g0, g_i_to g1, g_i_to g2, g_i_to g3, g_i_to g4, g_e_to ge]
    exact v_X8_leastNamed_58 hs k
  rcases s_ite hs with ⟨c, hs⟩ | ⟨-, hs⟩
  · subst c
    unfold U_X8_leastNamed_70 at hs
    obtain ⟨a0, g0, hs⟩ := s_bind hs
    obtain ⟨a1, g1, hs⟩ := s_bind hs
    obtain ⟨a2, g2, hs⟩ := s_bind hs
    obtain ⟨a3, g3, hs⟩ := s_bind hs
    obtain ⟨a4, g4, hs⟩ := s_bind hs
    obtain ⟨u9, ge, hs⟩ := s_bind hs
    rw [g_r_to g0, g_i_to g1, g_i_to g2, g_i_to g3, g_i_to g4, g_e_to ge]
    exact v_X8_leastNamed_70 hs k
  rcases s_ite hs with ⟨c, hs⟩ | ⟨-, hs⟩
  · subst c
    unfold U_X8_leastNamed_108 at hs
    obtain ⟨a0, g0, hs⟩ := s_bind hs
    obtain ⟨a1, g1, hs⟩ := s_bind hs
    obtain ⟨a2, g2, hs⟩ := s_bind hs
    obtain ⟨a3, g3, hs⟩ := s_bind hs
    obtain ⟨a4, g4, hs⟩ := s_bind hs
    obtain ⟨u9, ge, hs⟩ := s_bind hs
    rw [g_r_to g0, g_i_to g1, g_i_to g2, g_i_to g3, g_i_to g4, g_e_to ge]
    exact v_X8_leastNamed_108 hs k
  rcases s_ite hs with ⟨c, hs⟩ | ⟨-, hs⟩
  · subst c
    unfold U_X8_leastNamed_151 at hs
    obtain ⟨a0, g0, hs⟩ := s_bind hs
    obtain ⟨a1, g1, hs⟩ := s_bind hs
    obtain ⟨a2, g2, hs⟩ := s_bind hs
    obtain ⟨a3, g3, hs⟩ := s_bind hs
    obtain ⟨u9, ge, hs⟩ := s_bind hs
    rw [g_r_to g0, g_i_to g1, g_i_to g2, g_i_to g3, g_e_to ge]
    exact v_X8_leastNamed_151 hs k
  cases hs
theorem t_X8_leastNamed {G : sG} {d : Nat} {v0 : Nat} {v1 : Int32} {v2 : Int32} {σ : sS} {q : Int32 × sS} (h : F_X8_leastNamed v0 v1 v2 σ = some q) : s_T G (d + 4) M_X8_leastNamed [.ref v0, .int v1, .int v2] σ (e_I q) := by
  unfold F_X8_leastNamed at h
  obtain ⟨-, -, h⟩ := s_bind h
  exact s_ofV rfl (by decide) (Nat.le_of_ble_eq_true rfl) rfl rfl (s_run_ind (V := fun x r => s_V G (d + 4) M_X8_leastNamed [.ref v0, .int v1, .int v2] σ Y_X8_leastNamed x (e_I r)) (fun x z r hs hk => v_X8_leastNamed hs (by cases z <;> exact hk)) h)
