/-! X0_costOf -/
noncomputable def T_X0_costOf_0 (v0 : Nat) (v1 : Int32) (σ : sS) : Option (sZ Int32) :=
  (s_fr σ v0 0 4).bind fun x1 =>
  (s_fr σ v0 0 5).bind fun x2 =>
  (F_X1_nodeOfLine x2 v1 σ).bind fun q3 =>
  (F_X2_signsOf x1 q3.1 q3.2).bind fun q4 =>
  (s_fr q4.2 v0 0 5).bind fun x5 =>
  (s_fr q4.2 v0 0 5).bind fun x6 =>
  (F_X1_ofLine x6 v1 0 q4.2).bind fun q7 =>
  (s_fr q7.2 v0 0 5).bind fun x8 =>
  (F_X1_ofLine x8 v1 2 q7.2).bind fun q9 =>
  (F_X1_costOf x5 q7.1 q9.1 q4.1 q9.2).bind fun q10 =>
  some (.inr (q10.1, q10.2))
noncomputable def U_X0_costOf_0 (vs : List Value) (σ : sS) : Option (sZ Int32) := (g_r vs).bind fun a0 => (g_i a0.2).bind fun a1 => (g_e a1.2).bind fun _ => T_X0_costOf_0 a0.1 a1.1 σ
noncomputable def S_X0_costOf (x : sL) : Option (sZ Int32) := if x.1 = 0 then U_X0_costOf_0 x.2.1 x.2.2 else none
def Y_X0_costOf (pc : Nat) : List Nat := if pc = 0 then [0, 1] else []
noncomputable def F_X0_costOf (v0 : Nat) (v1 : Int32) (σ : sS) : Option (Int32 × sS) := (s_is σ v0 0).bind fun _ => s_run S_X0_costOf (0, [.ref v0, .int v1], σ)
theorem l_X0_costOf_0 {v0 : Nat} {v1 : Int32} {σ : sS} {z : sZ Int32} (hf : T_X0_costOf_0 v0 v1 σ = some z) : s_lz σ z := by
  unfold T_X0_costOf_0 at hf
  obtain ⟨x1, -, hf⟩ := s_bind hf
  obtain ⟨x2, -, hf⟩ := s_bind hf
  obtain ⟨q3, hh, hf⟩ := s_bind hf
  refine s_lz.tr (l_X1_nodeOfLine hh) ?_
  obtain ⟨q4, hh, hf⟩ := s_bind hf
  refine s_lz.tr (l_X2_signsOf hh) ?_
  obtain ⟨x5, -, hf⟩ := s_bind hf
  obtain ⟨x6, -, hf⟩ := s_bind hf
  obtain ⟨q7, hh, hf⟩ := s_bind hf
  refine s_lz.tr (l_X1_ofLine hh) ?_
  obtain ⟨x8, -, hf⟩ := s_bind hf
  obtain ⟨q9, hh, hf⟩ := s_bind hf
  refine s_lz.tr (l_X1_ofLine hh) ?_
  obtain ⟨q10, hh, hf⟩ := s_bind hf
  refine s_lz.tr (l_X1_costOf hh) ?_
  cases hf
  exact s_le.rf
theorem l_X0_costOf_s {x : sL} {z : sZ Int32} (hs : S_X0_costOf x = some z) : s_lz x.2.2 z := by
  obtain ⟨pc, vs, σ⟩ := x
  unfold S_X0_costOf at hs
  dsimp only at hs ⊢
  rcases s_ite hs with ⟨c, hs⟩ | ⟨-, hs⟩
  · subst c
    unfold U_X0_costOf_0 at hs
    obtain ⟨a0, g0, hs⟩ := s_bind hs
    obtain ⟨a1, g1, hs⟩ := s_bind hs
    obtain ⟨u9, ge, hs⟩ := s_bind hs
    exact l_X0_costOf_0 hs
  cases hs
theorem l_X0_costOf {v0 : Nat} {v1 : Int32} {σ : sS} {q : Int32 × sS} (h : F_X0_costOf v0 v1 σ = some q) : s_le σ q.2 := by
  unfold F_X0_costOf at h
  obtain ⟨-, -, h⟩ := s_bind h
  exact s_run_ind (V := fun x r => s_le x.2.2 r.2) (fun x z r hs hk => by
    have h9 := l_X0_costOf_s hs
    cases z with
    | inl y => exact s_le.tr h9 hk
    | inr q => cases hk; exact h9) h
theorem b_X0_costOf {v0 : Nat} {v1 : Int32} {σ : sS} {q : Int32 × sS} (h : F_X0_costOf v0 v1 σ = some q) : ∃ fs, σ.1 v0 = some (.inr (0, fs)) := by
  unfold F_X0_costOf at h
  obtain ⟨u, hu, -⟩ := s_bind h
  exact s_is_to hu
set_option maxRecDepth 100000 in
set_option maxHeartbeats 4000000 in
theorem v_X0_costOf_0 {G : sG} {d : Nat} {vs0 : List Value} {σ0 : sS} {v0 : Nat} {v1 : Int32} {σ : sS} {z : sZ Int32} {r : Int32 × sS} (hf : T_X0_costOf_0 v0 v1 σ = some z) (k : s_K G (d + 3) M_X0_costOf vs0 σ0 Y_X0_costOf e_I z r) : s_V G (d + 3) M_X0_costOf vs0 σ0 Y_X0_costOf (0, [.ref v0, .int v1], σ) (e_I r) := by
  have le0 : s_le σ (e_I r).2 := s_lek hem_I (l_X0_costOf_0 hf) k
  refine ⟨le0, ?_⟩
  intro p e s m below meth c H locs cells slots ls X I hn1 hn2 hl
  have hn : cells + σ0.2.1 ≤ σ.2.1 ∧ slots + σ0.2.2.1 ≤ σ.2.2.1 := ⟨hn1, hn2⟩
  have hl : lv_has ls 3 [(0, .ref v0), (1, .int v1)] := hl
  have hx := X.1
  have hb : c.code = cX0_costOf := X.2.1
  have hown : s.vm.findClass RX0 = some m.cls := X.2.2.2.2.2.1
  have hts := X.2.2.2.2.2.2.1
  refine W.eq (g2 := F0 m 0 ls []) rfl ?_
  unfold T_X0_costOf_0 at hf
  obtain ⟨x1, h1, hf⟩ := s_bind hf
  obtain ⟨x2, h2, hf⟩ := s_bind hf
  obtain ⟨q3, h3, hf⟩ := s_bind hf
  obtain ⟨q4, h4, hf⟩ := s_bind hf
  obtain ⟨x5, h5, hf⟩ := s_bind hf
  obtain ⟨x6, h6, hf⟩ := s_bind hf
  obtain ⟨q7, h7, hf⟩ := s_bind hf
  obtain ⟨x8, h8, hf⟩ := s_bind hf
  obtain ⟨q9, h9, hf⟩ := s_bind hf
  obtain ⟨q10, h10, hf⟩ := s_bind hf
  cases hf
  have k : _ = r := k
  subst k
  have le11 : s_le q10.2 q10.2 := s_le.rf
  have le12 := s_le.tr (l_X1_costOf h10) le11
  have le13 := s_le.tr (l_X1_ofLine h9) le12
  have le14 := s_le.tr (l_X1_ofLine h7) le13
  have le15 := s_le.tr (l_X2_signsOf h4) le14
  refine lv_aload_n hx hb dX0_costOf_0 rfl (lv_at hl 0 rfl) ?_
  refine r_gr X I fl_X0_9 h1 dX0_costOf_1 ?_
  refine lv_aload_n hx hb dX0_costOf_4 rfl (lv_at hl 0 rfl) ?_
  refine r_gr X I fl_X0_15 h2 dX0_costOf_5 ?_
  refine lv_iload_n hx hb dX0_costOf_8 rfl (lv_at hl 1 rfl) ?_
  refine r_callV (Y := M_X1_nodeOfLine) (v := some (.int q3.1)) X I w_525 my_X1_nodeOfLine (by omega) (t_X1_nodeOfLine (G := G) (d := d + 0) h3) (b_X1_nodeOfLine h3) rfl rfl hl.1 rfl (Nat.le_of_ble_eq_true rfl) hn le15 dX0_costOf_9 (fun H locs cells slots I hn1 hn2 => ?_)
  have I : s_I G q3.2 s H locs := I
  have hn : cells + σ0.2.1 ≤ q3.2.2.1 ∧ slots + σ0.2.2.1 ≤ q3.2.2.2.1 := ⟨hn1, hn2⟩
  refine r_callV (Y := M_X2_signsOf) (v := some (.int q4.1)) X I w_633 my_X2_signsOf (by omega) (t_X2_signsOf (G := G) (d := d + 1) h4) (b_X2_signsOf h4) rfl rfl hl.1 rfl (Nat.le_of_ble_eq_true rfl) hn le14 dX0_costOf_12 (fun H locs cells slots I hn1 hn2 => ?_)
  have I : s_I G q4.2 s H locs := I
  have hn : cells + σ0.2.1 ≤ q4.2.2.1 ∧ slots + σ0.2.2.1 ≤ q4.2.2.2.1 := ⟨hn1, hn2⟩
  refine lv_istore_n (lv' := [(2, .int q4.1), (0, .ref v0), (1, .int v1)]) hx hb dX0_costOf_15 rfl hl (by decide) rfl (fun ls hl => ?_)
  refine lv_aload_n hx hb dX0_costOf_16 rfl (lv_at hl 1 rfl) ?_
  refine r_gr X I fl_X0_15 h5 dX0_costOf_17 ?_
  refine lv_aload_n hx hb dX0_costOf_20 rfl (lv_at hl 1 rfl) ?_
  refine r_gr X I fl_X0_15 h6 dX0_costOf_21 ?_
  refine lv_iload_n hx hb dX0_costOf_24 rfl (lv_at hl 2 rfl) ?_
  refine lv_iconst (v := 0) hx hb dX0_costOf_25 (by decide) ?_
  refine r_callV (Y := M_X1_ofLine) (v := some (.int q7.1)) X I w_517 my_X1_ofLine (by omega) (t_X1_ofLine (G := G) (d := d + 1) h7) (b_X1_ofLine h7) rfl rfl hl.1 rfl (Nat.le_of_ble_eq_true rfl) hn le13 dX0_costOf_26 (fun H locs cells slots I hn1 hn2 => ?_)
  have I : s_I G q7.2 s H locs := I
  have hn : cells + σ0.2.1 ≤ q7.2.2.1 ∧ slots + σ0.2.2.1 ≤ q7.2.2.2.1 := ⟨hn1, hn2⟩
  refine lv_aload_n hx hb dX0_costOf_29 rfl (lv_at hl 1 rfl) ?_
  refine r_gr X I fl_X0_15 h8 dX0_costOf_30 ?_
  refine lv_iload_n hx hb dX0_costOf_33 rfl (lv_at hl 2 rfl) ?_
  refine lv_iconst (v := 2) hx hb dX0_costOf_34 (by decide) ?_
  refine r_callV (Y := M_X1_ofLine) (v := some (.int q9.1)) X I w_517 my_X1_ofLine (by omega) (t_X1_ofLine (G := G) (d := d + 1) h9) (b_X1_ofLine h9) rfl rfl hl.1 rfl (Nat.le_of_ble_eq_true rfl) hn le12 dX0_costOf_35 (fun H locs cells slots I hn1 hn2 => ?_)
  have I : s_I G q9.2 s H locs := I
  have hn : cells + σ0.2.1 ≤ q9.2.2.1 ∧ slots + σ0.2.2.1 ≤ q9.2.2.2.1 := ⟨hn1, hn2⟩
  refine lv_iload_n hx hb dX0_costOf_38 rfl (lv_at hl 0 rfl) ?_
  refine r_callV (Y := M_X1_costOf) (v := some (.int q10.1)) X I w_637 my_X1_costOf (by omega) (t_X1_costOf (G := G) (d := d + 0) h10) (b_X1_costOf h10) rfl rfl hl.1 rfl (Nat.le_of_ble_eq_true rfl) hn le11 dX0_costOf_39 (fun H locs cells slots I hn1 hn2 => ?_)
  have I : s_I G q10.2 s H locs := I
  have hn : cells + σ0.2.1 ≤ q10.2.2.1 ∧ slots + σ0.2.2.1 ≤ q10.2.2.2.1 := ⟨hn1, hn2⟩
  exact r_iret X I rfl rfl rfl hn dX0_costOf_42
theorem v_X0_costOf {G : sG} {d : Nat} {vs0 : List Value} {σ0 : sS} {x : sL} {z : sZ Int32} {r : Int32 × sS} (hs : S_X0_costOf x = some z) (k : s_K G (d + 3) M_X0_costOf vs0 σ0 Y_X0_costOf e_I z r) : s_V G (d + 3) M_X0_costOf vs0 σ0 Y_X0_costOf x (e_I r) := by
  obtain ⟨pc, vs, σ⟩ := x
  unfold S_X0_costOf at hs
  dsimp only at hs
  rcases s_ite hs with ⟨c, hs⟩ | ⟨-, hs⟩
  · subst c
    unfold U_X0_costOf_0 at hs
    obtain ⟨a0, g0, hs⟩ := s_bind hs
    obtain ⟨a1, g1, hs⟩ := s_bind hs
    obtain ⟨u9, ge, hs⟩ := s_bind hs
    rw [g_r_to g0, g_i_to g1, g_e_to ge]
    exact v_X0_costOf_0 hs k
  cases hs
theorem t_X0_costOf {G : sG} {d : Nat} {v0 : Nat} {v1 : Int32} {σ : sS} {q : Int32 × sS} (h : F_X0_costOf v0 v1 σ = some q) : s_T G (d + 3) M_X0_costOf [.ref v0, .int v1] σ (e_I q) := by
  unfold F_X0_costOf at h
  obtain ⟨-, -, h⟩ := s_bind h
  exact s_ofV rfl (by decide) (Nat.le_of_ble_eq_true rfl) rfl rfl (s_run_ind (V := fun x r => s_V G (d + 3) M_X0_costOf [.ref v0, .int v1] σ Y_X0_costOf x (e_I r)) (fun x z r hs hk => v_X0_costOf hs (by cases z <;> exact hk)) h)
/-! X7_look -/
noncomputable def T_X7_look_0 (v0 : Nat) (v1 : Int32) (v2 : Int32) (σ : sS) : Option (sZ (Int32 ⊕ String)) :=
  (F_X7_needLine v0 v1 σ).bind fun q1 => s_sum q1.1 (fun x2 => if v2 < 0 then (some (.inr (.inr "java/util/NoSuchElementException", s_ex q1.2)))
  else (if v2 ≤ 6 then (if v2 = 6 then ((s_fr q1.2 v0 7 5).bind fun x6 =>
  (F_X0_costOf x6 v1 q1.2).bind fun q7 =>
  some (.inr (.inl q7.1, q7.2)))
  else ((s_fr q1.2 v0 7 1).bind fun x4 =>
  (F_X1_ofLine x4 v1 v2 q1.2).bind fun q5 =>
  some (.inr (.inl q5.1, q5.2))))
  else (some (.inr (.inr "java/util/NoSuchElementException", s_ex q1.2))))) (fun E3 => some (.inr (.inr E3, q1.2)))
noncomputable def U_X7_look_0 (vs : List Value) (σ : sS) : Option (sZ (Int32 ⊕ String)) := (g_r vs).bind fun a0 => (g_i a0.2).bind fun a1 => (g_i a1.2).bind fun a2 => (g_e a2.2).bind fun _ => T_X7_look_0 a0.1 a1.1 a2.1 σ
noncomputable def S_X7_look (x : sL) : Option (sZ (Int32 ⊕ String)) := if x.1 = 0 then U_X7_look_0 x.2.1 x.2.2 else none
def Y_X7_look (pc : Nat) : List Nat := if pc = 0 then [0, 1, 2] else []
noncomputable def F_X7_look (v0 : Nat) (v1 : Int32) (v2 : Int32) (σ : sS) : Option ((Int32 ⊕ String) × sS) := (s_is σ v0 7).bind fun _ => s_run S_X7_look (0, [.ref v0, .int v1, .int v2], σ)
theorem l_X7_look_0 {v0 : Nat} {v1 : Int32} {v2 : Int32} {σ : sS} {z : sZ (Int32 ⊕ String)} (hf : T_X7_look_0 v0 v1 v2 σ = some z) : s_lz σ z := by
  unfold T_X7_look_0 at hf
  obtain ⟨q1, hh, hf⟩ := s_bind hf
  refine s_lz.tr (l_X7_needLine hh) ?_
  rcases s_sum_some hf with ⟨x2, -, hf⟩ | ⟨E3, -, hf⟩
  · rcases s_ite hf with ⟨-, hf⟩ | ⟨-, hf⟩
    · cases hf
      exact s_ex_le
    · rcases s_ite hf with ⟨-, hf⟩ | ⟨-, hf⟩
      · rcases s_ite hf with ⟨-, hf⟩ | ⟨-, hf⟩
        · obtain ⟨x6, -, hf⟩ := s_bind hf
          obtain ⟨q7, hh, hf⟩ := s_bind hf
          refine s_lz.tr (l_X0_costOf hh) ?_
          cases hf
          exact s_le.rf
        · obtain ⟨x4, -, hf⟩ := s_bind hf
          obtain ⟨q5, hh, hf⟩ := s_bind hf
          refine s_lz.tr (l_X1_ofLine hh) ?_
          cases hf
          exact s_le.rf
      · cases hf
        exact s_ex_le
  · cases hf
    exact s_le.rf
theorem l_X7_look_s {x : sL} {z : sZ (Int32 ⊕ String)} (hs : S_X7_look x = some z) : s_lz x.2.2 z := by
  obtain ⟨pc, vs, σ⟩ := x
  unfold S_X7_look at hs
  dsimp only at hs ⊢
  rcases s_ite hs with ⟨c, hs⟩ | ⟨-, hs⟩
  · subst c
    unfold U_X7_look_0 at hs
    obtain ⟨a0, g0, hs⟩ := s_bind hs
    obtain ⟨a1, g1, hs⟩ := s_bind hs
    obtain ⟨a2, g2, hs⟩ := s_bind hs
    obtain ⟨u9, ge, hs⟩ := s_bind hs
    exact l_X7_look_0 hs
  cases hs
theorem l_X7_look {v0 : Nat} {v1 : Int32} {v2 : Int32} {σ : sS} {q : (Int32 ⊕ String) × sS} (h : F_X7_look v0 v1 v2 σ = some q) : s_le σ q.2 := by
  unfold F_X7_look at h
  obtain ⟨-, -, h⟩ := s_bind h
  exact s_run_ind (V := fun x r => s_le x.2.2 r.2) (fun x z r hs hk => by
    have h9 := l_X7_look_s hs
    cases z with
    | inl y => exact s_le.tr h9 hk
    | inr q => cases hk; exact h9) h
theorem b_X7_look {v0 : Nat} {v1 : Int32} {v2 : Int32} {σ : sS} {q : (Int32 ⊕ String) × sS} (h : F_X7_look v0 v1 v2 σ = some q) : ∃ fs, σ.1 v0 = some (.inr (7, fs)) := by
  unfold F_X7_look at h
  obtain ⟨u, hu, -⟩ := s_bind h
  exact s_is_to hu
set_option maxRecDepth 100000 in
set_option maxHeartbeats 4000000 in
theorem v_X7_look_0 {G : sG} {d : Nat} {vs0 : List Value} {σ0 : sS} {v0 : Nat} {v1 : Int32} {v2 : Int32} {σ : sS} {z : sZ (Int32 ⊕ String)} {r : (Int32 ⊕ String) × sS} (hf : T_X7_look_0 v0 v1 v2 σ = some z) (k : s_K G (d + 4) M_X7_look vs0 σ0 Y_X7_look e_IX z r) : s_V G (d + 4) M_X7_look vs0 σ0 Y_X7_look (0, [.ref v0, .int v1, .int v2], σ) (e_IX r) := by
  have le0 : s_le σ (e_IX r).2 := s_lek hem_IX (l_X7_look_0 hf) k
  refine ⟨le0, ?_⟩
  intro p e s m below meth c H locs cells slots ls X I hn1 hn2 hl
  have hn : cells + σ0.2.1 ≤ σ.2.1 ∧ slots + σ0.2.2.1 ≤ σ.2.2.1 := ⟨hn1, hn2⟩
  have hl : lv_has ls 3 [(0, .ref v0), (1, .int v1), (2, .int v2)] := hl
  have hx := X.1
  have hb : c.code = cX7_look := X.2.1
  have hown : s.vm.findClass RX7 = some m.cls := X.2.2.2.2.2.1
  have hts := X.2.2.2.2.2.2.1
  refine W.eq (g2 := F0 m 0 ls []) rfl ?_
  unfold T_X7_look_0 at hf
  obtain ⟨q1, h1, hf⟩ := s_bind hf
  refine lv_aload_n hx hb dX7_look_0 rfl (lv_at hl 0 rfl) ?_
  refine lv_iload_n hx hb dX7_look_1 rfl (lv_at hl 1 rfl) ?_
  rcases s_sum_some hf with ⟨x2, hq2, hf⟩ | ⟨E3, hq2, hf⟩
  · have le3 : s_le q1.2 (e_IX r).2 := by
      refine s_lek hem_IX ?_ k
      rcases s_ite hf with ⟨-, hf⟩ | ⟨-, hf⟩
      · cases hf
        exact s_ex_le
      · rcases s_ite hf with ⟨-, hf⟩ | ⟨-, hf⟩
        · rcases s_ite hf with ⟨-, hf⟩ | ⟨-, hf⟩
          · obtain ⟨x6, -, hf⟩ := s_bind hf
            obtain ⟨q7, hh, hf⟩ := s_bind hf
            refine s_lz.tr (l_X0_costOf hh) ?_
            cases hf
            exact s_le.rf
          · obtain ⟨x4, -, hf⟩ := s_bind hf
            obtain ⟨q5, hh, hf⟩ := s_bind hf
            refine s_lz.tr (l_X1_ofLine hh) ?_
            cases hf
            exact s_le.rf
        · cases hf
          exact s_ex_le
    refine r_callV (Y := M_X7_needLine) (v := none) X I w_1138 my_X7_needLine (by omega) (t_X7_needLine (G := G) (d := d + 2) h1) (b_X7_needLine h1) (e_VX_l hq2) rfl hl.1 rfl (Nat.le_of_ble_eq_true rfl) hn le3 dX7_look_2 (fun H locs cells slots I hn1 hn2 => ?_)
    have I : s_I G q1.2 s H locs := I
    have hn : cells + σ0.2.1 ≤ q1.2.2.1 ∧ slots + σ0.2.2.1 ≤ q1.2.2.2.1 := ⟨hn1, hn2⟩
    refine lv_iload_n hx hb dX7_look_5 rfl (lv_at hl 2 rfl) ?_
    rcases s_ite hf with ⟨c4, hf⟩ | ⟨c4, hf⟩
    · refine lv_if_lt (tgt := 15) hx hb dX7_look_6 (by decide) (fun _ => ?_) (fun n => absurd c4 n)
      cases hf
      have k : _ = r := k
      subst k
      exact r_throwN X I rfl thn_X7_198_200 hl.1 (Nat.le_of_ble_eq_true rfl) hn rfl dX7_look_15 dX7_look_18 dX7_look_19 dX7_look_21 dX7_look_24
    · refine lv_if_lt (tgt := 15) hx hb dX7_look_6 (by decide) (fun n => absurd n c4) (fun _ => ?_)
      refine lv_iload_n hx hb dX7_look_9 rfl (lv_at hl 2 rfl) ?_
      refine lv_bipush (v := 6) hx hb dX7_look_10 (by decide) ?_
      rcases s_ite hf with ⟨c5, hf⟩ | ⟨c5, hf⟩
      · refine lv_icmp_le (tgt := 25) hx hb dX7_look_12 (by decide) (fun _ => ?_) (fun n => absurd c5 n)
        refine lv_iload_n hx hb dX7_look_25 rfl (lv_at hl 2 rfl) ?_
        refine lv_bipush (v := 6) hx hb dX7_look_26 (by decide) ?_
        rcases s_ite hf with ⟨c6, hf⟩ | ⟨c6, hf⟩
        · refine lv_icmp_ne (tgt := 42) hx hb dX7_look_28 (by decide) (fun n => absurd c6 n) (fun _ => ?_)
          obtain ⟨x6, h7, hf⟩ := s_bind hf
          obtain ⟨q7, h8, hf⟩ := s_bind hf
          cases hf
          have k : _ = r := k
          subst k
          have le9 : s_le q7.2 q7.2 := s_le.rf
          refine lv_aload_n hx hb dX7_look_31 rfl (lv_at hl 0 rfl) ?_
          refine r_gr X I fl_X7_49 h7 dX7_look_32 ?_
          refine lv_iload_n hx hb dX7_look_35 rfl (lv_at hl 1 rfl) ?_
          refine r_callV (Y := M_X0_costOf) (v := some (.int q7.1)) X I w_1182 my_X0_costOf (by omega) (t_X0_costOf (G := G) (d := d + 0) h8) (b_X0_costOf h8) rfl rfl hl.1 rfl (Nat.le_of_ble_eq_true rfl) hn le9 dX7_look_36 (fun H locs cells slots I hn1 hn2 => ?_)
          have I : s_I G q7.2 s H locs := I
          have hn : cells + σ0.2.1 ≤ q7.2.2.1 ∧ slots + σ0.2.2.1 ≤ q7.2.2.2.1 := ⟨hn1, hn2⟩
          refine lv_goto (tgt := 51) hx hb dX7_look_39 (by decide) ?_
          exact r_iret X I rfl rfl rfl hn dX7_look_51
        · refine lv_icmp_ne (tgt := 42) hx hb dX7_look_28 (by decide) (fun _ => ?_) (fun n => absurd n c6)
          obtain ⟨x4, h10, hf⟩ := s_bind hf
          obtain ⟨q5, h11, hf⟩ := s_bind hf
          cases hf
          have k : _ = r := k
          subst k
          have le12 : s_le q5.2 q5.2 := s_le.rf
          refine lv_aload_n hx hb dX7_look_42 rfl (lv_at hl 0 rfl) ?_
          refine r_gr X I fl_X7_19 h10 dX7_look_43 ?_
          refine lv_iload_n hx hb dX7_look_46 rfl (lv_at hl 1 rfl) ?_
          refine lv_iload_n hx hb dX7_look_47 rfl (lv_at hl 2 rfl) ?_
          refine r_callV (Y := M_X1_ofLine) (v := some (.int q5.1)) X I w_1183 my_X1_ofLine (by omega) (t_X1_ofLine (G := G) (d := d + 2) h11) (b_X1_ofLine h11) rfl rfl hl.1 rfl (Nat.le_of_ble_eq_true rfl) hn le12 dX7_look_48 (fun H locs cells slots I hn1 hn2 => ?_)
          have I : s_I G q5.2 s H locs := I
          have hn : cells + σ0.2.1 ≤ q5.2.2.1 ∧ slots + σ0.2.2.1 ≤ q5.2.2.2.1 := ⟨hn1, hn2⟩
          exact r_iret X I rfl rfl rfl hn dX7_look_51
      · refine lv_icmp_le (tgt := 25) hx hb dX7_look_12 (by decide) (fun n => absurd n c5) (fun _ => ?_)
        cases hf
        have k : _ = r := k
        subst k
        exact r_throwN X I rfl thn_X7_198_200 hl.1 (Nat.le_of_ble_eq_true rfl) hn rfl dX7_look_15 dX7_look_18 dX7_look_19 dX7_look_21 dX7_look_24
  · cases hf
    have k : _ = r := k
    subst k
    exact r_callVx (Y := M_X7_needLine) X I rfl w_1138 my_X7_needLine (by omega) (t_X7_needLine (G := G) (d := d + 2) h1) (b_X7_needLine h1) (e_VX_r hq2) rfl hl.1 rfl (Nat.le_of_ble_eq_true rfl) hn rfl dX7_look_2
theorem v_X7_look {G : sG} {d : Nat} {vs0 : List Value} {σ0 : sS} {x : sL} {z : sZ (Int32 ⊕ String)} {r : (Int32 ⊕ String) × sS} (hs : S_X7_look x = some z) (k : s_K G (d + 4) M_X7_look vs0 σ0 Y_X7_look e_IX z r) : s_V G (d + 4) M_X7_look vs0 σ0 Y_X7_look x (e_IX r) := by
  obtain ⟨pc, vs, σ⟩ := x
  unfold S_X7_look at hs
  dsimp only at hs
  rcases s_ite hs with ⟨c, hs⟩ | ⟨-, hs⟩
  · subst c
    unfold U_X7_look_0 at hs
    obtain ⟨a0, g0, hs⟩ := s_bind hs
    obtain ⟨a1, g1, hs⟩ := s_bind hs
    obtain ⟨a2, g2, hs⟩ := s_bind hs
    obtain ⟨u9, ge, hs⟩ := s_bind hs
    rw [g_r_to g0, g_i_to g1, g_i_to g2, g_e_to ge]
    exact v_X7_look_0 hs k
  cases hs
theorem t_X7_look {G : sG} {d : Nat} {v0 : Nat} {v1 : Int32} {v2 : Int32} {σ : sS} {q : (Int32 ⊕ String) × sS} (h : F_X7_look v0 v1 v2 σ = some q) : s_T G (d + 4) M_X7_look [.ref v0, .int v1, .int v2] σ (e_IX q) := by
  unfold F_X7_look at h
  obtain ⟨-, -, h⟩ := s_bind h
  exact s_ofV rfl (by decide) (Nat.le_of_ble_eq_true rfl) rfl rfl (s_run_ind (V := fun x r => s_V G (d + 4) M_X7_look [.ref v0, .int v1, .int v2] σ Y_X7_look x (e_IX r)) (fun x z r hs hk => v_X7_look hs (by cases z <;> exact hk)) h)
/-! L_look -/
noncomputable def T_L_look_0 (v0 : Nat) (v1 : Int32) (v2 : Int32) (v3 : Nat) (σ : sS) : Option (sZ Int32) :=
  (F_X7_look v0 v1 v2 σ).bind fun q1 => s_sum q1.1 (fun x2 => (s_sl q1.2 v3 0 ((x2 : Int32).toInt64)).bind fun σ4 =>
  some (.inr (0, σ4))) (fun E3 => if E3 = "java/lang/IndexOutOfBoundsException" then (some (.inr (1, q1.2))) else if E3 = "java/util/NoSuchElementException" then (some (.inr (2, q1.2))) else none)
noncomputable def U_L_look_0 (vs : List Value) (σ : sS) : Option (sZ Int32) := (g_r vs).bind fun a0 => (g_i a0.2).bind fun a1 => (g_i a1.2).bind fun a2 => (g_r a2.2).bind fun a3 => (g_e a3.2).bind fun _ => T_L_look_0 a0.1 a1.1 a2.1 a3.1 σ
noncomputable def S_L_look (x : sL) : Option (sZ Int32) := if x.1 = 0 then U_L_look_0 x.2.1 x.2.2 else none
def Y_L_look (pc : Nat) : List Nat := if pc = 0 then [0, 1, 2, 3] else []
noncomputable def F_L_look (v0 : Nat) (v1 : Int32) (v2 : Int32) (v3 : Nat) (σ : sS) : Option (Int32 × sS) := s_run S_L_look (0, [.ref v0, .int v1, .int v2, .ref v3], σ)
theorem hp_L_look_5_1 : s_pass RL "java/util/NoSuchElementException" 5 [(0, 10, 13, 27)] := fun z hz => by
  simp only [List.mem_cons, List.not_mem_nil, or_false] at hz
  rcases hz with rfl
  · exact ⟨rfl, by decide, "java/lang/IndexOutOfBoundsException", w_1011, by decide +kernel⟩
theorem l_L_look_0 {v0 : Nat} {v1 : Int32} {v2 : Int32} {v3 : Nat} {σ : sS} {z : sZ Int32} (hf : T_L_look_0 v0 v1 v2 v3 σ = some z) : s_lz σ z := by
  unfold T_L_look_0 at hf
  obtain ⟨q1, hh, hf⟩ := s_bind hf
  refine s_lz.tr (l_X7_look hh) ?_
  rcases s_sum_some hf with ⟨x2, -, hf⟩ | ⟨E3, -, hf⟩
  · obtain ⟨σ4, hh, hf⟩ := s_bind hf
    refine s_lz.tr (s_le2 (s_sl_2 hh)) ?_
    cases hf
    exact s_le.rf
  · rcases s_ite hf with ⟨-, hf⟩ | ⟨-, hf⟩
    · cases hf
      exact s_le.rf
    rcases s_ite hf with ⟨-, hf⟩ | ⟨-, hf⟩
    · cases hf
      exact s_le.rf
    cases hf
theorem l_L_look_s {x : sL} {z : sZ Int32} (hs : S_L_look x = some z) : s_lz x.2.2 z := by
  obtain ⟨pc, vs, σ⟩ := x
  unfold S_L_look at hs
  dsimp only at hs ⊢
  rcases s_ite hs with ⟨c, hs⟩ | ⟨-, hs⟩
  · subst c
    unfold U_L_look_0 at hs
    obtain ⟨a0, g0, hs⟩ := s_bind hs
    obtain ⟨a1, g1, hs⟩ := s_bind hs
    obtain ⟨a2, g2, hs⟩ := s_bind hs
    obtain ⟨a3, g3, hs⟩ := s_bind hs
    obtain ⟨u9, ge, hs⟩ := s_bind hs
    exact l_L_look_0 hs
  cases hs
theorem l_L_look {v0 : Nat} {v1 : Int32} {v2 : Int32} {v3 : Nat} {σ : sS} {q : Int32 × sS} (h : F_L_look v0 v1 v2 v3 σ = some q) : s_le σ q.2 := by
  unfold F_L_look at h
  exact s_run_ind (V := fun x r => s_le x.2.2 r.2) (fun x z r hs hk => by
    have h9 := l_L_look_s hs
    cases z with
    | inl y => exact s_le.tr h9 hk
    | inr q => cases hk; exact h9) h
set_option maxRecDepth 100000 in
set_option maxHeartbeats 4000000 in
theorem v_L_look_0 {G : sG} {d : Nat} {vs0 : List Value} {σ0 : sS} {v0 : Nat} {v1 : Int32} {v2 : Int32} {v3 : Nat} {σ : sS} {z : sZ Int32} {r : Int32 × sS} (hf : T_L_look_0 v0 v1 v2 v3 σ = some z) (k : s_K G (d + 5) M_L_look vs0 σ0 Y_L_look e_I z r) : s_V G (d + 5) M_L_look vs0 σ0 Y_L_look (0, [.ref v0, .int v1, .int v2, .ref v3], σ) (e_I r) := by
  have le0 : s_le σ (e_I r).2 := s_lek hem_I (l_L_look_0 hf) k
  refine ⟨le0, ?_⟩
  intro p e s m below meth c H locs cells slots ls X I hn1 hn2 hl
  have hn : cells + σ0.2.1 ≤ σ.2.1 ∧ slots + σ0.2.2.1 ≤ σ.2.2.1 := ⟨hn1, hn2⟩
  have hl : lv_has ls 5 [(0, .ref v0), (1, .int v1), (2, .int v2), (3, .ref v3)] := hl
  have hx := X.1
  have hb : c.code = cL_look := X.2.1
  have hown : s.vm.findClass RL = some m.cls := X.2.2.2.2.2.1
  have hts := X.2.2.2.2.2.2.1
  refine W.eq (g2 := F0 m 0 ls []) rfl ?_
  unfold T_L_look_0 at hf
  obtain ⟨q1, h1, hf⟩ := s_bind hf
  refine lv_aload_n hx hb dL_look_0 rfl (lv_at hl 3 rfl) ?_
  refine lv_iconst (v := 0) hx hb dL_look_1 (by decide) ?_
  refine lv_aload_n hx hb dL_look_2 rfl (lv_at hl 0 rfl) ?_
  refine lv_iload_n hx hb dL_look_3 rfl (lv_at hl 1 rfl) ?_
  refine lv_iload_n hx hb dL_look_4 rfl (lv_at hl 2 rfl) ?_
  rcases s_sum_some hf with ⟨x2, hq2, hf⟩ | ⟨E3, hq2, hf⟩
  · have le3 : s_le q1.2 (e_I r).2 := by
      refine s_lek hem_I ?_ k
      obtain ⟨σ4, hh, hf⟩ := s_bind hf
      refine s_lz.tr (s_le2 (s_sl_2 hh)) ?_
      cases hf
      exact s_le.rf
    refine r_callV (Y := M_X7_look) (v := some (.int x2)) X I w_1162 my_X7_look (by omega) (t_X7_look (G := G) (d := d + 0) h1) (b_X7_look h1) (e_IX_l hq2) rfl hl.1 rfl (Nat.le_of_ble_eq_true rfl) hn le3 dL_look_5 (fun H locs cells slots I hn1 hn2 => ?_)
    have I : s_I G q1.2 s H locs := I
    have hn : cells + σ0.2.1 ≤ q1.2.2.1 ∧ slots + σ0.2.2.1 ≤ q1.2.2.2.1 := ⟨hn1, hn2⟩
    obtain ⟨σ4, h4, hf⟩ := s_bind hf
    cases hf
    have k : _ = r := k
    subst k
    have le5 : s_le σ4 σ4 := s_le.rf
    refine lv_i2l hx hb dL_look_8 rfl ?_
    refine r_last X I h4 dL_look_9 (fun H locs I => ?_)
    have hn := s_k2 (s_sl_2 h4) hn
    refine lv_goto (tgt := 21) hx hb dL_look_10 (by decide) ?_
    refine lv_iconst (v := 0) hx hb dL_look_21 (by decide) ?_
    exact r_iret X I rfl rfl rfl hn dL_look_22
  · rcases s_ite hf with ⟨c6, hf⟩ | ⟨c6, hf⟩
    · subst c6
      have le7 : s_le q1.2 (e_I r).2 := by
        refine s_lek hem_I ?_ k
        cases hf
        exact s_le.rf
      refine r_callVh (x := (0, 10, 13, 27)) (Y := M_X7_look) (E := "java/lang/IndexOutOfBoundsException") (name := "java/lang/IndexOutOfBoundsException") X I [] [(0, 10, 17, 61)] rfl (fun z hz => by cases hz) rfl (by decide) w_1011 (by decide +kernel) w_1162 my_X7_look (by omega) (t_X7_look (G := G) (d := d + 0) h1) (b_X7_look h1) (e_IX_r hq2) rfl hl.1 rfl (Nat.le_of_ble_eq_true rfl) hn le7 dL_look_5 (fun a5 H locs cells slots I hn1 hn2 => ?_)
      have I : s_I G q1.2 s H locs := I
      have hn : cells + σ0.2.1 ≤ q1.2.2.1 ∧ slots + σ0.2.2.1 ≤ q1.2.2.2.1 := ⟨hn1, hn2⟩
      cases hf
      have k : _ = r := k
      subst k
      refine lv_astore (lv' := [(4, .ref a5), (0, .ref v0), (1, .int v1), (2, .int v2), (3, .ref v3)]) hx hb dL_look_13 hl (by decide) rfl (fun ls hl => ?_)
      refine lv_iconst (v := 1) hx hb dL_look_15 (by decide) ?_
      exact r_iret X I rfl rfl rfl hn dL_look_16
    rcases s_ite hf with ⟨c8, hf⟩ | ⟨c8, hf⟩
    · subst c8
      have le9 : s_le q1.2 (e_I r).2 := by
        refine s_lek hem_I ?_ k
        cases hf
        exact s_le.rf
      refine r_callVh (x := (0, 10, 17, 61)) (Y := M_X7_look) (E := "java/util/NoSuchElementException") (name := "java/util/NoSuchElementException") X I [(0, 10, 13, 27)] [] rfl hp_L_look_5_1 rfl (by decide) w_1161 (by decide +kernel) w_1162 my_X7_look (by omega) (t_X7_look (G := G) (d := d + 0) h1) (b_X7_look h1) (e_IX_r hq2) rfl hl.1 rfl (Nat.le_of_ble_eq_true rfl) hn le9 dL_look_5 (fun a6 H locs cells slots I hn1 hn2 => ?_)
      have I : s_I G q1.2 s H locs := I
      have hn : cells + σ0.2.1 ≤ q1.2.2.1 ∧ slots + σ0.2.2.1 ≤ q1.2.2.2.1 := ⟨hn1, hn2⟩
      cases hf
      have k : _ = r := k
      subst k
      refine lv_astore (lv' := [(4, .ref a6), (0, .ref v0), (1, .int v1), (2, .int v2), (3, .ref v3)]) hx hb dL_look_17 hl (by decide) rfl (fun ls hl => ?_)
      refine lv_iconst (v := 2) hx hb dL_look_19 (by decide) ?_
      exact r_iret X I rfl rfl rfl hn dL_look_20
    cases hf
theorem v_L_look {G : sG} {d : Nat} {vs0 : List Value} {σ0 : sS} {x : sL} {z : sZ Int32} {r : Int32 × sS} (hs : S_L_look x = some z) (k : s_K G (d + 5) M_L_look vs0 σ0 Y_L_look e_I z r) : s_V G (d + 5) M_L_look vs0 σ0 Y_L_look x (e_I r) := by
  obtain ⟨pc, vs, σ⟩ := x
  unfold S_L_look at hs
  dsimp only at hs
  rcases s_ite hs with ⟨c, hs⟩ | ⟨-, hs⟩
  · subst c
    unfold U_L_look_0 at hs
    obtain ⟨a0, g0, hs⟩ := s_bind hs
    obtain ⟨a1, g1, hs⟩ := s_bind hs
    obtain ⟨a2, g2, hs⟩ := s_bind hs
    obtain ⟨a3, g3, hs⟩ := s_bind hs
    obtain ⟨u9, ge, hs⟩ := s_bind hs
    rw [g_r_to g0, g_i_to g1, g_i_to g2, g_r_to g3, g_e_to ge]
    exact v_L_look_0 hs k
  cases hs
theorem t_L_look {G : sG} {d : Nat} {v0 : Nat} {v1 : Int32} {v2 : Int32} {v3 : Nat} {σ : sS} {q : Int32 × sS} (h : F_L_look v0 v1 v2 v3 σ = some q) : s_T G (d + 5) M_L_look [.ref v0, .int v1, .int v2, .ref v3] σ (e_I q) := by
  unfold F_L_look at h
  exact s_ofVH rfl (by decide) (Nat.le_of_ble_eq_true rfl) rfl rfl (s_run_ind (V := fun x r => s_V G (d + 5) M_L_look [.ref v0, .int v1, .int v2, .ref v3] σ Y_L_look x (e_I r)) (fun x z r hs hk => v_L_look hs (by cases z <;> exact hk)) h)
/-! X8_ofLine -/
noncomputable def T_X8_ofLine_0 (v0 : Nat) (v1 : Int32) (v2 : Int32) (σ : sS) : Option (sZ Int32) :=
  (s_fr σ v0 8 1).bind fun x1 =>
  (s_ai σ x1 ((1292 + (6 * v1)) + v2)).bind fun x2 =>
  some (.inr (x2, σ))
noncomputable def U_X8_ofLine_0 (vs : List Value) (σ : sS) : Option (sZ Int32) := (g_r vs).bind fun a0 => (g_i a0.2).bind fun a1 => (g_i a1.2).bind fun a2 => (g_e a2.2).bind fun _ => T_X8_ofLine_0 a0.1 a1.1 a2.1 σ
noncomputable def S_X8_ofLine (x : sL) : Option (sZ Int32) := if x.1 = 0 then U_X8_ofLine_0 x.2.1 x.2.2 else none
def Y_X8_ofLine (pc : Nat) : List Nat := if pc = 0 then [0, 1, 2] else []
noncomputable def F_X8_ofLine (v0 : Nat) (v1 : Int32) (v2 : Int32) (σ : sS) : Option (Int32 × sS) := (s_is σ v0 8).bind fun _ => s_run S_X8_ofLine (0, [.ref v0, .int v1, .int v2], σ)
theorem l_X8_ofLine_0 {v0 : Nat} {v1 : Int32} {v2 : Int32} {σ : sS} {z : sZ Int32} (hf : T_X8_ofLine_0 v0 v1 v2 σ = some z) : s_lz σ z := by
  unfold T_X8_ofLine_0 at hf
  obtain ⟨x1, -, hf⟩ := s_bind hf
  obtain ⟨x2, -, hf⟩ := s_bind hf
  cases hf
  exact s_le.rf
theorem l_X8_ofLine_s {x : sL} {z : sZ Int32} (hs : S_X8_ofLine x = some z) : s_lz x.2.2 z := by
  obtain ⟨pc, vs, σ⟩ := x
  unfold S_X8_ofLine at hs
  dsimp only at hs ⊢
  rcases s_ite hs with ⟨c, hs⟩ | ⟨-, hs⟩
  · subst c
    unfold U_X8_ofLine_0 at hs
    obtain ⟨a0, g0, hs⟩ := s_bind hs
    obtain ⟨a1, g1, hs⟩ := s_bind hs
    obtain ⟨a2, g2, hs⟩ := s_bind hs
    obtain ⟨u9, ge, hs⟩ := s_bind hs
    exact l_X8_ofLine_0 hs
  cases hs
theorem l_X8_ofLine {v0 : Nat} {v1 : Int32} {v2 : Int32} {σ : sS} {q : Int32 × sS} (h : F_X8_ofLine v0 v1 v2 σ = some q) : s_le σ q.2 := by
  unfold F_X8_ofLine at h
  obtain ⟨-, -, h⟩ := s_bind h
  exact s_run_ind (V := fun x r => s_le x.2.2 r.2) (fun x z r hs hk => by
    have h9 := l_X8_ofLine_s hs
    cases z with
    | inl y => exact s_le.tr h9 hk
    | inr q => cases hk; exact h9) h
theorem b_X8_ofLine {v0 : Nat} {v1 : Int32} {v2 : Int32} {σ : sS} {q : Int32 × sS} (h : F_X8_ofLine v0 v1 v2 σ = some q) : ∃ fs, σ.1 v0 = some (.inr (8, fs)) := by
  unfold F_X8_ofLine at h
  obtain ⟨u, hu, -⟩ := s_bind h
  exact s_is_to hu
set_option maxRecDepth 100000 in
set_option maxHeartbeats 4000000 in
theorem v_X8_ofLine_0 {G : sG} {d : Nat} {vs0 : List Value} {σ0 : sS} {v0 : Nat} {v1 : Int32} {v2 : Int32} {σ : sS} {z : sZ Int32} {r : Int32 × sS} (hf : T_X8_ofLine_0 v0 v1 v2 σ = some z) (k : s_K G (d + 1) M_X8_ofLine vs0 σ0 Y_X8_ofLine e_I z r) : s_V G (d + 1) M_X8_ofLine vs0 σ0 Y_X8_ofLine (0, [.ref v0, .int v1, .int v2], σ) (e_I r) := by
  have le0 : s_le σ (e_I r).2 := s_lek hem_I (l_X8_ofLine_0 hf) k
  refine ⟨le0, ?_⟩
  intro p e s m below meth c H locs cells slots ls X I hn1 hn2 hl
  have hn : cells + σ0.2.1 ≤ σ.2.1 ∧ slots + σ0.2.2.1 ≤ σ.2.2.1 := ⟨hn1, hn2⟩
  have hl : lv_has ls 3 [(0, .ref v0), (1, .int v1), (2, .int v2)] := hl
  have hx := X.1
  have hb : c.code = cX8_ofLine := X.2.1
  have hown : s.vm.findClass RX8 = some m.cls := X.2.2.2.2.2.1
  have hts := X.2.2.2.2.2.2.1
  refine W.eq (g2 := F0 m 0 ls []) rfl ?_
  unfold T_X8_ofLine_0 at hf
  obtain ⟨x1, h1, hf⟩ := s_bind hf
  obtain ⟨x2, h2, hf⟩ := s_bind hf
  cases hf
  have k : _ = r := k
  subst k
  refine lv_aload_n hx hb dX8_ofLine_0 rfl (lv_at hl 0 rfl) ?_
  refine r_gr X I fl_X8_13 h1 dX8_ofLine_1 ?_
  refine lv_sipush (v := 1292) hx hb dX8_ofLine_4 (by decide) ?_
  refine lv_bipush (v := 6) hx hb dX8_ofLine_7 (by decide) ?_
  refine lv_iload_n hx hb dX8_ofLine_9 rfl (lv_at hl 1 rfl) ?_
  refine lv_imul hx hb dX8_ofLine_10 ?_
  refine lv_iadd hx hb dX8_ofLine_11 ?_
  refine lv_iload_n hx hb dX8_ofLine_12 rfl (lv_at hl 2 rfl) ?_
  refine lv_iadd hx hb dX8_ofLine_13 ?_
  refine r_iald X I h2 dX8_ofLine_14 ?_
  exact r_iret X I rfl rfl rfl hn dX8_ofLine_15
theorem v_X8_ofLine {G : sG} {d : Nat} {vs0 : List Value} {σ0 : sS} {x : sL} {z : sZ Int32} {r : Int32 × sS} (hs : S_X8_ofLine x = some z) (k : s_K G (d + 1) M_X8_ofLine vs0 σ0 Y_X8_ofLine e_I z r) : s_V G (d + 1) M_X8_ofLine vs0 σ0 Y_X8_ofLine x (e_I r) := by
  obtain ⟨pc, vs, σ⟩ := x
  unfold S_X8_ofLine at hs
  dsimp only at hs
  rcases s_ite hs with ⟨c, hs⟩ | ⟨-, hs⟩
  · subst c
    unfold U_X8_ofLine_0 at hs
    obtain ⟨a0, g0, hs⟩ := s_bind hs
    obtain ⟨a1, g1, hs⟩ := s_bind hs
    obtain ⟨a2, g2, hs⟩ := s_bind hs
    obtain ⟨u9, ge, hs⟩ := s_bind hs
    rw [g_r_to g0, g_i_to g1, g_i_to g2, g_e_to ge]
    exact v_X8_ofLine_0 hs k
  cases hs
theorem t_X8_ofLine {G : sG} {d : Nat} {v0 : Nat} {v1 : Int32} {v2 : Int32} {σ : sS} {q : Int32 × sS} (h : F_X8_ofLine v0 v1 v2 σ = some q) : s_T G (d + 1) M_X8_ofLine [.ref v0, .int v1, .int v2] σ (e_I q) := by
  unfold F_X8_ofLine at h
  obtain ⟨-, -, h⟩ := s_bind h
  exact s_ofV rfl (by decide) (Nat.le_of_ble_eq_true rfl) rfl rfl (s_run_ind (V := fun x r => s_V G (d + 1) M_X8_ofLine [.ref v0, .int v1, .int v2] σ Y_X8_ofLine x (e_I r)) (fun x z r hs hk => v_X8_ofLine hs (by cases z <;> exact hk)) h)
/-! X8_costOf -/
noncomputable def T_X8_costOf_0 (v0 : Nat) (v1 : Int32) (v2 : Int32) (v3 : Int32) (σ : sS) : Option (sZ Int32) :=
  (s_fr σ v0 8 1).bind fun x1 =>
  (s_ai σ x1 (((4 + (18 * v1)) + 1) + v2)).bind fun x2 =>
  (s_fr σ v0 8 4).bind fun x3 =>
  (s_ai σ x3 v3).bind fun x4 =>
  (s_fr σ v0 8 1).bind fun x5 =>
  (s_ai σ x5 (((4 + (18 * v1)) + 1) + 16)).bind fun x6 =>
  some (.inr ((x2 + (x4 * x6)), σ))
noncomputable def U_X8_costOf_0 (vs : List Value) (σ : sS) : Option (sZ Int32) := (g_r vs).bind fun a0 => (g_i a0.2).bind fun a1 => (g_i a1.2).bind fun a2 => (g_i a2.2).bind fun a3 => (g_e a3.2).bind fun _ => T_X8_costOf_0 a0.1 a1.1 a2.1 a3.1 σ
noncomputable def S_X8_costOf (x : sL) : Option (sZ Int32) := if x.1 = 0 then U_X8_costOf_0 x.2.1 x.2.2 else none
def Y_X8_costOf (pc : Nat) : List Nat := if pc = 0 then [0, 1, 2, 3] else []
noncomputable def F_X8_costOf (v0 : Nat) (v1 : Int32) (v2 : Int32) (v3 : Int32) (σ : sS) : Option (Int32 × sS) := (s_is σ v0 8).bind fun _ => s_run S_X8_costOf (0, [.ref v0, .int v1, .int v2, .int v3], σ)
theorem l_X8_costOf_0 {v0 : Nat} {v1 : Int32} {v2 : Int32} {v3 : Int32} {σ : sS} {z : sZ Int32} (hf : T_X8_costOf_0 v0 v1 v2 v3 σ = some z) : s_lz σ z := by
  unfold T_X8_costOf_0 at hf
  obtain ⟨x1, -, hf⟩ := s_bind hf
  obtain ⟨x2, -, hf⟩ := s_bind hf
  obtain ⟨x3, -, hf⟩ := s_bind hf
  obtain ⟨x4, -, hf⟩ := s_bind hf
  obtain ⟨x5, -, hf⟩ := s_bind hf
  obtain ⟨x6, -, hf⟩ := s_bind hf
  cases hf
  exact s_le.rf
theorem l_X8_costOf_s {x : sL} {z : sZ Int32} (hs : S_X8_costOf x = some z) : s_lz x.2.2 z := by
  obtain ⟨pc, vs, σ⟩ := x
  unfold S_X8_costOf at hs
  dsimp only at hs ⊢
  rcases s_ite hs with ⟨c, hs⟩ | ⟨-, hs⟩
  · subst c
    unfold U_X8_costOf_0 at hs
    obtain ⟨a0, g0, hs⟩ := s_bind hs
    obtain ⟨a1, g1, hs⟩ := s_bind hs
    obtain ⟨a2, g2, hs⟩ := s_bind hs
    obtain ⟨a3, g3, hs⟩ := s_bind hs
    obtain ⟨u9, ge, hs⟩ := s_bind hs
    exact l_X8_costOf_0 hs
  cases hs
theorem l_X8_costOf {v0 : Nat} {v1 : Int32} {v2 : Int32} {v3 : Int32} {σ : sS} {q : Int32 × sS} (h : F_X8_costOf v0 v1 v2 v3 σ = some q) : s_le σ q.2 := by
  unfold F_X8_costOf at h
  obtain ⟨-, -, h⟩ := s_bind h
  exact s_run_ind (V := fun x r => s_le x.2.2 r.2) (fun x z r hs hk => by
    have h9 := l_X8_costOf_s hs
    cases z with
    | inl y => exact s_le.tr h9 hk
    | inr q => cases hk; exact h9) h
theorem b_X8_costOf {v0 : Nat} {v1 : Int32} {v2 : Int32} {v3 : Int32} {σ : sS} {q : Int32 × sS} (h : F_X8_costOf v0 v1 v2 v3 σ = some q) : ∃ fs, σ.1 v0 = some (.inr (8, fs)) := by
  unfold F_X8_costOf at h
  obtain ⟨u, hu, -⟩ := s_bind h
  exact s_is_to hu
set_option maxRecDepth 100000 in
set_option maxHeartbeats 4000000 in
theorem v_X8_costOf_0 {G : sG} {d : Nat} {vs0 : List Value} {σ0 : sS} {v0 : Nat} {v1 : Int32} {v2 : Int32} {v3 : Int32} {σ : sS} {z : sZ Int32} {r : Int32 × sS} (hf : T_X8_costOf_0 v0 v1 v2 v3 σ = some z) (k : s_K G (d + 1) M_X8_costOf vs0 σ0 Y_X8_costOf e_I z r) : s_V G (d + 1) M_X8_costOf vs0 σ0 Y_X8_costOf (0, [.ref v0, .int v1, .int v2, .int v3], σ) (e_I r) := by
  have le0 : s_le σ (e_I r).2 := s_lek hem_I (l_X8_costOf_0 hf) k
  refine ⟨le0, ?_⟩
  intro p e s m below meth c H locs cells slots ls X I hn1 hn2 hl
  have hn : cells + σ0.2.1 ≤ σ.2.1 ∧ slots + σ0.2.2.1 ≤ σ.2.2.1 := ⟨hn1, hn2⟩
  have hl : lv_has ls 4 [(0, .ref v0), (1, .int v1), (2, .int v2), (3, .int v3)] := hl
  have hx := X.1
  have hb : c.code = cX8_costOf := X.2.1
  have hown : s.vm.findClass RX8 = some m.cls := X.2.2.2.2.2.1
  have hts := X.2.2.2.2.2.2.1
  refine W.eq (g2 := F0 m 0 ls []) rfl ?_
  unfold T_X8_costOf_0 at hf
  obtain ⟨x1, h1, hf⟩ := s_bind hf
  obtain ⟨x2, h2, hf⟩ := s_bind hf
  obtain ⟨x3, h3, hf⟩ := s_bind hf
  obtain ⟨x4, h4, hf⟩ := s_bind hf
  obtain ⟨x5, h5, hf⟩ := s_bind hf
  obtain ⟨x6, h6, hf⟩ := s_bind hf
  cases hf
  have k : _ = r := k
  subst k
  refine lv_aload_n hx hb dX8_costOf_0 rfl (lv_at hl 0 rfl) ?_
  refine r_gr X I fl_X8_13 h1 dX8_costOf_1 ?_
  refine lv_iconst (v := 4) hx hb dX8_costOf_4 (by decide) ?_
  refine lv_bipush (v := 18) hx hb dX8_costOf_5 (by decide) ?_
  refine lv_iload_n hx hb dX8_costOf_7 rfl (lv_at hl 1 rfl) ?_
  refine lv_imul hx hb dX8_costOf_8 ?_
  refine lv_iadd hx hb dX8_costOf_9 ?_
  refine lv_iconst (v := 1) hx hb dX8_costOf_10 (by decide) ?_
  refine lv_iadd hx hb dX8_costOf_11 ?_
  refine lv_iload_n hx hb dX8_costOf_12 rfl (lv_at hl 2 rfl) ?_
  refine lv_iadd hx hb dX8_costOf_13 ?_
  refine r_iald X I h2 dX8_costOf_14 ?_
  refine lv_aload_n hx hb dX8_costOf_15 rfl (lv_at hl 0 rfl) ?_
  refine r_gr X I fl_X8_20 h3 dX8_costOf_16 ?_
  refine lv_iload_n hx hb dX8_costOf_19 rfl (lv_at hl 3 rfl) ?_
  refine r_iald X I h4 dX8_costOf_20 ?_
  refine lv_aload_n hx hb dX8_costOf_21 rfl (lv_at hl 0 rfl) ?_
  refine r_gr X I fl_X8_13 h5 dX8_costOf_22 ?_
  refine lv_iconst (v := 4) hx hb dX8_costOf_25 (by decide) ?_
  refine lv_bipush (v := 18) hx hb dX8_costOf_26 (by decide) ?_
  refine lv_iload_n hx hb dX8_costOf_28 rfl (lv_at hl 1 rfl) ?_
  refine lv_imul hx hb dX8_costOf_29 ?_
  refine lv_iadd hx hb dX8_costOf_30 ?_
  refine lv_iconst (v := 1) hx hb dX8_costOf_31 (by decide) ?_
  refine lv_iadd hx hb dX8_costOf_32 ?_
  refine lv_bipush (v := 16) hx hb dX8_costOf_33 (by decide) ?_
  refine lv_iadd hx hb dX8_costOf_35 ?_
  refine r_iald X I h6 dX8_costOf_36 ?_
  refine lv_imul hx hb dX8_costOf_37 ?_
  refine lv_iadd hx hb dX8_costOf_38 ?_
  exact r_iret X I rfl rfl rfl hn dX8_costOf_39
theorem v_X8_costOf {G : sG} {d : Nat} {vs0 : List Value} {σ0 : sS} {x : sL} {z : sZ Int32} {r : Int32 × sS} (hs : S_X8_costOf x = some z) (k : s_K G (d + 1) M_X8_costOf vs0 σ0 Y_X8_costOf e_I z r) : s_V G (d + 1) M_X8_costOf vs0 σ0 Y_X8_costOf x (e_I r) := by
  obtain ⟨pc, vs, σ⟩ := x
  unfold S_X8_costOf at hs
  dsimp only at hs
  rcases s_ite hs with ⟨c, hs⟩ | ⟨-, hs⟩
  · subst c
    unfold U_X8_costOf_0 at hs
    obtain ⟨a0, g0, hs⟩ := s_bind hs
    obtain ⟨a1, g1, hs⟩ := s_bind hs
    obtain ⟨a2, g2, hs⟩ := s_bind hs
    obtain ⟨a3, g3, hs⟩ := s_bind hs
    obtain ⟨u9, ge, hs⟩ := s_bind hs
    rw [g_r_to g0, g_i_to g1, g_i_to g2, g_i_to g3, g_e_to ge]
    exact v_X8_costOf_0 hs k
  cases hs
theorem t_X8_costOf {G : sG} {d : Nat} {v0 : Nat} {v1 : Int32} {v2 : Int32} {v3 : Int32} {σ : sS} {q : Int32 × sS} (h : F_X8_costOf v0 v1 v2 v3 σ = some q) : s_T G (d + 1) M_X8_costOf [.ref v0, .int v1, .int v2, .int v3] σ (e_I q) := by
  unfold F_X8_costOf at h
  obtain ⟨-, -, h⟩ := s_bind h
  exact s_ofV rfl (by decide) (Nat.le_of_ble_eq_true rfl) rfl rfl (s_run_ind (V := fun x r => s_V G (d + 1) M_X8_costOf [.ref v0, .int v1, .int v2, .int v3] σ Y_X8_costOf x (e_I r)) (fun x z r hs hk => v_X8_costOf hs (by cases z <;> exact hk)) h)
/-! X8_priceOf -/
noncomputable def T_X8_priceOf_0 (v0 : Nat) (v1 : Int32) (σ : sS) : Option (sZ Int32) :=
  (F_X8_ofLine v0 v1 0 σ).bind fun q1 =>
  (F_X8_ofLine v0 v1 2 q1.2).bind fun q2 =>
  (F_X8_ofLine v0 v1 1 q2.2).bind fun q3 =>
  (F_X8_costOf v0 q1.1 q2.1 q3.1 q3.2).bind fun q4 =>
  some (.inr (q4.1, q4.2))
noncomputable def U_X8_priceOf_0 (vs : List Value) (σ : sS) : Option (sZ Int32) := (g_r vs).bind fun a0 => (g_i a0.2).bind fun a1 => (g_e a1.2).bind fun _ => T_X8_priceOf_0 a0.1 a1.1 σ
noncomputable def S_X8_priceOf (x : sL) : Option (sZ Int32) := if x.1 = 0 then U_X8_priceOf_0 x.2.1 x.2.2 else none
def Y_X8_priceOf (pc : Nat) : List Nat := if pc = 0 then [0, 1] else []
noncomputable def F_X8_priceOf (v0 : Nat) (v1 : Int32) (σ : sS) : Option (Int32 × sS) := (s_is σ v0 8).bind fun _ => s_run S_X8_priceOf (0, [.ref v0, .int v1], σ)
theorem l_X8_priceOf_0 {v0 : Nat} {v1 : Int32} {σ : sS} {z : sZ Int32} (hf : T_X8_priceOf_0 v0 v1 σ = some z) : s_lz σ z := by
  unfold T_X8_priceOf_0 at hf
  obtain ⟨q1, hh, hf⟩ := s_bind hf
  refine s_lz.tr (l_X8_ofLine hh) ?_
  obtain ⟨q2, hh, hf⟩ := s_bind hf
  refine s_lz.tr (l_X8_ofLine hh) ?_
  obtain ⟨q3, hh, hf⟩ := s_bind hf
  refine s_lz.tr (l_X8_ofLine hh) ?_
  obtain ⟨q4, hh, hf⟩ := s_bind hf
  refine s_lz.tr (l_X8_costOf hh) ?_
  cases hf
  exact s_le.rf
theorem l_X8_priceOf_s {x : sL} {z : sZ Int32} (hs : S_X8_priceOf x = some z) : s_lz x.2.2 z := by
  obtain ⟨pc, vs, σ⟩ := x
  unfold S_X8_priceOf at hs
  dsimp only at hs ⊢
  rcases s_ite hs with ⟨c, hs⟩ | ⟨-, hs⟩
  · subst c
    unfold U_X8_priceOf_0 at hs
    obtain ⟨a0, g0, hs⟩ := s_bind hs
    obtain ⟨a1, g1, hs⟩ := s_bind hs
    obtain ⟨u9, ge, hs⟩ := s_bind hs
    exact l_X8_priceOf_0 hs
  cases hs
theorem l_X8_priceOf {v0 : Nat} {v1 : Int32} {σ : sS} {q : Int32 × sS} (h : F_X8_priceOf v0 v1 σ = some q) : s_le σ q.2 := by
  unfold F_X8_priceOf at h
  obtain ⟨-, -, h⟩ := s_bind h
  exact s_run_ind (V := fun x r => s_le x.2.2 r.2) (fun x z r hs hk => by
    have h9 := l_X8_priceOf_s hs
    cases z with
    | inl y => exact s_le.tr h9 hk
    | inr q => cases hk; exact h9) h
theorem b_X8_priceOf {v0 : Nat} {v1 : Int32} {σ : sS} {q : Int32 × sS} (h : F_X8_priceOf v0 v1 σ = some q) : ∃ fs, σ.1 v0 = some (.inr (8, fs)) := by
  unfold F_X8_priceOf at h
  obtain ⟨u, hu, -⟩ := s_bind h
  exact s_is_to hu
set_option maxRecDepth 100000 in
set_option maxHeartbeats 4000000 in
theorem v_X8_priceOf_0 {G : sG} {d : Nat} {vs0 : List Value} {σ0 : sS} {v0 : Nat} {v1 : Int32} {σ : sS} {z : sZ Int32} {r : Int32 × sS} (hf : T_X8_priceOf_0 v0 v1 σ = some z) (k : s_K G (d + 2) M_X8_priceOf vs0 σ0 Y_X8_priceOf e_I z r) : s_V G (d + 2) M_X8_priceOf vs0 σ0 Y_X8_priceOf (0, [.ref v0, .int v1], σ) (e_I r) := by
  have le0 : s_le σ (e_I r).2 := s_lek hem_I (l_X8_priceOf_0 hf) k
  refine ⟨le0, ?_⟩
  intro p e s m below meth c H locs cells slots ls X I hn1 hn2 hl
  have hn : cells + σ0.2.1 ≤ σ.2.1 ∧ slots + σ0.2.2.1 ≤ σ.2.2.1 := ⟨hn1, hn2⟩
  have hl : lv_has ls 2 [(0, .ref v0), (1, .int v1)] := hl
  have hx := X.1
  have hb : c.code = cX8_priceOf := X.2.1
  have hown : s.vm.findClass RX8 = some m.cls := X.2.2.2.2.2.1
  have hts := X.2.2.2.2.2.2.1
  refine W.eq (g2 := F0 m 0 ls []) rfl ?_
  unfold T_X8_priceOf_0 at hf
  obtain ⟨q1, h1, hf⟩ := s_bind hf
  obtain ⟨q2, h2, hf⟩ := s_bind hf
  obtain ⟨q3, h3, hf⟩ := s_bind hf
  obtain ⟨q4, h4, hf⟩ := s_bind hf
  cases hf
  have k : _ = r := k
  subst k
  have le5 : s_le q4.2 q4.2 := s_le.rf
  have le6 := s_le.tr (l_X8_costOf h4) le5
  have le7 := s_le.tr (l_X8_ofLine h3) le6
  have le8 := s_le.tr (l_X8_ofLine h2) le7
  refine lv_aload_n hx hb dX8_priceOf_0 rfl (lv_at hl 0 rfl) ?_
  refine lv_aload_n hx hb dX8_priceOf_1 rfl (lv_at hl 0 rfl) ?_
  refine lv_iload_n hx hb dX8_priceOf_2 rfl (lv_at hl 1 rfl) ?_
  refine lv_iconst (v := 0) hx hb dX8_priceOf_3 (by decide) ?_
  refine r_callV (Y := M_X8_ofLine) (v := some (.int q1.1)) X I w_2015 my_X8_ofLine (by omega) (t_X8_ofLine (G := G) (d := d + 0) h1) (b_X8_ofLine h1) rfl rfl hl.1 rfl (Nat.le_of_ble_eq_true rfl) hn le8 dX8_priceOf_4 (fun H locs cells slots I hn1 hn2 => ?_)
  have I : s_I G q1.2 s H locs := I
  have hn : cells + σ0.2.1 ≤ q1.2.2.1 ∧ slots + σ0.2.2.1 ≤ q1.2.2.2.1 := ⟨hn1, hn2⟩
  refine lv_aload_n hx hb dX8_priceOf_7 rfl (lv_at hl 0 rfl) ?_
  refine lv_iload_n hx hb dX8_priceOf_8 rfl (lv_at hl 1 rfl) ?_
  refine lv_iconst (v := 2) hx hb dX8_priceOf_9 (by decide) ?_
  refine r_callV (Y := M_X8_ofLine) (v := some (.int q2.1)) X I w_2015 my_X8_ofLine (by omega) (t_X8_ofLine (G := G) (d := d + 0) h2) (b_X8_ofLine h2) rfl rfl hl.1 rfl (Nat.le_of_ble_eq_true rfl) hn le7 dX8_priceOf_10 (fun H locs cells slots I hn1 hn2 => ?_)
  have I : s_I G q2.2 s H locs := I
  have hn : cells + σ0.2.1 ≤ q2.2.2.1 ∧ slots + σ0.2.2.1 ≤ q2.2.2.2.1 := ⟨hn1, hn2⟩
  refine lv_aload_n hx hb dX8_priceOf_13 rfl (lv_at hl 0 rfl) ?_
  refine lv_iload_n hx hb dX8_priceOf_14 rfl (lv_at hl 1 rfl) ?_
  refine lv_iconst (v := 1) hx hb dX8_priceOf_15 (by decide) ?_
  refine r_callV (Y := M_X8_ofLine) (v := some (.int q3.1)) X I w_2015 my_X8_ofLine (by omega) (t_X8_ofLine (G := G) (d := d + 0) h3) (b_X8_ofLine h3) rfl rfl hl.1 rfl (Nat.le_of_ble_eq_true rfl) hn le6 dX8_priceOf_16 (fun H locs cells slots I hn1 hn2 => ?_)
  have I : s_I G q3.2 s H locs := I
  have hn : cells + σ0.2.1 ≤ q3.2.2.1 ∧ slots + σ0.2.2.1 ≤ q3.2.2.2.1 := ⟨hn1, hn2⟩
  refine r_callV (Y := M_X8_costOf) (v := some (.int q4.1)) X I w_2019 my_X8_costOf (by omega) (t_X8_costOf (G := G) (d := d + 0) h4) (b_X8_costOf h4) rfl rfl hl.1 rfl (Nat.le_of_ble_eq_true rfl) hn le5 dX8_priceOf_19 (fun H locs cells slots I hn1 hn2 => ?_)
  have I : s_I G q4.2 s H locs := I
  have hn : cells + σ0.2.1 ≤ q4.2.2.1 ∧ slots + σ0.2.2.1 ≤ q4.2.2.2.1 := ⟨hn1, hn2⟩
  exact r_iret X I rfl rfl rfl hn dX8_priceOf_22
theorem v_X8_priceOf {G : sG} {d : Nat} {vs0 : List Value} {σ0 : sS} {x : sL} {z : sZ Int32} {r : Int32 × sS} (hs : S_X8_priceOf x = some z) (k : s_K G (d + 2) M_X8_priceOf vs0 σ0 Y_X8_priceOf e_I z r) : s_V G (d + 2) M_X8_priceOf vs0 σ0 Y_X8_priceOf x (e_I r) := by
  obtain ⟨pc, vs, σ⟩ := x
  unfold S_X8_priceOf at hs
  dsimp only at hs
  rcases s_ite hs with ⟨c, hs⟩ | ⟨-, hs⟩
  · subst c
    unfold U_X8_priceOf_0 at hs
    obtain ⟨a0, g0, hs⟩ := s_bind hs
    obtain ⟨a1, g1, hs⟩ := s_bind hs
    obtain ⟨u9, ge, hs⟩ := s_bind hs
    rw [g_r_to g0, g_i_to g1, g_e_to ge]
    exact v_X8_priceOf_0 hs k
  cases hs
theorem t_X8_priceOf {G : sG} {d : Nat} {v0 : Nat} {v1 : Int32} {σ : sS} {q : Int32 × sS} (h : F_X8_priceOf v0 v1 σ = some q) : s_T G (d + 2) M_X8_priceOf [.ref v0, .int v1] σ (e_I q) := by
  unfold F_X8_priceOf at h
  obtain ⟨-, -, h⟩ := s_bind h
  exact s_ofV rfl (by decide) (Nat.le_of_ble_eq_true rfl) rfl rfl (s_run_ind (V := fun x r => s_V G (d + 2) M_X8_priceOf [.ref v0, .int v1] σ Y_X8_priceOf x (e_I r)) (fun x z r hs hk => v_X8_priceOf hs (by cases z <;> exact hk)) h)
/-! X8_look -/
noncomputable def T_X8_look_0 (v0 : Nat) (v1 : Int32) (v2 : Int32) (σ : sS) : Option (sZ Int32) :=
  (s_pf σ v0 8 0 (.int 0)).bind fun σ1 =>
  (F_X8_noLine v0 v1 σ1).bind fun q2 =>
  (F_X8_throwsIf v0 q2.1 1 q2.2).bind fun q3 =>
  if q3.1 = 0 then ((F_X8_in v2 0 6 q3.2).bind fun q4 =>
  if q4.1 = 0 then (some (.inl (34, [.ref v0, .int v1, .int v2, .int 1, .ref v0], q4.2)))
  else (some (.inl (34, [.ref v0, .int v1, .int v2, .int 0, .ref v0], q4.2))))
  else (some (.inr (0, q3.2)))
noncomputable def U_X8_look_0 (vs : List Value) (σ : sS) : Option (sZ Int32) := (g_r vs).bind fun a0 => (g_i a0.2).bind fun a1 => (g_i a1.2).bind fun a2 => (g_e a2.2).bind fun _ => T_X8_look_0 a0.1 a1.1 a2.1 σ
noncomputable def T_X8_look_34 (v0 : Nat) (v1 : Int32) (v2 : Int32) (w0 : Int32) (w1 : Nat) (σ : sS) : Option (sZ Int32) :=
  (F_X8_throwsIf w1 w0 2 σ).bind fun q1 =>
  if q1.1 = 0 then (if v2 = 6 then ((F_X8_priceOf v0 v1 q1.2).bind fun q3 =>
  some (.inr (q3.1, q3.2)))
  else ((F_X8_ofLine v0 v1 v2 q1.2).bind fun q2 =>
  some (.inr (q2.1, q2.2))))
  else (some (.inr (0, q1.2)))
noncomputable def U_X8_look_34 (vs : List Value) (σ : sS) : Option (sZ Int32) := (g_r vs).bind fun a0 => (g_i a0.2).bind fun a1 => (g_i a1.2).bind fun a2 => (g_i a2.2).bind fun a3 => (g_r a3.2).bind fun a4 => (g_e a4.2).bind fun _ => T_X8_look_34 a0.1 a1.1 a2.1 a3.1 a4.1 σ
noncomputable def S_X8_look (x : sL) : Option (sZ Int32) := if x.1 = 0 then U_X8_look_0 x.2.1 x.2.2 else if x.1 = 34 then U_X8_look_34 x.2.1 x.2.2 else none
def Y_X8_look (pc : Nat) : List Nat := if pc = 0 then [0, 1, 2] else if pc = 34 then [0, 1, 2] else []
noncomputable def F_X8_look (v0 : Nat) (v1 : Int32) (v2 : Int32) (σ : sS) : Option (Int32 × sS) := (s_is σ v0 8).bind fun _ => s_run S_X8_look (0, [.ref v0, .int v1, .int v2], σ)
theorem l_X8_look_0 {v0 : Nat} {v1 : Int32} {v2 : Int32} {σ : sS} {z : sZ Int32} (hf : T_X8_look_0 v0 v1 v2 σ = some z) : s_lz σ z := by
  unfold T_X8_look_0 at hf
  obtain ⟨σ1, hh, hf⟩ := s_bind hf
  refine s_lz.tr (s_le2 (s_pf_2 hh)) ?_
  obtain ⟨q2, hh, hf⟩ := s_bind hf
  refine s_lz.tr (l_X8_noLine hh) ?_
  obtain ⟨q3, hh, hf⟩ := s_bind hf
  refine s_lz.tr (l_X8_throwsIf hh) ?_
  rcases s_ite hf with ⟨-, hf⟩ | ⟨-, hf⟩
  · obtain ⟨q4, hh, hf⟩ := s_bind hf
    refine s_lz.tr (l_X8_in hh) ?_
    rcases s_ite hf with ⟨-, hf⟩ | ⟨-, hf⟩
    · cases hf
      exact s_le.rf
    · cases hf
      exact s_le.rf
  · cases hf
    exact s_le.rf
theorem l_X8_look_34 {v0 : Nat} {v1 : Int32} {v2 : Int32} {w0 : Int32} {w1 : Nat} {σ : sS} {z : sZ Int32} (hf : T_X8_look_34 v0 v1 v2 w0 w1 σ = some z) : s_lz σ z := by
  unfold T_X8_look_34 at hf
  obtain ⟨q1, hh, hf⟩ := s_bind hf
  refine s_lz.tr (l_X8_throwsIf hh) ?_
  rcases s_ite hf with ⟨-, hf⟩ | ⟨-, hf⟩
  · rcases s_ite hf with ⟨-, hf⟩ | ⟨-, hf⟩
    · obtain ⟨q3, hh, hf⟩ := s_bind hf
      refine s_lz.tr (l_X8_priceOf hh) ?_
      cases hf
      exact s_le.rf
    · obtain ⟨q2, hh, hf⟩ := s_bind hf
      refine s_lz.tr (l_X8_ofLine hh) ?_
      cases hf
      exact s_le.rf
  · cases hf
    exact s_le.rf
theorem l_X8_look_s {x : sL} {z : sZ Int32} (hs : S_X8_look x = some z) : s_lz x.2.2 z := by
  obtain ⟨pc, vs, σ⟩ := x
  unfold S_X8_look at hs
  dsimp only at hs ⊢
  rcases s_ite hs with ⟨c, hs⟩ | ⟨-, hs⟩
  · subst c
    unfold U_X8_look_0 at hs
    obtain ⟨a0, g0, hs⟩ := s_bind hs
    obtain ⟨a1, g1, hs⟩ := s_bind hs
    obtain ⟨a2, g2, hs⟩ := s_bind hs
    obtain ⟨u9, ge, hs⟩ := s_bind hs
    exact l_X8_look_0 hs
  rcases s_ite hs with ⟨c, hs⟩ | ⟨-, hs⟩
  · subst c
    unfold U_X8_look_34 at hs
    obtain ⟨a0, g0, hs⟩ := s_bind hs
    obtain ⟨a1, g1, hs⟩ := s_bind hs
    obtain ⟨a2, g2, hs⟩ := s_bind hs
    obtain ⟨a3, g3, hs⟩ := s_bind hs
    obtain ⟨a4, g4, hs⟩ := s_bind hs
    obtain ⟨u9, ge, hs⟩ := s_bind hs
    exact l_X8_look_34 hs
  cases hs
theorem l_X8_look {v0 : Nat} {v1 : Int32} {v2 : Int32} {σ : sS} {q : Int32 × sS} (h : F_X8_look v0 v1 v2 σ = some q) : s_le σ q.2 := by
  unfold F_X8_look at h
  obtain ⟨-, -, h⟩ := s_bind h
  exact s_run_ind (V := fun x r => s_le x.2.2 r.2) (fun x z r hs hk => by
    have h9 := l_X8_look_s hs
    cases z with
    | inl y => exact s_le.tr h9 hk
    | inr q => cases hk; exact h9) h
theorem b_X8_look {v0 : Nat} {v1 : Int32} {v2 : Int32} {σ : sS} {q : Int32 × sS} (h : F_X8_look v0 v1 v2 σ = some q) : ∃ fs, σ.1 v0 = some (.inr (8, fs)) := by
  unfold F_X8_look at h
  obtain ⟨u, hu, -⟩ := s_bind h
  exact s_is_to hu
set_option maxRecDepth 100000 in
set_option maxHeartbeats 4000000 in
theorem v_X8_look_0 {G : sG} {d : Nat} {vs0 : List Value} {σ0 : sS} {v0 : Nat} {v1 : Int32} {v2 : Int32} {σ : sS} {z : sZ Int32} {r : Int32 × sS} (hf : T_X8_look_0 v0 v1 v2 σ = some z) (k : s_K G (d + 3) M_X8_look vs0 σ0 Y_X8_look e_I z r) : s_V G (d + 3) M_X8_look vs0 σ0 Y_X8_look (0, [.ref v0, .int v1, .int v2], σ) (e_I r) := by
  have le0 : s_le σ (e_I r).2 := s_lek hem_I (l_X8_look_0 hf) k
  refine ⟨le0, ?_⟩
  intro p e s m below meth c H locs cells slots ls X I hn1 hn2 hl
  have hn : cells + σ0.2.1 ≤ σ.2.1 ∧ slots + σ0.2.2.1 ≤ σ.2.2.1 := ⟨hn1, hn2⟩
  have hl : lv_has ls 3 [(0, .ref v0), (1, .int v1), (2, .int v2)] := hl
  have hx := X.1
  have hb : c.code = cX8_look := X.2.1
  have hown : s.vm.findClass RX8 = some m.cls := X.2.2.2.2.2.1
  have hts := X.2.2.2.2.2.2.1
  refine W.eq (g2 := F0 m 0 ls []) rfl ?_
  unfold T_X8_look_0 at hf
  obtain ⟨σ1, h1, hf⟩ := s_bind hf
  obtain ⟨q2, h2, hf⟩ := s_bind hf
  obtain ⟨q3, h3, hf⟩ := s_bind hf
  have le4 : s_le q3.2 (e_I r).2 := by
    refine s_lek hem_I ?_ k
    rcases s_ite hf with ⟨-, hf⟩ | ⟨-, hf⟩
    · obtain ⟨q4, hh, hf⟩ := s_bind hf
      refine s_lz.tr (l_X8_in hh) ?_
      rcases s_ite hf with ⟨-, hf⟩ | ⟨-, hf⟩
      · cases hf
        exact s_le.rf
      · cases hf
        exact s_le.rf
    · cases hf
      exact s_le.rf
  have le5 := s_le.tr (l_X8_throwsIf h3) le4
  have le6 := s_le.tr (l_X8_noLine h2) le5
  refine lv_aload_n hx hb dX8_look_0 rfl (lv_at hl 0 rfl) ?_
  refine lv_iconst (v := 0) hx hb dX8_look_1 (by decide) ?_
  refine r_put X I fp_X8_3 (fun h => by cases h) h1 rfl rfl dX8_look_2 (fun H locs I => ?_)
  have hn := s_k2 (s_pf_2 h1) hn
  refine lv_aload_n hx hb dX8_look_5 rfl (lv_at hl 0 rfl) ?_
  refine lv_aload_n hx hb dX8_look_6 rfl (lv_at hl 0 rfl) ?_
  refine lv_iload_n hx hb dX8_look_7 rfl (lv_at hl 1 rfl) ?_
  refine r_callV (Y := M_X8_noLine) (v := some (.int q2.1)) X I w_1999 my_X8_noLine (by omega) (t_X8_noLine (G := G) (d := d + 0) h2) (b_X8_noLine h2) rfl rfl hl.1 rfl (Nat.le_of_ble_eq_true rfl) hn le5 dX8_look_8 (fun H locs cells slots I hn1 hn2 => ?_)
  have I : s_I G q2.2 s H locs := I
  have hn : cells + σ0.2.1 ≤ q2.2.2.1 ∧ slots + σ0.2.2.1 ≤ q2.2.2.2.1 := ⟨hn1, hn2⟩
  refine lv_iconst (v := 1) hx hb dX8_look_11 (by decide) ?_
  refine r_callV (Y := M_X8_throwsIf) (v := some (.int q3.1)) X I w_1897 my_X8_throwsIf (by omega) (t_X8_throwsIf (G := G) (d := d + 1) h3) (b_X8_throwsIf h3) rfl rfl hl.1 rfl (Nat.le_of_ble_eq_true rfl) hn le4 dX8_look_12 (fun H locs cells slots I hn1 hn2 => ?_)
  have I : s_I G q3.2 s H locs := I
  have hn : cells + σ0.2.1 ≤ q3.2.2.1 ∧ slots + σ0.2.2.1 ≤ q3.2.2.2.1 := ⟨hn1, hn2⟩
  rcases s_ite hf with ⟨c7, hf⟩ | ⟨c7, hf⟩
  · refine lv_if_ne (tgt := 41) hx hb dX8_look_15 (by decide) (fun n => absurd c7 n) (fun _ => ?_)
    obtain ⟨q4, h8, hf⟩ := s_bind hf
    have le9 : s_le q4.2 (e_I r).2 := by
      refine s_lek hem_I ?_ k
      rcases s_ite hf with ⟨-, hf⟩ | ⟨-, hf⟩
      · cases hf
        exact s_le.rf
      · cases hf
        exact s_le.rf
    refine lv_aload_n hx hb dX8_look_18 rfl (lv_at hl 0 rfl) ?_
    refine lv_iload_n hx hb dX8_look_19 rfl (lv_at hl 2 rfl) ?_
    refine lv_iconst (v := 0) hx hb dX8_look_20 (by decide) ?_
    refine lv_bipush (v := 6) hx hb dX8_look_21 (by decide) ?_
    refine r_callS (Y := M_X8_in) (v := some (.int q4.1)) X I w_1909 my_X8_in (by omega) (t_X8_in (G := G) (d := d + 1) h8) rfl rfl hl.1 rfl (Nat.le_of_ble_eq_true rfl) hn le9 dX8_look_23 (fun H locs cells slots I hn1 hn2 => ?_)
    have I : s_I G q4.2 s H locs := I
    have hn : cells + σ0.2.1 ≤ q4.2.2.1 ∧ slots + σ0.2.2.1 ≤ q4.2.2.2.1 := ⟨hn1, hn2⟩
    rcases s_ite hf with ⟨c10, hf⟩ | ⟨c10, hf⟩
    · refine lv_if_ne (tgt := 33) hx hb dX8_look_26 (by decide) (fun n => absurd c10 n) (fun _ => ?_)
      cases hf
      have k : s_V G (d + 3) M_X8_look vs0 σ0 Y_X8_look (34, [.ref v0, .int v1, .int v2, .int 1, .ref v0], q4.2) (e_I r) := k
      refine lv_iconst (v := 1) hx hb dX8_look_29 (by decide) ?_
      refine lv_goto (tgt := 34) hx hb dX8_look_30 (by decide) ?_
      exact k.2 p e s m below meth c _ _ _ _ _ X I hn.1 hn.2 (lv_sub hl [0, 1, 2] rfl)
    · refine lv_if_ne (tgt := 33) hx hb dX8_look_26 (by decide) (fun _ => ?_) (fun n => absurd n c10)
      cases hf
      have k : s_V G (d + 3) M_X8_look vs0 σ0 Y_X8_look (34, [.ref v0, .int v1, .int v2, .int 0, .ref v0], q4.2) (e_I r) := k
      refine lv_iconst (v := 0) hx hb dX8_look_33 (by decide) ?_
      exact k.2 p e s m below meth c _ _ _ _ _ X I hn.1 hn.2 (lv_sub hl [0, 1, 2] rfl)
  · refine lv_if_ne (tgt := 41) hx hb dX8_look_15 (by decide) (fun _ => ?_) (fun n => absurd n c7)
    cases hf
    have k : _ = r := k
    subst k
    refine lv_iconst (v := 0) hx hb dX8_look_41 (by decide) ?_
    refine lv_goto (tgt := 65) hx hb dX8_look_42 (by decide) ?_
    exact r_iret X I rfl rfl rfl hn dX8_look_65
set_option maxRecDepth 100000 in
set_option maxHeartbeats 4000000 in
theorem v_X8_look_34 {G : sG} {d : Nat} {vs0 : List Value} {σ0 : sS} {v0 : Nat} {v1 : Int32} {v2 : Int32} {w0 : Int32} {w1 : Nat} {σ : sS} {z : sZ Int32} {r : Int32 × sS} (hf : T_X8_look_34 v0 v1 v2 w0 w1 σ = some z) (k : s_K G (d + 3) M_X8_look vs0 σ0 Y_X8_look e_I z r) : s_V G (d + 3) M_X8_look vs0 σ0 Y_X8_look (34, [.ref v0, .int v1, .int v2, .int w0, .ref w1], σ) (e_I r) := by
  have le0 : s_le σ (e_I r).2 := s_lek hem_I (l_X8_look_34 hf) k
  refine ⟨le0, ?_⟩
  intro p e s m below meth c H locs cells slots ls X I hn1 hn2 hl
  have hn : cells + σ0.2.1 ≤ σ.2.1 ∧ slots + σ0.2.2.1 ≤ σ.2.2.1 := ⟨hn1, hn2⟩
  have hl : lv_has ls 3 [(0, .ref v0), (1, .int v1), (2, .int v2)] := hl
  have hx := X.1
  have hb : c.code = cX8_look := X.2.1
  have hown : s.vm.findClass RX8 = some m.cls := X.2.2.2.2.2.1
  have hts := X.2.2.2.2.2.2.1
  refine W.eq (g2 := F0 m 34 ls [.int w0, .ref w1]) rfl ?_
  unfold T_X8_look_34 at hf
  obtain ⟨q1, h1, hf⟩ := s_bind hf
  have le2 : s_le q1.2 (e_I r).2 := by
    refine s_lek hem_I ?_ k
    rcases s_ite hf with ⟨-, hf⟩ | ⟨-, hf⟩
    · rcases s_ite hf with ⟨-, hf⟩ | ⟨-, hf⟩
      · obtain ⟨q3, hh, hf⟩ := s_bind hf
        refine s_lz.tr (l_X8_priceOf hh) ?_
        cases hf
        exact s_le.rf
      · obtain ⟨q2, hh, hf⟩ := s_bind hf
        refine s_lz.tr (l_X8_ofLine hh) ?_
        cases hf
        exact s_le.rf
    · cases hf
      exact s_le.rf
  refine lv_iconst (v := 2) hx hb dX8_look_34 (by decide) ?_
  refine r_callV (Y := M_X8_throwsIf) (v := some (.int q1.1)) X I w_1897 my_X8_throwsIf (by omega) (t_X8_throwsIf (G := G) (d := d + 1) h1) (b_X8_throwsIf h1) rfl rfl hl.1 rfl (Nat.le_of_ble_eq_true rfl) hn le2 dX8_look_35 (fun H locs cells slots I hn1 hn2 => ?_)
  have I : s_I G q1.2 s H locs := I
  have hn : cells + σ0.2.1 ≤ q1.2.2.1 ∧ slots + σ0.2.2.1 ≤ q1.2.2.2.1 := ⟨hn1, hn2⟩
  rcases s_ite hf with ⟨c3, hf⟩ | ⟨c3, hf⟩
  · refine lv_if_eq (tgt := 45) hx hb dX8_look_38 (by decide) (fun _ => ?_) (fun n => absurd c3 n)
    refine lv_iload_n hx hb dX8_look_45 rfl (lv_at hl 2 rfl) ?_
    refine lv_bipush (v := 6) hx hb dX8_look_46 (by decide) ?_
    rcases s_ite hf with ⟨c4, hf⟩ | ⟨c4, hf⟩
    · refine lv_icmp_ne (tgt := 59) hx hb dX8_look_48 (by decide) (fun n => absurd c4 n) (fun _ => ?_)
      obtain ⟨q3, h5, hf⟩ := s_bind hf
      cases hf
      have k : _ = r := k
      subst k
      have le6 : s_le q3.2 q3.2 := s_le.rf
      refine lv_aload_n hx hb dX8_look_51 rfl (lv_at hl 0 rfl) ?_
      refine lv_iload_n hx hb dX8_look_52 rfl (lv_at hl 1 rfl) ?_
      refine r_callV (Y := M_X8_priceOf) (v := some (.int q3.1)) X I w_2011 my_X8_priceOf (by omega) (t_X8_priceOf (G := G) (d := d + 0) h5) (b_X8_priceOf h5) rfl rfl hl.1 rfl (Nat.le_of_ble_eq_true rfl) hn le6 dX8_look_53 (fun H locs cells slots I hn1 hn2 => ?_)
      have I : s_I G q3.2 s H locs := I
      have hn : cells + σ0.2.1 ≤ q3.2.2.1 ∧ slots + σ0.2.2.1 ≤ q3.2.2.2.1 := ⟨hn1, hn2⟩
      refine lv_goto (tgt := 65) hx hb dX8_look_56 (by decide) ?_
      exact r_iret X I rfl rfl rfl hn dX8_look_65
    · refine lv_icmp_ne (tgt := 59) hx hb dX8_look_48 (by decide) (fun _ => ?_) (fun n => absurd n c4)
      obtain ⟨q2, h7, hf⟩ := s_bind hf
      cases hf
      have k : _ = r := k
      subst k
      have le8 : s_le q2.2 q2.2 := s_le.rf
      refine lv_aload_n hx hb dX8_look_59 rfl (lv_at hl 0 rfl) ?_
      refine lv_iload_n hx hb dX8_look_60 rfl (lv_at hl 1 rfl) ?_
      refine lv_iload_n hx hb dX8_look_61 rfl (lv_at hl 2 rfl) ?_
      refine r_callV (Y := M_X8_ofLine) (v := some (.int q2.1)) X I w_2015 my_X8_ofLine (by omega) (t_X8_ofLine (G := G) (d := d + 1) h7) (b_X8_ofLine h7) rfl rfl hl.1 rfl (Nat.le_of_ble_eq_true rfl) hn le8 dX8_look_62 (fun H locs cells slots I hn1 hn2 => ?_)
      have I : s_I G q2.2 s H locs := I
      have hn : cells + σ0.2.1 ≤ q2.2.2.1 ∧ slots + σ0.2.2.1 ≤ q2.2.2.2.1 := ⟨hn1, hn2⟩
      exact r_iret X I rfl rfl rfl hn dX8_look_65
  · refine lv_if_eq (tgt := 45) hx hb dX8_look_38 (by decide) (fun n => absurd n c3) (fun _ => ?_)
    cases hf
    have k : _ = r := k
    subst k
    refine lv_iconst (v := 0) hx hb dX8_look_41 (by decide) ?_
    refine lv_goto (tgt := 65) hx hb dX8_look_42 (by decide) ?_
    exact r_iret X I rfl rfl rfl hn dX8_look_65
theorem v_X8_look {G : sG} {d : Nat} {vs0 : List Value} {σ0 : sS} {x : sL} {z : sZ Int32} {r : Int32 × sS} (hs : S_X8_look x = some z) (k : s_K G (d + 3) M_X8_look vs0 σ0 Y_X8_look e_I z r) : s_V G (d + 3) M_X8_look vs0 σ0 Y_X8_look x (e_I r) := by
  obtain ⟨pc, vs, σ⟩ := x
  unfold S_X8_look at hs
  dsimp only at hs
  rcases s_ite hs with ⟨c, hs⟩ | ⟨-, hs⟩
  · subst c
    unfold U_X8_look_0 at hs
    obtain ⟨a0, g0, hs⟩ := s_bind hs
    obtain ⟨a1, g1, hs⟩ := s_bind hs
    obtain ⟨a2, g2, hs⟩ := s_bind hs
    obtain ⟨u9, ge, hs⟩ := s_bind hs
    rw [g_r_to g0, g_i_to g1, g_i_to g2, g_e_to ge]
    exact v_X8_look_0 hs k
  rcases s_ite hs with ⟨c, hs⟩ | ⟨-, hs⟩
  · subst c
    unfold U_X8_look_34 at hs
    obtain ⟨a0, g0, hs⟩ := s_bind hs
    obtain ⟨a1, g1, hs⟩ := s_bind hs
    obtain ⟨a2, g2, hs⟩ := s_bind hs
    obtain ⟨a3, g3, hs⟩ := s_bind hs
    obtain ⟨a4, g4, hs⟩ := s_bind hs
    obtain ⟨u9, ge, hs⟩ := s_bind hs
    rw [g_r_to g0, g_i_to g1, g_i_to g2, g_i_to g3, g_r_to g4, g_e_to ge]
    exact v_X8_look_34 hs k
  cases hs
theorem t_X8_look {G : sG} {d : Nat} {v0 : Nat} {v1 : Int32} {v2 : Int32} {σ : sS} {q : Int32 × sS} (h : F_X8_look v0 v1 v2 σ = some q) : s_T G (d + 3) M_X8_look [.ref v0, .int v1, .int v2] σ (e_I q) := by
  unfold F_X8_look at h
  obtain ⟨-, -, h⟩ := s_bind h
  exact s_ofV rfl (by decide) (Nat.le_of_ble_eq_true rfl) rfl rfl (s_run_ind (V := fun x r => s_V G (d + 3) M_X8_look [.ref v0, .int v1, .int v2] σ Y_X8_look x (e_I r)) (fun x z r hs hk => v_X8_look hs (by cases z <;> exact hk)) h)
/-! X8_hasRule -/
noncomputable def T_X8_hasRule_0 (v0 : Nat) (v1 : Int32) (v2 : Int32) (σ : sS) : Option (sZ Int32) :=
  (s_fr σ v0 8 1).bind fun x1 =>
  (s_ai σ x1 (4 + (18 * v1))).bind fun x2 =>
  if ((x2 >>> (v2 &&& 31)) &&& 1) = 1 then (some (.inr (1, σ)))
  else (some (.inr (0, σ)))
noncomputable def U_X8_hasRule_0 (vs : List Value) (σ : sS) : Option (sZ Int32) := (g_r vs).bind fun a0 => (g_i a0.2).bind fun a1 => (g_i a1.2).bind fun a2 => (g_e a2.2).bind fun _ => T_X8_hasRule_0 a0.1 a1.1 a2.1 σ
noncomputable def S_X8_hasRule (x : sL) : Option (sZ Int32) := if x.1 = 0 then U_X8_hasRule_0 x.2.1 x.2.2 else none
def Y_X8_hasRule (pc : Nat) : List Nat := if pc = 0 then [0, 1, 2] else []
noncomputable def F_X8_hasRule (v0 : Nat) (v1 : Int32) (v2 : Int32) (σ : sS) : Option (Int32 × sS) := (s_is σ v0 8).bind fun _ => s_run S_X8_hasRule (0, [.ref v0, .int v1, .int v2], σ)
theorem l_X8_hasRule_0 {v0 : Nat} {v1 : Int32} {v2 : Int32} {σ : sS} {z : sZ Int32} (hf : T_X8_hasRule_0 v0 v1 v2 σ = some z) : s_lz σ z := by
  unfold T_X8_hasRule_0 at hf
  obtain ⟨x1, -, hf⟩ := s_bind hf
  obtain ⟨x2, -, hf⟩ := s_bind hf
  rcases s_ite hf with ⟨-, hf⟩ | ⟨-, hf⟩
  · cases hf
    exact s_le.rf
  · cases hf
    exact s_le.rf
theorem l_X8_hasRule_s {x : sL} {z : sZ Int32} (hs : S_X8_hasRule x = some z) : s_lz x.2.2 z := by
  obtain ⟨pc, vs, σ⟩ := x
  unfold S_X8_hasRule at hs
  dsimp only at hs ⊢
  rcases s_ite hs with ⟨c, hs⟩ | ⟨-, hs⟩
  · subst c
    unfold U_X8_hasRule_0 at hs
    obtain ⟨a0, g0, hs⟩ := s_bind hs
    obtain ⟨a1, g1, hs⟩ := s_bind hs
    obtain ⟨a2, g2, hs⟩ := s_bind hs
    obtain ⟨u9, ge, hs⟩ := s_bind hs
    exact l_X8_hasRule_0 hs
  cases hs
theorem l_X8_hasRule {v0 : Nat} {v1 : Int32} {v2 : Int32} {σ : sS} {q : Int32 × sS} (h : F_X8_hasRule v0 v1 v2 σ = some q) : s_le σ q.2 := by
  unfold F_X8_hasRule at h
  obtain ⟨-, -, h⟩ := s_bind h
  exact s_run_ind (V := fun x r => s_le x.2.2 r.2) (fun x z r hs hk => by
    have h9 := l_X8_hasRule_s hs
    cases z with
    | inl y => exact s_le.tr h9 hk
    | inr q => cases hk; exact h9) h
theorem b_X8_hasRule {v0 : Nat} {v1 : Int32} {v2 : Int32} {σ : sS} {q : Int32 × sS} (h : F_X8_hasRule v0 v1 v2 σ = some q) : ∃ fs, σ.1 v0 = some (.inr (8, fs)) := by
  unfold F_X8_hasRule at h
  obtain ⟨u, hu, -⟩ := s_bind h
  exact s_is_to hu
set_option maxRecDepth 100000 in
set_option maxHeartbeats 4000000 in
theorem v_X8_hasRule_0 {G : sG} {d : Nat} {vs0 : List Value} {σ0 : sS} {v0 : Nat} {v1 : Int32} {v2 : Int32} {σ : sS} {z : sZ Int32} {r : Int32 × sS} (hf : T_X8_hasRule_0 v0 v1 v2 σ = some z) (k : s_K G (d + 1) M_X8_hasRule vs0 σ0 Y_X8_hasRule e_I z r) : s_V G (d + 1) M_X8_hasRule vs0 σ0 Y_X8_hasRule (0, [.ref v0, .int v1, .int v2], σ) (e_I r) := by
  have le0 : s_le σ (e_I r).2 := s_lek hem_I (l_X8_hasRule_0 hf) k
  refine ⟨le0, ?_⟩
  intro p e s m below meth c H locs cells slots ls X I hn1 hn2 hl
  have hn : cells + σ0.2.1 ≤ σ.2.1 ∧ slots + σ0.2.2.1 ≤ σ.2.2.1 := ⟨hn1, hn2⟩
  have hl : lv_has ls 3 [(0, .ref v0), (1, .int v1), (2, .int v2)] := hl
  have hx := X.1
  have hb : c.code = cX8_hasRule := X.2.1
  have hown : s.vm.findClass RX8 = some m.cls := X.2.2.2.2.2.1
  have hts := X.2.2.2.2.2.2.1
  refine W.eq (g2 := F0 m 0 ls []) rfl ?_
  unfold T_X8_hasRule_0 at hf
  obtain ⟨x1, h1, hf⟩ := s_bind hf
  obtain ⟨x2, h2, hf⟩ := s_bind hf
  refine lv_aload_n hx hb dX8_hasRule_0 rfl (lv_at hl 0 rfl) ?_
  refine r_gr X I fl_X8_13 h1 dX8_hasRule_1 ?_
  refine lv_iconst (v := 4) hx hb dX8_hasRule_4 (by decide) ?_
  refine lv_bipush (v := 18) hx hb dX8_hasRule_5 (by decide) ?_
  refine lv_iload_n hx hb dX8_hasRule_7 rfl (lv_at hl 1 rfl) ?_
  refine lv_imul hx hb dX8_hasRule_8 ?_
  refine lv_iadd hx hb dX8_hasRule_9 ?_
  refine r_iald X I h2 dX8_hasRule_10 ?_
  refine lv_iload_n hx hb dX8_hasRule_11 rfl (lv_at hl 2 rfl) ?_
  refine lv_ishr hx hb dX8_hasRule_12 ?_
  refine lv_iconst (v := 1) hx hb dX8_hasRule_13 (by decide) ?_
  refine lv_iand hx hb dX8_hasRule_14 ?_
  refine lv_iconst (v := 1) hx hb dX8_hasRule_15 (by decide) ?_
  rcases s_ite hf with ⟨c3, hf⟩ | ⟨c3, hf⟩
  · refine lv_icmp_ne (tgt := 23) hx hb dX8_hasRule_16 (by decide) (fun n => absurd c3 n) (fun _ => ?_)
    cases hf
    have k : _ = r := k
    subst k
    refine lv_iconst (v := 1) hx hb dX8_hasRule_19 (by decide) ?_
    refine lv_goto (tgt := 24) hx hb dX8_hasRule_20 (by decide) ?_
    exact r_iret X I rfl rfl rfl hn dX8_hasRule_24
  · refine lv_icmp_ne (tgt := 23) hx hb dX8_hasRule_16 (by decide) (fun _ => ?_) (fun n => absurd n c3)
    cases hf
    have k : _ = r := k
    subst k
    refine lv_iconst (v := 0) hx hb dX8_hasRule_23 (by decide) ?_
    exact r_iret X I rfl rfl rfl hn dX8_hasRule_24
theorem v_X8_hasRule {G : sG} {d : Nat} {vs0 : List Value} {σ0 : sS} {x : sL} {z : sZ Int32} {r : Int32 × sS} (hs : S_X8_hasRule x = some z) (k : s_K G (d + 1) M_X8_hasRule vs0 σ0 Y_X8_hasRule e_I z r) : s_V G (d + 1) M_X8_hasRule vs0 σ0 Y_X8_hasRule x (e_I r) := by
  obtain ⟨pc, vs, σ⟩ := x
  unfold S_X8_hasRule at hs
  dsimp only at hs
  rcases s_ite hs with ⟨c, hs⟩ | ⟨-, hs⟩
  · subst c
    unfold U_X8_hasRule_0 at hs
    obtain ⟨a0, g0, hs⟩ := s_bind hs
    obtain ⟨a1, g1, hs⟩ := s_bind hs
    obtain ⟨a2, g2, hs⟩ := s_bind hs
    obtain ⟨u9, ge, hs⟩ := s_bind hs
    rw [g_r_to g0, g_i_to g1, g_i_to g2, g_e_to ge]
    exact v_X8_hasRule_0 hs k
  cases hs
theorem t_X8_hasRule {G : sG} {d : Nat} {v0 : Nat} {v1 : Int32} {v2 : Int32} {σ : sS} {q : Int32 × sS} (h : F_X8_hasRule v0 v1 v2 σ = some q) : s_T G (d + 1) M_X8_hasRule [.ref v0, .int v1, .int v2] σ (e_I q) := by
  unfold F_X8_hasRule at h
  obtain ⟨-, -, h⟩ := s_bind h
  exact s_ofV rfl (by decide) (Nat.le_of_ble_eq_true rfl) rfl rfl (s_run_ind (V := fun x r => s_V G (d + 1) M_X8_hasRule [.ref v0, .int v1, .int v2] σ Y_X8_hasRule x (e_I r)) (fun x z r hs hk => v_X8_hasRule hs (by cases z <;> exact hk)) h)
/-! X8_premise -/
noncomputable def T_X8_premise_0 (v0 : Nat) (v1 : Int32) (v2 : Int32) (σ : sS) : Option (sZ Int32) :=
  (F_X8_ofLine v0 v1 2 σ).bind fun q1 =>
  if q1.1 = 0 then (some (.inr ((-1), q1.2)))
  else ((F_X8_ofLine v0 v1 (3 + v2) q1.2).bind fun q2 =>
  some (.inr (q2.1, q2.2)))
noncomputable def U_X8_premise_0 (vs : List Value) (σ : sS) : Option (sZ Int32) := (g_r vs).bind fun a0 => (g_i a0.2).bind fun a1 => (g_i a1.2).bind fun a2 => (g_e a2.2).bind fun _ => T_X8_premise_0 a0.1 a1.1 a2.1 σ
noncomputable def S_X8_premise (x : sL) : Option (sZ Int32) := if x.1 = 0 then U_X8_premise_0 x.2.1 x.2.2 else none
def Y_X8_premise (pc : Nat) : List Nat := if pc = 0 then [0, 1, 2] else []
noncomputable def F_X8_premise (v0 : Nat) (v1 : Int32) (v2 : Int32) (σ : sS) : Option (Int32 × sS) := (s_is σ v0 8).bind fun _ => s_run S_X8_premise (0, [.ref v0, .int v1, .int v2], σ)
theorem l_X8_premise_0 {v0 : Nat} {v1 : Int32} {v2 : Int32} {σ : sS} {z : sZ Int32} (hf : T_X8_premise_0 v0 v1 v2 σ = some z) : s_lz σ z := by
  unfold T_X8_premise_0 at hf
  obtain ⟨q1, hh, hf⟩ := s_bind hf
  refine s_lz.tr (l_X8_ofLine hh) ?_
  rcases s_ite hf with ⟨-, hf⟩ | ⟨-, hf⟩
  · cases hf
    exact s_le.rf
  · obtain ⟨q2, hh, hf⟩ := s_bind hf
    refine s_lz.tr (l_X8_ofLine hh) ?_
    cases hf
    exact s_le.rf
theorem l_X8_premise_s {x : sL} {z : sZ Int32} (hs : S_X8_premise x = some z) : s_lz x.2.2 z := by
  obtain ⟨pc, vs, σ⟩ := x
  unfold S_X8_premise at hs
  dsimp only at hs ⊢
  rcases s_ite hs with ⟨c, hs⟩ | ⟨-, hs⟩
  · subst c
    unfold U_X8_premise_0 at hs
    obtain ⟨a0, g0, hs⟩ := s_bind hs
    obtain ⟨a1, g1, hs⟩ := s_bind hs
    obtain ⟨a2, g2, hs⟩ := s_bind hs
    obtain ⟨u9, ge, hs⟩ := s_bind hs
    exact l_X8_premise_0 hs
  cases hs
theorem l_X8_premise {v0 : Nat} {v1 : Int32} {v2 : Int32} {σ : sS} {q : Int32 × sS} (h : F_X8_premise v0 v1 v2 σ = some q) : s_le σ q.2 := by
  unfold F_X8_premise at h
  obtain ⟨-, -, h⟩ := s_bind h
  exact s_run_ind (V := fun x r => s_le x.2.2 r.2) (fun x z r hs hk => by
    have h9 := l_X8_premise_s hs
    cases z with
    | inl y => exact s_le.tr h9 hk
    | inr q => cases hk; exact h9) h
theorem b_X8_premise {v0 : Nat} {v1 : Int32} {v2 : Int32} {σ : sS} {q : Int32 × sS} (h : F_X8_premise v0 v1 v2 σ = some q) : ∃ fs, σ.1 v0 = some (.inr (8, fs)) := by
  unfold F_X8_premise at h
  obtain ⟨u, hu, -⟩ := s_bind h
  exact s_is_to hu
set_option maxRecDepth 100000 in
set_option maxHeartbeats 4000000 in
theorem v_X8_premise_0 {G : sG} {d : Nat} {vs0 : List Value} {σ0 : sS} {v0 : Nat} {v1 : Int32} {v2 : Int32} {σ : sS} {z : sZ Int32} {r : Int32 × sS} (hf : T_X8_premise_0 v0 v1 v2 σ = some z) (k : s_K G (d + 2) M_X8_premise vs0 σ0 Y_X8_premise e_I z r) : s_V G (d + 2) M_X8_premise vs0 σ0 Y_X8_premise (0, [.ref v0, .int v1, .int v2], σ) (e_I r) := by
  have le0 : s_le σ (e_I r).2 := s_lek hem_I (l_X8_premise_0 hf) k
  refine ⟨le0, ?_⟩
  intro p e s m below meth c H locs cells slots ls X I hn1 hn2 hl
  have hn : cells + σ0.2.1 ≤ σ.2.1 ∧ slots + σ0.2.2.1 ≤ σ.2.2.1 := ⟨hn1, hn2⟩
  have hl : lv_has ls 3 [(0, .ref v0), (1, .int v1), (2, .int v2)] := hl
  have hx := X.1
  have hb : c.code = cX8_premise := X.2.1
  have hown : s.vm.findClass RX8 = some m.cls := X.2.2.2.2.2.1
  have hts := X.2.2.2.2.2.2.1
  refine W.eq (g2 := F0 m 0 ls []) rfl ?_
  unfold T_X8_premise_0 at hf
  obtain ⟨q1, h1, hf⟩ := s_bind hf
  have le2 : s_le q1.2 (e_I r).2 := by
    refine s_lek hem_I ?_ k
    rcases s_ite hf with ⟨-, hf⟩ | ⟨-, hf⟩
    · cases hf
      exact s_le.rf
    · obtain ⟨q2, hh, hf⟩ := s_bind hf
      refine s_lz.tr (l_X8_ofLine hh) ?_
      cases hf
      exact s_le.rf
  refine lv_aload_n hx hb dX8_premise_0 rfl (lv_at hl 0 rfl) ?_
  refine lv_iload_n hx hb dX8_premise_1 rfl (lv_at hl 1 rfl) ?_
  refine lv_iconst (v := 2) hx hb dX8_premise_2 (by decide) ?_
  refine r_callV (Y := M_X8_ofLine) (v := some (.int q1.1)) X I w_2015 my_X8_ofLine (by omega) (t_X8_ofLine (G := G) (d := d + 0) h1) (b_X8_ofLine h1) rfl rfl hl.1 rfl (Nat.le_of_ble_eq_true rfl) hn le2 dX8_premise_3 (fun H locs cells slots I hn1 hn2 => ?_)
  have I : s_I G q1.2 s H locs := I
  have hn : cells + σ0.2.1 ≤ q1.2.2.1 ∧ slots + σ0.2.2.1 ≤ q1.2.2.2.1 := ⟨hn1, hn2⟩
  rcases s_ite hf with ⟨c3, hf⟩ | ⟨c3, hf⟩
  · refine lv_if_ne (tgt := 13) hx hb dX8_premise_6 (by decide) (fun n => absurd c3 n) (fun _ => ?_)
    cases hf
    have k : _ = r := k
    subst k
    refine lv_iconst (v := (-1)) hx hb dX8_premise_9 (by decide) ?_
    refine lv_goto (tgt := 21) hx hb dX8_premise_10 (by decide) ?_
    exact r_iret X I rfl rfl rfl hn dX8_premise_21
  · refine lv_if_ne (tgt := 13) hx hb dX8_premise_6 (by decide) (fun _ => ?_) (fun n => absurd n c3)
    obtain ⟨q2, h4, hf⟩ := s_bind hf
    cases hf
    have k : _ = r := k
    subst k
    have le5 : s_le q2.2 q2.2 := s_le.rf
    refine lv_aload_n hx hb dX8_premise_13 rfl (lv_at hl 0 rfl) ?_
    refine lv_iload_n hx hb dX8_premise_14 rfl (lv_at hl 1 rfl) ?_
    refine lv_iconst (v := 3) hx hb dX8_premise_15 (by decide) ?_
    refine lv_iload_n hx hb dX8_premise_16 rfl (lv_at hl 2 rfl) ?_
    refine lv_iadd hx hb dX8_premise_17 ?_
    refine r_callV (Y := M_X8_ofLine) (v := some (.int q2.1)) X I w_2015 my_X8_ofLine (by omega) (t_X8_ofLine (G := G) (d := d + 0) h4) (b_X8_ofLine h4) rfl rfl hl.1 rfl (Nat.le_of_ble_eq_true rfl) hn le5 dX8_premise_18 (fun H locs cells slots I hn1 hn2 => ?_)
    have I : s_I G q2.2 s H locs := I
    have hn : cells + σ0.2.1 ≤ q2.2.2.1 ∧ slots + σ0.2.2.1 ≤ q2.2.2.2.1 := ⟨hn1, hn2⟩
    exact r_iret X I rfl rfl rfl hn dX8_premise_21
theorem v_X8_premise {G : sG} {d : Nat} {vs0 : List Value} {σ0 : sS} {x : sL} {z : sZ Int32} {r : Int32 × sS} (hs : S_X8_premise x = some z) (k : s_K G (d + 2) M_X8_premise vs0 σ0 Y_X8_premise e_I z r) : s_V G (d + 2) M_X8_premise vs0 σ0 Y_X8_premise x (e_I r) := by
  obtain ⟨pc, vs, σ⟩ := x
  unfold S_X8_premise at hs
  dsimp only at hs
  rcases s_ite hs with ⟨c, hs⟩ | ⟨-, hs⟩
  · subst c
    unfold U_X8_premise_0 at hs
    obtain ⟨a0, g0, hs⟩ := s_bind hs
    obtain ⟨a1, g1, hs⟩ := s_bind hs
    obtain ⟨a2, g2, hs⟩ := s_bind hs
    obtain ⟨u9, ge, hs⟩ := s_bind hs
    rw [g_r_to g0, g_i_to g1, g_i_to g2, g_e_to ge]
    exact v_X8_premise_0 hs k
  cases hs
theorem t_X8_premise {G : sG} {d : Nat} {v0 : Nat} {v1 : Int32} {v2 : Int32} {σ : sS} {q : Int32 × sS} (h : F_X8_premise v0 v1 v2 σ = some q) : s_T G (d + 2) M_X8_premise [.ref v0, .int v1, .int v2] σ (e_I q) := by
  unfold F_X8_premise at h
  obtain ⟨-, -, h⟩ := s_bind h
  exact s_ofV rfl (by decide) (Nat.le_of_ble_eq_true rfl) rfl rfl (s_run_ind (V := fun x r => s_V G (d + 2) M_X8_premise [.ref v0, .int v1, .int v2] σ Y_X8_premise x (e_I r)) (fun x z r hs hk => v_X8_premise hs (by cases z <;> exact hk)) h)
/-! X8_premises -/
noncomputable def T_X8_premises_0 (v0 : Nat) (v1 : Int32) (σ : sS) : Option (sZ Int32) :=
  some (.inl (2, [.ref v0, .int v1, .int 0], σ))
noncomputable def U_X8_premises_0 (vs : List Value) (σ : sS) : Option (sZ Int32) := (g_r vs).bind fun a0 => (g_i a0.2).bind fun a1 => (g_e a1.2).bind fun _ => T_X8_premises_0 a0.1 a1.1 σ
noncomputable def T_X8_premises_2 (v0 : Nat) (v1 : Int32) (v2 : Int32) (σ : sS) : Option (sZ Int32) :=
  if (3 : Int32) ≤ v2 then (some (.inr (v2, σ)))
  else ((F_X8_premise v0 v1 v2 σ).bind fun q1 =>
  if q1.1 < 0 then (some (.inr (v2, q1.2)))
  else (some (.inl (2, [.ref v0, .int v1, .int (v2 + 1)], q1.2))))
noncomputable def U_X8_premises_2 (vs : List Value) (σ : sS) : Option (sZ Int32) := (g_r vs).bind fun a0 => (g_i a0.2).bind fun a1 => (g_i a1.2).bind fun a2 => (g_e a2.2).bind fun _ => T_X8_premises_2 a0.1 a1.1 a2.1 σ
noncomputable def S_X8_premises (x : sL) : Option (sZ Int32) := if x.1 = 0 then U_X8_premises_0 x.2.1 x.2.2 else if x.1 = 2 then U_X8_premises_2 x.2.1 x.2.2 else none
def Y_X8_premises (pc : Nat) : List Nat := if pc = 0 then [0, 1] else if pc = 2 then [0, 1, 2] else []
noncomputable def F_X8_premises (v0 : Nat) (v1 : Int32) (σ : sS) : Option (Int32 × sS) := (s_is σ v0 8).bind fun _ => s_run S_X8_premises (0, [.ref v0, .int v1], σ)
theorem l_X8_premises_0 {v0 : Nat} {v1 : Int32} {σ : sS} {z : sZ Int32} (hf : T_X8_premises_0 v0 v1 σ = some z) : s_lz σ z := by
  unfold T_X8_premises_0 at hf
  cases hf
  exact s_le.rf
theorem l_X8_premises_2 {v0 : Nat} {v1 : Int32} {v2 : Int32} {σ : sS} {z : sZ Int32} (hf : T_X8_premises_2 v0 v1 v2 σ = some z) : s_lz σ z := by
  unfold T_X8_premises_2 at hf
  rcases s_ite hf with ⟨-, hf⟩ | ⟨-, hf⟩
  · cases hf
    exact s_le.rf
  · obtain ⟨q1, hh, hf⟩ := s_bind hf
    refine s_lz.tr (l_X8_premise hh) ?_
    rcases s_ite hf with ⟨-, hf⟩ | ⟨-, hf⟩
    · cases hf
      exact s_le.rf
    · cases hf
      exact s_le.rf
theorem l_X8_premises_s {x : sL} {z : sZ Int32} (hs : S_X8_premises x = some z) : s_lz x.2.2 z := by
  obtain ⟨pc, vs, σ⟩ := x
  unfold S_X8_premises at hs
  dsimp only at hs ⊢
  rcases s_ite hs with ⟨c, hs⟩ | ⟨-, hs⟩
  · subst c
    unfold U_X8_premises_0 at hs
    obtain ⟨a0, g0, hs⟩ := s_bind hs
    obtain ⟨a1, g1, hs⟩ := s_bind hs
    obtain ⟨u9, ge, hs⟩ := s_bind hs
    exact l_X8_premises_0 hs
  rcases s_ite hs with ⟨c, hs⟩ | ⟨-, hs⟩
  · subst c
    unfold U_X8_premises_2 at hs
    obtain ⟨a0, g0, hs⟩ := s_bind hs
    obtain ⟨a1, g1, hs⟩ := s_bind hs
    obtain ⟨a2, g2, hs⟩ := s_bind hs
    obtain ⟨u9, ge, hs⟩ := s_bind hs
    exact l_X8_premises_2 hs
  cases hs
theorem l_X8_premises {v0 : Nat} {v1 : Int32} {σ : sS} {q : Int32 × sS} (h : F_X8_premises v0 v1 σ = some q) : s_le σ q.2 := by
  unfold F_X8_premises at h
  obtain ⟨-, -, h⟩ := s_bind h
  exact s_run_ind (V := fun x r => s_le x.2.2 r.2) (fun x z r hs hk => by
    have h9 := l_X8_premises_s hs
    cases z with
    | inl y => exact s_le.tr h9 hk
    | inr q => cases hk; exact h9) h
theorem b_X8_premises {v0 : Nat} {v1 : Int32} {σ : sS} {q : Int32 × sS} (h : F_X8_premises v0 v1 σ = some q) : ∃ fs, σ.1 v0 = some (.inr (8, fs)) := by
  unfold F_X8_premises at h
  obtain ⟨u, hu, -⟩ := s_bind h
  exact s_is_to hu
set_option maxRecDepth 100000 in
set_option maxHeartbeats 4000000 in
theorem v_X8_premises_0 {G : sG} {d : Nat} {vs0 : List Value} {σ0 : sS} {v0 : Nat} {v1 : Int32} {σ : sS} {z : sZ Int32} {r : Int32 × sS} (hf : T_X8_premises_0 v0 v1 σ = some z) (k : s_K G (d + 3) M_X8_premises vs0 σ0 Y_X8_premises e_I z r) : s_V G (d + 3) M_X8_premises vs0 σ0 Y_X8_premises (0, [.ref v0, .int v1], σ) (e_I r) := by
  have le0 : s_le σ (e_I r).2 := s_lek hem_I (l_X8_premises_0 hf) k
  refine ⟨le0, ?_⟩
  intro p e s m below meth c H locs cells slots ls X I hn1 hn2 hl
  have hn : cells + σ0.2.1 ≤ σ.2.1 ∧ slots + σ0.2.2.1 ≤ σ.2.2.1 := ⟨hn1, hn2⟩
  have hl : lv_has ls 3 [(0, .ref v0), (1, .int v1)] := hl
  have hx := X.1
  have hb : c.code = cX8_premises := X.2.1
  have hown : s.vm.findClass RX8 = some m.cls := X.2.2.2.2.2.1
  have hts := X.2.2.2.2.2.2.1
  refine W.eq (g2 := F0 m 0 ls []) rfl ?_
  unfold T_X8_premises_0 at hf
  cases hf
  have k : s_V G (d + 3) M_X8_premises vs0 σ0 Y_X8_premises (2, [.ref v0, .int v1, .int 0], σ) (e_I r) := k
  refine lv_iconst (v := 0) hx hb dX8_premises_0 (by decide) ?_
  refine lv_istore_n (lv' := [(2, .int 0), (0, .ref v0), (1, .int v1)]) hx hb dX8_premises_1 rfl hl (by decide) rfl (fun ls hl => ?_)
  exact k.2 p e s m below meth c _ _ _ _ _ X I hn.1 hn.2 (lv_sub hl [1, 2, 0] rfl)
set_option maxRecDepth 100000 in
set_option maxHeartbeats 4000000 in
theorem v_X8_premises_2 {G : sG} {d : Nat} {vs0 : List Value} {σ0 : sS} {v0 : Nat} {v1 : Int32} {v2 : Int32} {σ : sS} {z : sZ Int32} {r : Int32 × sS} (hf : T_X8_premises_2 v0 v1 v2 σ = some z) (k : s_K G (d + 3) M_X8_premises vs0 σ0 Y_X8_premises e_I z r) : s_V G (d + 3) M_X8_premises vs0 σ0 Y_X8_premises (2, [.ref v0, .int v1, .int v2], σ) (e_I r) := by
  have le0 : s_le σ (e_I r).2 := s_lek hem_I (l_X8_premises_2 hf) k
  refine ⟨le0, ?_⟩
  intro p e s m below meth c H locs cells slots ls X I hn1 hn2 hl
  have hn : cells + σ0.2.1 ≤ σ.2.1 ∧ slots + σ0.2.2.1 ≤ σ.2.2.1 := ⟨hn1, hn2⟩
  have hl : lv_has ls 3 [(0, .ref v0), (1, .int v1), (2, .int v2)] := hl
  have hx := X.1
  have hb : c.code = cX8_premises := X.2.1
  have hown : s.vm.findClass RX8 = some m.cls := X.2.2.2.2.2.1
  have hts := X.2.2.2.2.2.2.1
  refine W.eq (g2 := F0 m 2 ls []) rfl ?_
  unfold T_X8_premises_2 at hf
  refine lv_iload_n hx hb dX8_premises_2 rfl (lv_at hl 2 rfl) ?_
  refine lv_iconst (v := 3) hx hb dX8_premises_3 (by decide) ?_
  rcases s_ite hf with ⟨c1, hf⟩ | ⟨c1, hf⟩
  · refine lv_icmp_ge (tgt := 22) hx hb dX8_premises_4 (by decide) (fun _ => ?_) (fun n => absurd c1 n)
    cases hf
    have k : _ = r := k
    subst k
    refine lv_iload_n hx hb dX8_premises_22 rfl (lv_at hl 2 rfl) ?_
    exact r_iret X I rfl rfl rfl hn dX8_premises_23
  · refine lv_icmp_ge (tgt := 22) hx hb dX8_premises_4 (by decide) (fun n => absurd n c1) (fun _ => ?_)
    obtain ⟨q1, h2, hf⟩ := s_bind hf
    have le3 : s_le q1.2 (e_I r).2 := by
      refine s_lek hem_I ?_ k
      rcases s_ite hf with ⟨-, hf⟩ | ⟨-, hf⟩
      · cases hf
        exact s_le.rf
      · cases hf
        exact s_le.rf
    refine lv_aload_n hx hb dX8_premises_7 rfl (lv_at hl 0 rfl) ?_
    refine lv_iload_n hx hb dX8_premises_8 rfl (lv_at hl 1 rfl) ?_
    refine lv_iload_n hx hb dX8_premises_9 rfl (lv_at hl 2 rfl) ?_
    refine r_callV (Y := M_X8_premise) (v := some (.int q1.1)) X I w_2043 my_X8_premise (by omega) (t_X8_premise (G := G) (d := d + 0) h2) (b_X8_premise h2) rfl rfl hl.1 rfl (Nat.le_of_ble_eq_true rfl) hn le3 dX8_premises_10 (fun H locs cells slots I hn1 hn2 => ?_)
    have I : s_I G q1.2 s H locs := I
    have hn : cells + σ0.2.1 ≤ q1.2.2.1 ∧ slots + σ0.2.2.1 ≤ q1.2.2.2.1 := ⟨hn1, hn2⟩
    rcases s_ite hf with ⟨c4, hf⟩ | ⟨c4, hf⟩
    · refine lv_if_lt (tgt := 22) hx hb dX8_premises_13 (by decide) (fun _ => ?_) (fun n => absurd c4 n)
      cases hf
      have k : _ = r := k
      subst k
      refine lv_iload_n hx hb dX8_premises_22 rfl (lv_at hl 2 rfl) ?_
      exact r_iret X I rfl rfl rfl hn dX8_premises_23
    · refine lv_if_lt (tgt := 22) hx hb dX8_premises_13 (by decide) (fun n => absurd n c4) (fun _ => ?_)
      cases hf
      have k : s_V G (d + 3) M_X8_premises vs0 σ0 Y_X8_premises (2, [.ref v0, .int v1, .int (v2 + 1)], q1.2) (e_I r) := k
      refine lv_iinc (v := (v2 + 1)) (lv' := [(2, .int (v2 + 1)), (0, .ref v0), (1, .int v1)]) hx hb dX8_premises_16 hl (k := 2) rfl rfl (by decide) rfl (fun ls hl => ?_)
      refine lv_goto (tgt := 2) hx hb dX8_premises_19 (by decide) ?_
      exact k.2 p e s m below meth c _ _ _ _ _ X I hn.1 hn.2 (lv_sub hl [1, 2, 0] rfl)
theorem v_X8_premises {G : sG} {d : Nat} {vs0 : List Value} {σ0 : sS} {x : sL} {z : sZ Int32} {r : Int32 × sS} (hs : S_X8_premises x = some z) (k : s_K G (d + 3) M_X8_premises vs0 σ0 Y_X8_premises e_I z r) : s_V G (d + 3) M_X8_premises vs0 σ0 Y_X8_premises x (e_I r) := by
  obtain ⟨pc, vs, σ⟩ := x
  unfold S_X8_premises at hs
  dsimp only at hs
  rcases s_ite hs with ⟨c, hs⟩ | ⟨-, hs⟩
  · subst c
    unfold U_X8_premises_0 at hs
    obtain ⟨a0, g0, hs⟩ := s_bind hs
    obtain ⟨a1, g1, hs⟩ := s_bind hs
    obtain ⟨u9, ge, hs⟩ := s_bind hs
    rw [g_r_to g0, g_i_to g1, g_e_to ge]
    exact v_X8_premises_0 hs k
  rcases s_ite hs with ⟨c, hs⟩ | ⟨-, hs⟩
  · subst c
    unfold U_X8_premises_2 at hs
    obtain ⟨a0, g0, hs⟩ := s_bind hs
    obtain ⟨a1, g1, hs⟩ := s_bind hs
    obtain ⟨a2, g2, hs⟩ := s_bind hs
    obtain ⟨u9, ge, hs⟩ := s_bind hs
    rw [g_r_to g0, g_i_to g1, g_i_to g2, g_e_to ge]
    exact v_X8_premises_2 hs k
  cases hs
theorem t_X8_premises {G : sG} {d : Nat} {v0 : Nat} {v1 : Int32} {σ : sS} {q : Int32 × sS} (h : F_X8_premises v0 v1 σ = some q) : s_T G (d + 3) M_X8_premises [.ref v0, .int v1] σ (e_I q) := by
  unfold F_X8_premises at h
  obtain ⟨-, -, h⟩ := s_bind h
  exact s_ofV rfl (by decide) (Nat.le_of_ble_eq_true rfl) rfl rfl (s_run_ind (V := fun x r => s_V G (d + 3) M_X8_premises [.ref v0, .int v1] σ Y_X8_premises x (e_I r)) (fun x z r hs hk => v_X8_premises hs (by cases z <;> exact hk)) h)
/-! X8_asked -/
noncomputable def T_X8_asked_0 (v0 : Nat) (v1 : Int32) (σ : sS) : Option (sZ Int32) :=
  if (2 : Int32) ≤ v1 then (if v1 = 2 then (some (.inr (2, σ)))
  else (if v1 = 7 then (some (.inr (2, σ)))
  else (if v1 = 10 then (some (.inr (2, σ)))
  else (if v1 = 14 then (some (.inr (2, σ)))
  else (if v1 = 9 then (some (.inr (3, σ)))
  else (if v1 = 12 then ((F_X8_d v0 σ).bind fun q1 =>
  some (.inr (q1.1, q1.2)))
  else (some (.inr (1, σ)))))))))
  else (some (.inr (0, σ)))
noncomputable def U_X8_asked_0 (vs : List Value) (σ : sS) : Option (sZ Int32) := (g_r vs).bind fun a0 => (g_i a0.2).bind fun a1 => (g_e a1.2).bind fun _ => T_X8_asked_0 a0.1 a1.1 σ
noncomputable def S_X8_asked (x : sL) : Option (sZ Int32) := if x.1 = 0 then U_X8_asked_0 x.2.1 x.2.2 else none
def Y_X8_asked (pc : Nat) : List Nat := if pc = 0 then [0, 1] else []
noncomputable def F_X8_asked (v0 : Nat) (v1 : Int32) (σ : sS) : Option (Int32 × sS) := (s_is σ v0 8).bind fun _ => s_run S_X8_asked (0, [.ref v0, .int v1], σ)
theorem l_X8_asked_0 {v0 : Nat} {v1 : Int32} {σ : sS} {z : sZ Int32} (hf : T_X8_asked_0 v0 v1 σ = some z) : s_lz σ z := by
  unfold T_X8_asked_0 at hf
  rcases s_ite hf with ⟨-, hf⟩ | ⟨-, hf⟩
  · rcases s_ite hf with ⟨-, hf⟩ | ⟨-, hf⟩
    · cases hf
      exact s_le.rf
    · rcases s_ite hf with ⟨-, hf⟩ | ⟨-, hf⟩
      · cases hf
        exact s_le.rf
      · rcases s_ite hf with ⟨-, hf⟩ | ⟨-, hf⟩
        · cases hf
          exact s_le.rf
        · rcases s_ite hf with ⟨-, hf⟩ | ⟨-, hf⟩
          · cases hf
            exact s_le.rf
          · rcases s_ite hf with ⟨-, hf⟩ | ⟨-, hf⟩
            · cases hf
              exact s_le.rf
            · rcases s_ite hf with ⟨-, hf⟩ | ⟨-, hf⟩
              · obtain ⟨q1, hh, hf⟩ := s_bind hf
                refine s_lz.tr (l_X8_d hh) ?_
                cases hf
                exact s_le.rf
              · cases hf
                exact s_le.rf
  · cases hf
    exact s_le.rf
theorem l_X8_asked_s {x : sL} {z : sZ Int32} (hs : S_X8_asked x = some z) : s_lz x.2.2 z := by
  obtain ⟨pc, vs, σ⟩ := x
  unfold S_X8_asked at hs
  dsimp only at hs ⊢
  rcases s_ite hs with ⟨c, hs⟩ | ⟨-, hs⟩
  · subst c
    unfold U_X8_asked_0 at hs
    obtain ⟨a0, g0, hs⟩ := s_bind hs
    obtain ⟨a1, g1, hs⟩ := s_bind hs
    obtain ⟨u9, ge, hs⟩ := s_bind hs
    exact l_X8_asked_0 hs
  cases hs
theorem l_X8_asked {v0 : Nat} {v1 : Int32} {σ : sS} {q : Int32 × sS} (h : F_X8_asked v0 v1 σ = some q) : s_le σ q.2 := by
  unfold F_X8_asked at h
  obtain ⟨-, -, h⟩ := s_bind h
  exact s_run_ind (V := fun x r => s_le x.2.2 r.2) (fun x z r hs hk => by
    have h9 := l_X8_asked_s hs
    cases z with
    | inl y => exact s_le.tr h9 hk
    | inr q => cases hk; exact h9) h
theorem b_X8_asked {v0 : Nat} {v1 : Int32} {σ : sS} {q : Int32 × sS} (h : F_X8_asked v0 v1 σ = some q) : ∃ fs, σ.1 v0 = some (.inr (8, fs)) := by
  unfold F_X8_asked at h
  obtain ⟨u, hu, -⟩ := s_bind h
  exact s_is_to hu
set_option maxRecDepth 100000 in
set_option maxHeartbeats 4000000 in
theorem v_X8_asked_0 {G : sG} {d : Nat} {vs0 : List Value} {σ0 : sS} {v0 : Nat} {v1 : Int32} {σ : sS} {z : sZ Int32} {r : Int32 × sS} (hf : T_X8_asked_0 v0 v1 σ = some z) (k : s_K G (d + 2) M_X8_asked vs0 σ0 Y_X8_asked e_I z r) : s_V G (d + 2) M_X8_asked vs0 σ0 Y_X8_asked (0, [.ref v0, .int v1], σ) (e_I r) := by
  have le0 : s_le σ (e_I r).2 := s_lek hem_I (l_X8_asked_0 hf) k
  refine ⟨le0, ?_⟩
  intro p e s m below meth c H locs cells slots ls X I hn1 hn2 hl
  have hn : cells + σ0.2.1 ≤ σ.2.1 ∧ slots + σ0.2.2.1 ≤ σ.2.2.1 := ⟨hn1, hn2⟩
  have hl : lv_has ls 2 [(0, .ref v0), (1, .int v1)] := hl
  have hx := X.1
  have hb : c.code = cX8_asked := X.2.1
  have hown : s.vm.findClass RX8 = some m.cls := X.2.2.2.2.2.1
  have hts := X.2.2.2.2.2.2.1
  refine W.eq (g2 := F0 m 0 ls []) rfl ?_
  unfold T_X8_asked_0 at hf
  refine lv_iload_n hx hb dX8_asked_0 rfl (lv_at hl 1 rfl) ?_
  refine lv_iconst (v := 2) hx hb dX8_asked_1 (by decide) ?_
  rcases s_ite hf with ⟨c1, hf⟩ | ⟨c1, hf⟩
  · refine lv_icmp_ge (tgt := 9) hx hb dX8_asked_2 (by decide) (fun _ => ?_) (fun n => absurd c1 n)
    refine lv_iload_n hx hb dX8_asked_9 rfl (lv_at hl 1 rfl) ?_
    refine lv_iconst (v := 2) hx hb dX8_asked_10 (by decide) ?_
    rcases s_ite hf with ⟨c2, hf⟩ | ⟨c2, hf⟩
    · refine lv_icmp_eq (tgt := 32) hx hb dX8_asked_11 (by decide) (fun _ => ?_) (fun n => absurd c2 n)
      cases hf
      have k : _ = r := k
      subst k
      refine lv_iconst (v := 2) hx hb dX8_asked_32 (by decide) ?_
      refine lv_goto (tgt := 60) hx hb dX8_asked_33 (by decide) ?_
      exact r_iret X I rfl rfl rfl hn dX8_asked_60
    · refine lv_icmp_eq (tgt := 32) hx hb dX8_asked_11 (by decide) (fun n => absurd n c2) (fun _ => ?_)
      refine lv_iload_n hx hb dX8_asked_14 rfl (lv_at hl 1 rfl) ?_
      refine lv_bipush (v := 7) hx hb dX8_asked_15 (by decide) ?_
      rcases s_ite hf with ⟨c3, hf⟩ | ⟨c3, hf⟩
      · refine lv_icmp_eq (tgt := 32) hx hb dX8_asked_17 (by decide) (fun _ => ?_) (fun n => absurd c3 n)
        cases hf
        have k : _ = r := k
        subst k
        refine lv_iconst (v := 2) hx hb dX8_asked_32 (by decide) ?_
        refine lv_goto (tgt := 60) hx hb dX8_asked_33 (by decide) ?_
        exact r_iret X I rfl rfl rfl hn dX8_asked_60
      · refine lv_icmp_eq (tgt := 32) hx hb dX8_asked_17 (by decide) (fun n => absurd n c3) (fun _ => ?_)
        refine lv_iload_n hx hb dX8_asked_20 rfl (lv_at hl 1 rfl) ?_
        refine lv_bipush (v := 10) hx hb dX8_asked_21 (by decide) ?_
        rcases s_ite hf with ⟨c4, hf⟩ | ⟨c4, hf⟩
        · refine lv_icmp_eq (tgt := 32) hx hb dX8_asked_23 (by decide) (fun _ => ?_) (fun n => absurd c4 n)
          cases hf
          have k : _ = r := k
          subst k
          refine lv_iconst (v := 2) hx hb dX8_asked_32 (by decide) ?_
          refine lv_goto (tgt := 60) hx hb dX8_asked_33 (by decide) ?_
          exact r_iret X I rfl rfl rfl hn dX8_asked_60
        · refine lv_icmp_eq (tgt := 32) hx hb dX8_asked_23 (by decide) (fun n => absurd n c4) (fun _ => ?_)
          refine lv_iload_n hx hb dX8_asked_26 rfl (lv_at hl 1 rfl) ?_
          refine lv_bipush (v := 14) hx hb dX8_asked_27 (by decide) ?_
          rcases s_ite hf with ⟨c5, hf⟩ | ⟨c5, hf⟩
          · refine lv_icmp_ne (tgt := 36) hx hb dX8_asked_29 (by decide) (fun n => absurd c5 n) (fun _ => ?_)
            cases hf
            have k : _ = r := k
            subst k
            refine lv_iconst (v := 2) hx hb dX8_asked_32 (by decide) ?_
            refine lv_goto (tgt := 60) hx hb dX8_asked_33 (by decide) ?_
            exact r_iret X I rfl rfl rfl hn dX8_asked_60
          · refine lv_icmp_ne (tgt := 36) hx hb dX8_asked_29 (by decide) (fun _ => ?_) (fun n => absurd n c5)
            refine lv_iload_n hx hb dX8_asked_36 rfl (lv_at hl 1 rfl) ?_
            refine lv_bipush (v := 9) hx hb dX8_asked_37 (by decide) ?_
            rcases s_ite hf with ⟨c6, hf⟩ | ⟨c6, hf⟩
            · refine lv_icmp_ne (tgt := 46) hx hb dX8_asked_39 (by decide) (fun n => absurd c6 n) (fun _ => ?_)
              cases hf
              have k : _ = r := k
              subst k
              refine lv_iconst (v := 3) hx hb dX8_asked_42 (by decide) ?_
              refine lv_goto (tgt := 60) hx hb dX8_asked_43 (by decide) ?_
              exact r_iret X I rfl rfl rfl hn dX8_asked_60
            · refine lv_icmp_ne (tgt := 46) hx hb dX8_asked_39 (by decide) (fun _ => ?_) (fun n => absurd n c6)
              refine lv_iload_n hx hb dX8_asked_46 rfl (lv_at hl 1 rfl) ?_
              refine lv_bipush (v := 12) hx hb dX8_asked_47 (by decide) ?_
              rcases s_ite hf with ⟨c7, hf⟩ | ⟨c7, hf⟩
              · refine lv_icmp_ne (tgt := 59) hx hb dX8_asked_49 (by decide) (fun n => absurd c7 n) (fun _ => ?_)
                obtain ⟨q1, h8, hf⟩ := s_bind hf
                cases hf
                have k : _ = r := k
                subst k
                have le9 : s_le q1.2 q1.2 := s_le.rf
                refine lv_aload_n hx hb dX8_asked_52 rfl (lv_at hl 0 rfl) ?_
                refine r_callV (Y := M_X8_d) (v := some (.int q1.1)) X I w_1889 my_X8_d (by omega) (t_X8_d (G := G) (d := d + 0) h8) (b_X8_d h8) rfl rfl hl.1 rfl (Nat.le_of_ble_eq_true rfl) hn le9 dX8_asked_53 (fun H locs cells slots I hn1 hn2 => ?_)
                have I : s_I G q1.2 s H locs := I
                have hn : cells + σ0.2.1 ≤ q1.2.2.1 ∧ slots + σ0.2.2.1 ≤ q1.2.2.2.1 := ⟨hn1, hn2⟩
                refine lv_goto (tgt := 60) hx hb dX8_asked_56 (by decide) ?_
                exact r_iret X I rfl rfl rfl hn dX8_asked_60
              · refine lv_icmp_ne (tgt := 59) hx hb dX8_asked_49 (by decide) (fun _ => ?_) (fun n => absurd n c7)
                cases hf
                have k : _ = r := k
                subst k
                refine lv_iconst (v := 1) hx hb dX8_asked_59 (by decide) ?_
                exact r_iret X I rfl rfl rfl hn dX8_asked_60
  · refine lv_icmp_ge (tgt := 9) hx hb dX8_asked_2 (by decide) (fun n => absurd n c1) (fun _ => ?_)
    cases hf
    have k : _ = r := k
    subst k
    refine lv_iconst (v := 0) hx hb dX8_asked_5 (by decide) ?_
    refine lv_goto (tgt := 60) hx hb dX8_asked_6 (by decide) ?_
    exact r_iret X I rfl rfl rfl hn dX8_asked_60
theorem v_X8_asked {G : sG} {d : Nat} {vs0 : List Value} {σ0 : sS} {x : sL} {z : sZ Int32} {r : Int32 × sS} (hs : S_X8_asked x = some z) (k : s_K G (d + 2) M_X8_asked vs0 σ0 Y_X8_asked e_I z r) : s_V G (d + 2) M_X8_asked vs0 σ0 Y_X8_asked x (e_I r) := by
  obtain ⟨pc, vs, σ⟩ := x
  unfold S_X8_asked at hs
  dsimp only at hs
  rcases s_ite hs with ⟨c, hs⟩ | ⟨-, hs⟩
  · subst c
    unfold U_X8_asked_0 at hs
    obtain ⟨a0, g0, hs⟩ := s_bind hs
    obtain ⟨a1, g1, hs⟩ := s_bind hs
    obtain ⟨u9, ge, hs⟩ := s_bind hs
    rw [g_r_to g0, g_i_to g1, g_e_to ge]
    exact v_X8_asked_0 hs k
  cases hs
theorem t_X8_asked {G : sG} {d : Nat} {v0 : Nat} {v1 : Int32} {σ : sS} {q : Int32 × sS} (h : F_X8_asked v0 v1 σ = some q) : s_T G (d + 2) M_X8_asked [.ref v0, .int v1] σ (e_I q) := by
  unfold F_X8_asked at h
  obtain ⟨-, -, h⟩ := s_bind h
  exact s_ofV rfl (by decide) (Nat.le_of_ble_eq_true rfl) rfl rfl (s_run_ind (V := fun x r => s_V G (d + 2) M_X8_asked [.ref v0, .int v1] σ Y_X8_asked x (e_I r)) (fun x z r hs hk => v_X8_asked hs (by cases z <;> exact hk)) h)
/-! X8_isAmong -/
noncomputable def T_X8_isAmong_0 (v0 : Nat) (v1 : Int32) (v2 : Int32) (σ : sS) : Option (sZ Int32) :=
  some (.inl (5, [.ref v0, .int v1, .int v2, .int 0, .int 0], σ))
noncomputable def U_X8_isAmong_0 (vs : List Value) (σ : sS) : Option (sZ Int32) := (g_r vs).bind fun a0 => (g_i a0.2).bind fun a1 => (g_i a1.2).bind fun a2 => (g_e a2.2).bind fun _ => T_X8_isAmong_0 a0.1 a1.1 a2.1 σ
noncomputable def T_X8_isAmong_5 (v0 : Nat) (v1 : Int32) (v2 : Int32) (v3 : Int32) (v4 : Int32) (σ : sS) : Option (sZ Int32) :=
  (F_X8_formulas v0 σ).bind fun q1 =>
  if q1.1 ≤ v4 then (if (v3 = 0 ∨ v3 = 1) then (some (.inr (v3, q1.2))) else none)
  else (if v3 = 0 then (if ((v2 >>> (v4 &&& 31)) &&& 1) = 1 then ((F_X8_isSame v0 v4 v1 q1.2).bind fun q2 =>
  if q2.1 = 0 then (some (.inl (42, [.ref v0, .int v1, .int v2, .int v4], q2.2)))
  else (some (.inl (43, [.ref v0, .int v1, .int v2, .int v4, .int 1], q2.2))))
  else (some (.inl (42, [.ref v0, .int v1, .int v2, .int v4], q1.2))))
  else (if (v3 = 0 ∨ v3 = 1) then (some (.inr (v3, q1.2))) else none))
noncomputable def U_X8_isAmong_5 (vs : List Value) (σ : sS) : Option (sZ Int32) := (g_r vs).bind fun a0 => (g_i a0.2).bind fun a1 => (g_i a1.2).bind fun a2 => (g_i a2.2).bind fun a3 => (g_i a3.2).bind fun a4 => (g_e a4.2).bind fun _ => T_X8_isAmong_5 a0.1 a1.1 a2.1 a3.1 a4.1 σ
noncomputable def T_X8_isAmong_42 (v0 : Nat) (v1 : Int32) (v2 : Int32) (v4 : Int32) (σ : sS) : Option (sZ Int32) :=
  some (.inl (43, [.ref v0, .int v1, .int v2, .int v4, .int 0], σ))
noncomputable def U_X8_isAmong_42 (vs : List Value) (σ : sS) : Option (sZ Int32) := (g_r vs).bind fun a0 => (g_i a0.2).bind fun a1 => (g_i a1.2).bind fun a2 => (g_i a2.2).bind fun a3 => (g_e a3.2).bind fun _ => T_X8_isAmong_42 a0.1 a1.1 a2.1 a3.1 σ
noncomputable def T_X8_isAmong_43 (v0 : Nat) (v1 : Int32) (v2 : Int32) (v4 : Int32) (w0 : Int32) (σ : sS) : Option (sZ Int32) :=
  some (.inl (5, [.ref v0, .int v1, .int v2, .int w0, .int (v4 + 1)], σ))
noncomputable def U_X8_isAmong_43 (vs : List Value) (σ : sS) : Option (sZ Int32) := (g_r vs).bind fun a0 => (g_i a0.2).bind fun a1 => (g_i a1.2).bind fun a2 => (g_i a2.2).bind fun a3 => (g_i a3.2).bind fun a4 => (g_e a4.2).bind fun _ => T_X8_isAmong_43 a0.1 a1.1 a2.1 a3.1 a4.1 σ
noncomputable def S_X8_isAmong (x : sL) : Option (sZ Int32) := if x.1 = 0 then U_X8_isAmong_0 x.2.1 x.2.2 else if x.1 = 5 then U_X8_isAmong_5 x.2.1 x.2.2 else if x.1 = 42 then U_X8_isAmong_42 x.2.1 x.2.2 else if x.1 = 43 then U_X8_isAmong_43 x.2.1 x.2.2 else none
def Y_X8_isAmong (pc : Nat) : List Nat := if pc = 0 then [0, 1, 2] else if pc = 5 then [0, 1, 2, 3, 4] else if pc = 42 then [0, 1, 2, 4] else if pc = 43 then [0, 1, 2, 4] else []
noncomputable def F_X8_isAmong (v0 : Nat) (v1 : Int32) (v2 : Int32) (σ : sS) : Option (Int32 × sS) := (s_is σ v0 8).bind fun _ => s_run S_X8_isAmong (0, [.ref v0, .int v1, .int v2], σ)
theorem l_X8_isAmong_0 {v0 : Nat} {v1 : Int32} {v2 : Int32} {σ : sS} {z : sZ Int32} (hf : T_X8_isAmong_0 v0 v1 v2 σ = some z) : s_lz σ z := by
  unfold T_X8_isAmong_0 at hf
  cases hf
  exact s_le.rf
theorem l_X8_isAmong_5 {v0 : Nat} {v1 : Int32} {v2 : Int32} {v3 : Int32} {v4 : Int32} {σ : sS} {z : sZ Int32} (hf : T_X8_isAmong_5 v0 v1 v2 v3 v4 σ = some z) : s_lz σ z := by
  unfold T_X8_isAmong_5 at hf
  obtain ⟨q1, hh, hf⟩ := s_bind hf
  refine s_lz.tr (l_X8_formulas hh) ?_
  rcases s_ite hf with ⟨-, hf⟩ | ⟨-, hf⟩
  · rcases s_ite hf with ⟨-, hf⟩ | ⟨-, hf⟩
    · cases hf
      exact s_le.rf
    · cases hf
  · rcases s_ite hf with ⟨-, hf⟩ | ⟨-, hf⟩
    · rcases s_ite hf with ⟨-, hf⟩ | ⟨-, hf⟩
      · obtain ⟨q2, hh, hf⟩ := s_bind hf
        refine s_lz.tr (l_X8_isSame hh) ?_
        rcases s_ite hf with ⟨-, hf⟩ | ⟨-, hf⟩
        · cases hf
          exact s_le.rf
        · cases hf
          exact s_le.rf
      · cases hf
        exact s_le.rf
    · rcases s_ite hf with ⟨-, hf⟩ | ⟨-, hf⟩
      · cases hf
        exact s_le.rf
      · cases hf
theorem l_X8_isAmong_42 {v0 : Nat} {v1 : Int32} {v2 : Int32} {v4 : Int32} {σ : sS} {z : sZ Int32} (hf : T_X8_isAmong_42 v0 v1 v2 v4 σ = some z) : s_lz σ z := by
  unfold T_X8_isAmong_42 at hf
  cases hf
  exact s_le.rf
theorem l_X8_isAmong_43 {v0 : Nat} {v1 : Int32} {v2 : Int32} {v4 : Int32} {w0 : Int32} {σ : sS} {z : sZ Int32} (hf : T_X8_isAmong_43 v0 v1 v2 v4 w0 σ = some z) : s_lz σ z := by
  unfold T_X8_isAmong_43 at hf
  cases hf
  exact s_le.rf
theorem l_X8_isAmong_s {x : sL} {z : sZ Int32} (hs : S_X8_isAmong x = some z) : s_lz x.2.2 z := by
  obtain ⟨pc, vs, σ⟩ := x
  unfold S_X8_isAmong at hs
  dsimp only at hs ⊢
  rcases s_ite hs with ⟨c, hs⟩ | ⟨-, hs⟩
  · subst c
    unfold U_X8_isAmong_0 at hs
    obtain ⟨a0, g0, hs⟩ := s_bind hs
    obtain ⟨a1, g1, hs⟩ := s_bind hs
    obtain ⟨a2, g2, hs⟩ := s_bind hs
    obtain ⟨u9, ge, hs⟩ := s_bind hs
    exact l_X8_isAmong_0 hs
  rcases s_ite hs with ⟨c, hs⟩ | ⟨-, hs⟩
  · subst c
    unfold U_X8_isAmong_5 at hs
    obtain ⟨a0, g0, hs⟩ := s_bind hs
    obtain ⟨a1, g1, hs⟩ := s_bind hs
    obtain ⟨a2, g2, hs⟩ := s_bind hs
    obtain ⟨a3, g3, hs⟩ := s_bind hs
    obtain ⟨a4, g4, hs⟩ := s_bind hs
    obtain ⟨u9, ge, hs⟩ := s_bind hs
    exact l_X8_isAmong_5 hs
  rcases s_ite hs with ⟨c, hs⟩ | ⟨-, hs⟩
  · subst c
    unfold U_X8_isAmong_42 at hs
    obtain ⟨a0, g0, hs⟩ := s_bind hs
    obtain ⟨a1, g1, hs⟩ := s_bind hs
    obtain ⟨a2, g2, hs⟩ := s_bind hs
    obtain ⟨a3, g3, hs⟩ := s_bind hs
    obtain ⟨u9, ge, hs⟩ := s_bind hs
    exact l_X8_isAmong_42 hs
  rcases s_ite hs with ⟨c, hs⟩ | ⟨-, hs⟩
  · subst c
    unfold U_X8_isAmong_43 at hs
    obtain ⟨a0, g0, hs⟩ := s_bind hs
    obtain ⟨a1, g1, hs⟩ := s_bind hs
    obtain ⟨a2, g2, hs⟩ := s_bind hs
    obtain ⟨a3, g3, hs⟩ := s_bind hs
    obtain ⟨a4, g4, hs⟩ := s_bind hs
    obtain ⟨u9, ge, hs⟩ := s_bind hs
    exact l_X8_isAmong_43 hs
  cases hs
theorem l_X8_isAmong {v0 : Nat} {v1 : Int32} {v2 : Int32} {σ : sS} {q : Int32 × sS} (h : F_X8_isAmong v0 v1 v2 σ = some q) : s_le σ q.2 := by
  unfold F_X8_isAmong at h
  obtain ⟨-, -, h⟩ := s_bind h
  exact s_run_ind (V := fun x r => s_le x.2.2 r.2) (fun x z r hs hk => by
    have h9 := l_X8_isAmong_s hs
    cases z with
    | inl y => exact s_le.tr h9 hk
    | inr q => cases hk; exact h9) h
theorem b_X8_isAmong {v0 : Nat} {v1 : Int32} {v2 : Int32} {σ : sS} {q : Int32 × sS} (h : F_X8_isAmong v0 v1 v2 σ = some q) : ∃ fs, σ.1 v0 = some (.inr (8, fs)) := by
  unfold F_X8_isAmong at h
  obtain ⟨u, hu, -⟩ := s_bind h
  exact s_is_to hu
set_option maxRecDepth 100000 in
set_option maxHeartbeats 4000000 in
theorem v_X8_isAmong_0 {G : sG} {d : Nat} {vs0 : List Value} {σ0 : sS} {v0 : Nat} {v1 : Int32} {v2 : Int32} {σ : sS} {z : sZ Int32} {r : Int32 × sS} (hf : T_X8_isAmong_0 v0 v1 v2 σ = some z) (k : s_K G (d + 4) M_X8_isAmong vs0 σ0 Y_X8_isAmong e_I z r) : s_V G (d + 4) M_X8_isAmong vs0 σ0 Y_X8_isAmong (0, [.ref v0, .int v1, .int v2], σ) (e_I r) := by
  have le0 : s_le σ (e_I r).2 := s_lek hem_I (l_X8_isAmong_0 hf) k
  refine ⟨le0, ?_⟩
  intro p e s m below meth c H locs cells slots ls X I hn1 hn2 hl
  have hn : cells + σ0.2.1 ≤ σ.2.1 ∧ slots + σ0.2.2.1 ≤ σ.2.2.1 := ⟨hn1, hn2⟩
  have hl : lv_has ls 5 [(0, .ref v0), (1, .int v1), (2, .int v2)] := hl
  have hx := X.1
  have hb : c.code = cX8_isAmong := X.2.1
  have hown : s.vm.findClass RX8 = some m.cls := X.2.2.2.2.2.1
  have hts := X.2.2.2.2.2.2.1
  refine W.eq (g2 := F0 m 0 ls []) rfl ?_
  unfold T_X8_isAmong_0 at hf
  cases hf
  have k : s_V G (d + 4) M_X8_isAmong vs0 σ0 Y_X8_isAmong (5, [.ref v0, .int v1, .int v2, .int 0, .int 0], σ) (e_I r) := k
  refine lv_iconst (v := 0) hx hb dX8_isAmong_0 (by decide) ?_
  refine lv_istore_n (lv' := [(3, .int 0), (0, .ref v0), (1, .int v1), (2, .int v2)]) hx hb dX8_isAmong_1 rfl hl (by decide) rfl (fun ls hl => ?_)
  refine lv_iconst (v := 0) hx hb dX8_isAmong_2 (by decide) ?_
  refine lv_istore (lv' := [(4, .int 0), (3, .int 0), (0, .ref v0), (1, .int v1), (2, .int v2)]) hx hb dX8_isAmong_3 hl (by decide) rfl (fun ls hl => ?_)
  exact k.2 p e s m below meth c _ _ _ _ _ X I hn.1 hn.2 (lv_sub hl [2, 3, 4, 1, 0] rfl)
set_option maxRecDepth 100000 in
set_option maxHeartbeats 4000000 in
theorem v_X8_isAmong_5 {G : sG} {d : Nat} {vs0 : List Value} {σ0 : sS} {v0 : Nat} {v1 : Int32} {v2 : Int32} {v3 : Int32} {v4 : Int32} {σ : sS} {z : sZ Int32} {r : Int32 × sS} (hf : T_X8_isAmong_5 v0 v1 v2 v3 v4 σ = some z) (k : s_K G (d + 4) M_X8_isAmong vs0 σ0 Y_X8_isAmong e_I z r) : s_V G (d + 4) M_X8_isAmong vs0 σ0 Y_X8_isAmong (5, [.ref v0, .int v1, .int v2, .int v3, .int v4], σ) (e_I r) := by
  have le0 : s_le σ (e_I r).2 := s_lek hem_I (l_X8_isAmong_5 hf) k
  refine ⟨le0, ?_⟩
  intro p e s m below meth c H locs cells slots ls X I hn1 hn2 hl
  have hn : cells + σ0.2.1 ≤ σ.2.1 ∧ slots + σ0.2.2.1 ≤ σ.2.2.1 := ⟨hn1, hn2⟩
  have hl : lv_has ls 5 [(0, .ref v0), (1, .int v1), (2, .int v2), (3, .int v3), (4, .int v4)] := hl
  have hx := X.1
  have hb : c.code = cX8_isAmong := X.2.1
  have hown : s.vm.findClass RX8 = some m.cls := X.2.2.2.2.2.1
  have hts := X.2.2.2.2.2.2.1
  refine W.eq (g2 := F0 m 5 ls []) rfl ?_
  unfold T_X8_isAmong_5 at hf
  obtain ⟨q1, h1, hf⟩ := s_bind hf
  have le2 : s_le q1.2 (e_I r).2 := by
    refine s_lek hem_I ?_ k
    rcases s_ite hf with ⟨-, hf⟩ | ⟨-, hf⟩
    · rcases s_ite hf with ⟨-, hf⟩ | ⟨-, hf⟩
      · cases hf
        exact s_le.rf
      · cases hf
    · rcases s_ite hf with ⟨-, hf⟩ | ⟨-, hf⟩
      · rcases s_ite hf with ⟨-, hf⟩ | ⟨-, hf⟩
        · obtain ⟨q2, hh, hf⟩ := s_bind hf
          refine s_lz.tr (l_X8_isSame hh) ?_
          rcases s_ite hf with ⟨-, hf⟩ | ⟨-, hf⟩
          · cases hf
            exact s_le.rf
          · cases hf
            exact s_le.rf
        · cases hf
          exact s_le.rf
      · rcases s_ite hf with ⟨-, hf⟩ | ⟨-, hf⟩
        · cases hf
          exact s_le.rf
        · cases hf
  refine lv_iload hx hb dX8_isAmong_5 (lv_at hl 4 rfl) ?_
  refine lv_aload_n hx hb dX8_isAmong_7 rfl (lv_at hl 0 rfl) ?_
  refine r_callV (Y := M_X8_formulas) (v := some (.int q1.1)) X I w_1813 my_X8_formulas (by omega) (t_X8_formulas (G := G) (d := d + 2) h1) (b_X8_formulas h1) rfl rfl hl.1 rfl (Nat.le_of_ble_eq_true rfl) hn le2 dX8_isAmong_8 (fun H locs cells slots I hn1 hn2 => ?_)
  have I : s_I G q1.2 s H locs := I
  have hn : cells + σ0.2.1 ≤ q1.2.2.1 ∧ slots + σ0.2.2.1 ≤ q1.2.2.2.1 := ⟨hn1, hn2⟩
  rcases s_ite hf with ⟨c3, hf⟩ | ⟨c3, hf⟩
  · refine lv_icmp_ge (tgt := 50) hx hb dX8_isAmong_11 (by decide) (fun _ => ?_) (fun n => absurd c3 n)
    refine lv_iload_n hx hb dX8_isAmong_50 rfl (lv_at hl 3 rfl) ?_
    rcases s_ite hf with ⟨hchk, hf⟩ | ⟨-, hf⟩
    · cases hf
      have k : _ = r := k
      subst k
      exact r_iret X I rfl (s_nb hchk) rfl hn dX8_isAmong_51
    · cases hf
  · refine lv_icmp_ge (tgt := 50) hx hb dX8_isAmong_11 (by decide) (fun n => absurd n c3) (fun _ => ?_)
    refine lv_iload_n hx hb dX8_isAmong_14 rfl (lv_at hl 3 rfl) ?_
    rcases s_ite hf with ⟨c4, hf⟩ | ⟨c4, hf⟩
    · refine lv_if_ne (tgt := 50) hx hb dX8_isAmong_15 (by decide) (fun n => absurd c4 n) (fun _ => ?_)
      refine lv_iload_n hx hb dX8_isAmong_18 rfl (lv_at hl 2 rfl) ?_
      refine lv_iload hx hb dX8_isAmong_19 (lv_at hl 4 rfl) ?_
      refine lv_ishr hx hb dX8_isAmong_21 ?_
      refine lv_iconst (v := 1) hx hb dX8_isAmong_22 (by decide) ?_
      refine lv_iand hx hb dX8_isAmong_23 ?_
      refine lv_iconst (v := 1) hx hb dX8_isAmong_24 (by decide) ?_
      rcases s_ite hf with ⟨c5, hf⟩ | ⟨c5, hf⟩
      · refine lv_icmp_ne (tgt := 42) hx hb dX8_isAmong_25 (by decide) (fun n => absurd c5 n) (fun _ => ?_)
        obtain ⟨q2, h6, hf⟩ := s_bind hf
        have le7 : s_le q2.2 (e_I r).2 := by
          refine s_lek hem_I ?_ k
          rcases s_ite hf with ⟨-, hf⟩ | ⟨-, hf⟩
          · cases hf
            exact s_le.rf
          · cases hf
            exact s_le.rf
        refine lv_aload_n hx hb dX8_isAmong_28 rfl (lv_at hl 0 rfl) ?_
        refine lv_iload hx hb dX8_isAmong_29 (lv_at hl 4 rfl) ?_
        refine lv_iload_n hx hb dX8_isAmong_31 rfl (lv_at hl 1 rfl) ?_
        refine r_callV (Y := M_X8_isSame) (v := some (.int q2.1)) X I w_1924 my_X8_isSame (by omega) (t_X8_isSame (G := G) (d := d + 0) h6) (b_X8_isSame h6) rfl rfl hl.1 rfl (Nat.le_of_ble_eq_true rfl) hn le7 dX8_isAmong_32 (fun H locs cells slots I hn1 hn2 => ?_)
        have I : s_I G q2.2 s H locs := I
        have hn : cells + σ0.2.1 ≤ q2.2.2.1 ∧ slots + σ0.2.2.1 ≤ q2.2.2.2.1 := ⟨hn1, hn2⟩
        rcases s_ite hf with ⟨c8, hf⟩ | ⟨c8, hf⟩
        · refine lv_if_eq (tgt := 42) hx hb dX8_isAmong_35 (by decide) (fun _ => ?_) (fun n => absurd c8 n)
          cases hf
          have k : s_V G (d + 4) M_X8_isAmong vs0 σ0 Y_X8_isAmong (42, [.ref v0, .int v1, .int v2, .int v4], q2.2) (e_I r) := k
          exact k.2 p e s m below meth c _ _ _ _ _ X I hn.1 hn.2 (lv_sub hl [0, 1, 2, 4] rfl)
        · refine lv_if_eq (tgt := 42) hx hb dX8_isAmong_35 (by decide) (fun n => absurd n c8) (fun _ => ?_)
          cases hf
          have k : s_V G (d + 4) M_X8_isAmong vs0 σ0 Y_X8_isAmong (43, [.ref v0, .int v1, .int v2, .int v4, .int 1], q2.2) (e_I r) := k
          refine lv_iconst (v := 1) hx hb dX8_isAmong_38 (by decide) ?_
          refine lv_goto (tgt := 43) hx hb dX8_isAmong_39 (by decide) ?_
          exact k.2 p e s m below meth c _ _ _ _ _ X I hn.1 hn.2 (lv_sub hl [0, 1, 2, 4] rfl)
      · refine lv_icmp_ne (tgt := 42) hx hb dX8_isAmong_25 (by decide) (fun _ => ?_) (fun n => absurd n c5)
        cases hf
        have k : s_V G (d + 4) M_X8_isAmong vs0 σ0 Y_X8_isAmong (42, [.ref v0, .int v1, .int v2, .int v4], q1.2) (e_I r) := k
        exact k.2 p e s m below meth c _ _ _ _ _ X I hn.1 hn.2 (lv_sub hl [0, 1, 2, 4] rfl)
    · refine lv_if_ne (tgt := 50) hx hb dX8_isAmong_15 (by decide) (fun _ => ?_) (fun n => absurd n c4)
      refine lv_iload_n hx hb dX8_isAmong_50 rfl (lv_at hl 3 rfl) ?_
      rcases s_ite hf with ⟨hchk, hf⟩ | ⟨-, hf⟩
      · cases hf
        have k : _ = r := k
        subst k
        exact r_iret X I rfl (s_nb hchk) rfl hn dX8_isAmong_51
      · cases hf
set_option maxRecDepth 100000 in
set_option maxHeartbeats 4000000 in
theorem v_X8_isAmong_42 {G : sG} {d : Nat} {vs0 : List Value} {σ0 : sS} {v0 : Nat} {v1 : Int32} {v2 : Int32} {v4 : Int32} {σ : sS} {z : sZ Int32} {r : Int32 × sS} (hf : T_X8_isAmong_42 v0 v1 v2 v4 σ = some z) (k : s_K G (d + 4) M_X8_isAmong vs0 σ0 Y_X8_isAmong e_I z r) : s_V G (d + 4) M_X8_isAmong vs0 σ0 Y_X8_isAmong (42, [.ref v0, .int v1, .int v2, .int v4], σ) (e_I r) := by
  have le0 : s_le σ (e_I r).2 := s_lek hem_I (l_X8_isAmong_42 hf) k
  refine ⟨le0, ?_⟩
  intro p e s m below meth c H locs cells slots ls X I hn1 hn2 hl
  have hn : cells + σ0.2.1 ≤ σ.2.1 ∧ slots + σ0.2.2.1 ≤ σ.2.2.1 := ⟨hn1, hn2⟩
  have hl : lv_has ls 5 [(0, .ref v0), (1, .int v1), (2, .int v2), (4, .int v4)] := hl
  have hx := X.1
  have hb : c.code = cX8_isAmong := X.2.1
  have hown : s.vm.findClass RX8 = some m.cls := X.2.2.2.2.2.1
  have hts := X.2.2.2.2.2.2.1
  refine W.eq (g2 := F0 m 42 ls []) rfl ?_
  unfold T_X8_isAmong_42 at hf
  cases hf
  have k : s_V G (d + 4) M_X8_isAmong vs0 σ0 Y_X8_isAmong (43, [.ref v0, .int v1, .int v2, .int v4, .int 0], σ) (e_I r) := k
  refine lv_iconst (v := 0) hx hb dX8_isAmong_42 (by decide) ?_
  exact k.2 p e s m below meth c _ _ _ _ _ X I hn.1 hn.2 (lv_sub hl [0, 1, 2, 3] rfl)
set_option maxRecDepth 100000 in
set_option maxHeartbeats 4000000 in
theorem v_X8_isAmong_43 {G : sG} {d : Nat} {vs0 : List Value} {σ0 : sS} {v0 : Nat} {v1 : Int32} {v2 : Int32} {v4 : Int32} {w0 : Int32} {σ : sS} {z : sZ Int32} {r : Int32 × sS} (hf : T_X8_isAmong_43 v0 v1 v2 v4 w0 σ = some z) (k : s_K G (d + 4) M_X8_isAmong vs0 σ0 Y_X8_isAmong e_I z r) : s_V G (d + 4) M_X8_isAmong vs0 σ0 Y_X8_isAmong (43, [.ref v0, .int v1, .int v2, .int v4, .int w0], σ) (e_I r) := by
  have le0 : s_le σ (e_I r).2 := s_lek hem_I (l_X8_isAmong_43 hf) k
  refine ⟨le0, ?_⟩
  intro p e s m below meth c H locs cells slots ls X I hn1 hn2 hl
  have hn : cells + σ0.2.1 ≤ σ.2.1 ∧ slots + σ0.2.2.1 ≤ σ.2.2.1 := ⟨hn1, hn2⟩
  have hl : lv_has ls 5 [(0, .ref v0), (1, .int v1), (2, .int v2), (4, .int v4)] := hl
  have hx := X.1
  have hb : c.code = cX8_isAmong := X.2.1
  have hown : s.vm.findClass RX8 = some m.cls := X.2.2.2.2.2.1
  have hts := X.2.2.2.2.2.2.1
  refine W.eq (g2 := F0 m 43 ls [.int w0]) rfl ?_
  unfold T_X8_isAmong_43 at hf
  cases hf
  have k : s_V G (d + 4) M_X8_isAmong vs0 σ0 Y_X8_isAmong (5, [.ref v0, .int v1, .int v2, .int w0, .int (v4 + 1)], σ) (e_I r) := k
  refine lv_istore_n (lv' := [(3, .int w0), (0, .ref v0), (1, .int v1), (2, .int v2), (4, .int v4)]) hx hb dX8_isAmong_43 rfl hl (by decide) rfl (fun ls hl => ?_)
  refine lv_iinc (v := (v4 + 1)) (lv' := [(4, .int (v4 + 1)), (3, .int w0), (0, .ref v0), (1, .int v1), (2, .int v2)]) hx hb dX8_isAmong_44 hl (k := 4) rfl rfl (by decide) rfl (fun ls hl => ?_)
  refine lv_goto (tgt := 5) hx hb dX8_isAmong_47 (by decide) ?_
  exact k.2 p e s m below meth c _ _ _ _ _ X I hn.1 hn.2 (lv_sub hl [2, 3, 4, 1, 0] rfl)
theorem v_X8_isAmong {G : sG} {d : Nat} {vs0 : List Value} {σ0 : sS} {x : sL} {z : sZ Int32} {r : Int32 × sS} (hs : S_X8_isAmong x = some z) (k : s_K G (d + 4) M_X8_isAmong vs0 σ0 Y_X8_isAmong e_I z r) : s_V G (d + 4) M_X8_isAmong vs0 σ0 Y_X8_isAmong x (e_I r) := by
  obtain ⟨pc, vs, σ⟩ := x
  unfold S_X8_isAmong at hs
  dsimp only at hs
  rcases s_ite hs with ⟨c, hs⟩ | ⟨-, hs⟩
  · subst c
    unfold U_X8_isAmong_0 at hs
    obtain ⟨a0, g0, hs⟩ := s_bind hs
    obtain ⟨a1, g1, hs⟩ := s_bind hs
    obtain ⟨a2, g2, hs⟩ := s_bind hs
    obtain ⟨u9, ge, hs⟩ := s_bind hs
    rw [g_r_to g0, g_i_to g1, g_i_to g2, g_e_to ge]
    exact v_X8_isAmong_0 hs k
  rcases s_ite hs with ⟨c, hs⟩ | ⟨-, hs⟩
  · subst c
    unfold U_X8_isAmong_5 at hs
    obtain ⟨a0, g0, hs⟩ := s_bind hs
    obtain ⟨a1, g1, hs⟩ := s_bind hs
    obtain ⟨a2, g2, hs⟩ := s_bind hs
    obtain ⟨a3, g3, hs⟩ := s_bind hs
    obtain ⟨a4, g4, hs⟩ := s_bind hs
    obtain ⟨u9, ge, hs⟩ := s_bind hs
    rw [g_r_to g0, g_i_to g1, g_i_to g2, g_i_to g3, g_i_to g4, g_e_to ge]
    exact v_X8_isAmong_5 hs k
  rcases s_ite hs with ⟨c, hs⟩ | ⟨-, hs⟩
  · subst c
    unfold U_X8_isAmong_42 at hs
    obtain ⟨a0, g0, hs⟩ := s_bind hs
    obtain ⟨a1, g1, hs⟩ := s_bind hs
    obtain ⟨a2, g2, hs⟩ := s_bind hs
    obtain ⟨a3, g3, hs⟩ := s_bind hs
    obtain ⟨u9, ge, hs⟩ := s_bind hs
    rw [g_r_to g0, g_i_to g1, g_i_to g2, g_i_to g3, g_e_to ge]
    exact v_X8_isAmong_42 hs k
  rcases s_ite hs with ⟨c, hs⟩ | ⟨-, hs⟩
  · subst c
    unfold U_X8_isAmong_43 at hs
    obtain ⟨a0, g0, hs⟩ := s_bind hs
    obtain ⟨a1, g1, hs⟩ := s_bind hs
    obtain ⟨a2, g2, hs⟩ := s_bind hs
    obtain ⟨a3, g3, hs⟩ := s_bind hs
    obtain ⟨a4, g4, hs⟩ := s_bind hs
    obtain ⟨u9, ge, hs⟩ := s_bind hs
    rw [g_r_to g0, g_i_to g1, g_i_to g2, g_i_to g3, g_i_to g4, g_e_to ge]
    exact v_X8_isAmong_43 hs k
  cases hs
theorem t_X8_isAmong {G : sG} {d : Nat} {v0 : Nat} {v1 : Int32} {v2 : Int32} {σ : sS} {q : Int32 × sS} (h : F_X8_isAmong v0 v1 v2 σ = some q) : s_T G (d + 4) M_X8_isAmong [.ref v0, .int v1, .int v2] σ (e_I q) := by
  unfold F_X8_isAmong at h
  obtain ⟨-, -, h⟩ := s_bind h
  exact s_ofV rfl (by decide) (Nat.le_of_ble_eq_true rfl) rfl rfl (s_run_ind (V := fun x r => s_V G (d + 4) M_X8_isAmong [.ref v0, .int v1, .int v2] σ Y_X8_isAmong x (e_I r)) (fun x z r hs hk => v_X8_isAmong hs (by cases z <;> exact hk)) h)
/-! X8_endOf -/
noncomputable def T_X8_endOf_0 (v0 : Nat) (v1 : Int32) (v2 : Int32) (σ : sS) : Option (sZ Int32) :=
  some (.inl (5, [.ref v0, .int v1, .int 1, .int v2], σ))
noncomputable def U_X8_endOf_0 (vs : List Value) (σ : sS) : Option (sZ Int32) := (g_r vs).bind fun a0 => (g_i a0.2).bind fun a1 => (g_i a1.2).bind fun a2 => (g_e a2.2).bind fun _ => T_X8_endOf_0 a0.1 a1.1 a2.1 σ
noncomputable def T_X8_endOf_5 (v0 : Nat) (v1 : Int32) (v3 : Int32) (v4 : Int32) (σ : sS) : Option (sZ Int32) :=
  if v3 ≤ 0 then (some (.inr (v4, σ)))
  else ((F_X8_at v0 v1 v4 σ).bind fun q1 =>
  (F_X8_isJoining q1.1 q1.2).bind fun q2 =>
  if q2.1 = 0 then ((F_X8_at v0 v1 v4 q2.2).bind fun q3 =>
  (F_X8_isLone q3.1 q3.2).bind fun q4 =>
  if q4.1 = 0 then (some (.inl (45, [.ref v0, .int v1, .int v4, .int (-1), .int v3], q4.2)))
  else (some (.inl (45, [.ref v0, .int v1, .int v4, .int 0, .int v3], q4.2))))
  else (some (.inl (45, [.ref v0, .int v1, .int v4, .int 1, .int v3], q2.2))))
noncomputable def U_X8_endOf_5 (vs : List Value) (σ : sS) : Option (sZ Int32) := (g_r vs).bind fun a0 => (g_i a0.2).bind fun a1 => (g_i a1.2).bind fun a2 => (g_i a2.2).bind fun a3 => (g_e a3.2).bind fun _ => T_X8_endOf_5 a0.1 a1.1 a2.1 a3.1 σ
noncomputable def T_X8_endOf_45 (v0 : Nat) (v1 : Int32) (v4 : Int32) (w0 : Int32) (w1 : Int32) (σ : sS) : Option (sZ Int32) :=
  some (.inl (5, [.ref v0, .int v1, .int (w1 + w0), .int (v4 + 1)], σ))
noncomputable def U_X8_endOf_45 (vs : List Value) (σ : sS) : Option (sZ Int32) := (g_r vs).bind fun a0 => (g_i a0.2).bind fun a1 => (g_i a1.2).bind fun a2 => (g_i a2.2).bind fun a3 => (g_i a3.2).bind fun a4 => (g_e a4.2).bind fun _ => T_X8_endOf_45 a0.1 a1.1 a2.1 a3.1 a4.1 σ
noncomputable def S_X8_endOf (x : sL) : Option (sZ Int32) := if x.1 = 0 then U_X8_endOf_0 x.2.1 x.2.2 else if x.1 = 5 then U_X8_endOf_5 x.2.1 x.2.2 else if x.1 = 45 then U_X8_endOf_45 x.2.1 x.2.2 else none
def Y_X8_endOf (pc : Nat) : List Nat := if pc = 0 then [0, 1, 2] else if pc = 5 then [0, 1, 3, 4] else if pc = 45 then [0, 1, 4] else []
noncomputable def F_X8_endOf (v0 : Nat) (v1 : Int32) (v2 : Int32) (σ : sS) : Option (Int32 × sS) := (s_is σ v0 8).bind fun _ => s_run S_X8_endOf (0, [.ref v0, .int v1, .int v2], σ)
theorem l_X8_endOf_0 {v0 : Nat} {v1 : Int32} {v2 : Int32} {σ : sS} {z : sZ Int32} (hf : T_X8_endOf_0 v0 v1 v2 σ = some z) : s_lz σ z := by
  unfold T_X8_endOf_0 at hf
  cases hf
  exact s_le.rf
theorem l_X8_endOf_5 {v0 : Nat} {v1 : Int32} {v3 : Int32} {v4 : Int32} {σ : sS} {z : sZ Int32} (hf : T_X8_endOf_5 v0 v1 v3 v4 σ = some z) : s_lz σ z := by
  unfold T_X8_endOf_5 at hf
  rcases s_ite hf with ⟨-, hf⟩ | ⟨-, hf⟩
  · cases hf
    exact s_le.rf
  · obtain ⟨q1, hh, hf⟩ := s_bind hf
    refine s_lz.tr (l_X8_at hh) ?_
    obtain ⟨q2, hh, hf⟩ := s_bind hf
    refine s_lz.tr (l_X8_isJoining hh) ?_
    rcases s_ite hf with ⟨-, hf⟩ | ⟨-, hf⟩
    · obtain ⟨q3, hh, hf⟩ := s_bind hf
      refine s_lz.tr (l_X8_at hh) ?_
      obtain ⟨q4, hh, hf⟩ := s_bind hf
      refine s_lz.tr (l_X8_isLone hh) ?_
      rcases s_ite hf with ⟨-, hf⟩ | ⟨-, hf⟩
      · cases hf
        exact s_le.rf
      · cases hf
        exact s_le.rf
    · cases hf
      exact s_le.rf
theorem l_X8_endOf_45 {v0 : Nat} {v1 : Int32} {v4 : Int32} {w0 : Int32} {w1 : Int32} {σ : sS} {z : sZ Int32} (hf : T_X8_endOf_45 v0 v1 v4 w0 w1 σ = some z) : s_lz σ z := by
  unfold T_X8_endOf_45 at hf
  cases hf
  exact s_le.rf
theorem l_X8_endOf_s {x : sL} {z : sZ Int32} (hs : S_X8_endOf x = some z) : s_lz x.2.2 z := by
  obtain ⟨pc, vs, σ⟩ := x
  unfold S_X8_endOf at hs
  dsimp only at hs ⊢
  rcases s_ite hs with ⟨c, hs⟩ | ⟨-, hs⟩
  · subst c
    unfold U_X8_endOf_0 at hs
    obtain ⟨a0, g0, hs⟩ := s_bind hs
    obtain ⟨a1, g1, hs⟩ := s_bind hs
    obtain ⟨a2, g2, hs⟩ := s_bind hs
    obtain ⟨u9, ge, hs⟩ := s_bind hs
    exact l_X8_endOf_0 hs
  rcases s_ite hs with ⟨c, hs⟩ | ⟨-, hs⟩
  · subst c
    unfold U_X8_endOf_5 at hs
    obtain ⟨a0, g0, hs⟩ := s_bind hs
    obtain ⟨a1, g1, hs⟩ := s_bind hs
    obtain ⟨a2, g2, hs⟩ := s_bind hs
    obtain ⟨a3, g3, hs⟩ := s_bind hs
    obtain ⟨u9, ge, hs⟩ := s_bind hs
    exact l_X8_endOf_5 hs
  rcases s_ite hs with ⟨c, hs⟩ | ⟨-, hs⟩
  · subst c
    unfold U_X8_endOf_45 at hs
    obtain ⟨a0, g0, hs⟩ := s_bind hs
    obtain ⟨a1, g1, hs⟩ := s_bind hs
    obtain ⟨a2, g2, hs⟩ := s_bind hs
    obtain ⟨a3, g3, hs⟩ := s_bind hs
    obtain ⟨a4, g4, hs⟩ := s_bind hs
    obtain ⟨u9, ge, hs⟩ := s_bind hs
    exact l_X8_endOf_45 hs
  cases hs
theorem l_X8_endOf {v0 : Nat} {v1 : Int32} {v2 : Int32} {σ : sS} {q : Int32 × sS} (h : F_X8_endOf v0 v1 v2 σ = some q) : s_le σ q.2 := by
  unfold F_X8_endOf at h
  obtain ⟨-, -, h⟩ := s_bind h
  exact s_run_ind (V := fun x r => s_le x.2.2 r.2) (fun x z r hs hk => by
    have h9 := l_X8_endOf_s hs
    cases z with
    | inl y => exact s_le.tr h9 hk
    | inr q => cases hk; exact h9) h
theorem b_X8_endOf {v0 : Nat} {v1 : Int32} {v2 : Int32} {σ : sS} {q : Int32 × sS} (h : F_X8_endOf v0 v1 v2 σ = some q) : ∃ fs, σ.1 v0 = some (.inr (8, fs)) := by
  unfold F_X8_endOf at h
  obtain ⟨u, hu, -⟩ := s_bind h
  exact s_is_to hu
set_option maxRecDepth 100000 in
set_option maxHeartbeats 4000000 in
theorem v_X8_endOf_0 {G : sG} {d : Nat} {vs0 : List Value} {σ0 : sS} {v0 : Nat} {v1 : Int32} {v2 : Int32} {σ : sS} {z : sZ Int32} {r : Int32 × sS} (hf : T_X8_endOf_0 v0 v1 v2 σ = some z) (k : s_K G (d + 2) M_X8_endOf vs0 σ0 Y_X8_endOf e_I z r) : s_V G (d + 2) M_X8_endOf vs0 σ0 Y_X8_endOf (0, [.ref v0, .int v1, .int v2], σ) (e_I r) := by
  have le0 : s_le σ (e_I r).2 := s_lek hem_I (l_X8_endOf_0 hf) k
  refine ⟨le0, ?_⟩
  intro p e s m below meth c H locs cells slots ls X I hn1 hn2 hl
  have hn : cells + σ0.2.1 ≤ σ.2.1 ∧ slots + σ0.2.2.1 ≤ σ.2.2.1 := ⟨hn1, hn2⟩
  have hl : lv_has ls 5 [(0, .ref v0), (1, .int v1), (2, .int v2)] := hl
  have hx := X.1
  have hb : c.code = cX8_endOf := X.2.1
  have hown : s.vm.findClass RX8 = some m.cls := X.2.2.2.2.2.1
  have hts := X.2.2.2.2.2.2.1
  refine W.eq (g2 := F0 m 0 ls []) rfl ?_
  unfold T_X8_endOf_0 at hf
  cases hf
  have k : s_V G (d + 2) M_X8_endOf vs0 σ0 Y_X8_endOf (5, [.ref v0, .int v1, .int 1, .int v2], σ) (e_I r) := k
  refine lv_iconst (v := 1) hx hb dX8_endOf_0 (by decide) ?_
  refine lv_istore_n (lv' := [(3, .int 1), (0, .ref v0), (1, .int v1), (2, .int v2)]) hx hb dX8_endOf_1 rfl hl (by decide) rfl (fun ls hl => ?_)
  refine lv_iload_n hx hb dX8_endOf_2 rfl (lv_at hl 3 rfl) ?_
  refine lv_istore (lv' := [(4, .int v2), (3, .int 1), (0, .ref v0), (1, .int v1), (2, .int v2)]) hx hb dX8_endOf_3 hl (by decide) rfl (fun ls hl => ?_)
  exact k.2 p e s m below meth c _ _ _ _ _ X I hn.1 hn.2 (lv_sub hl [2, 3, 1, 0] rfl)
set_option maxRecDepth 100000 in
set_option maxHeartbeats 4000000 in
theorem v_X8_endOf_5 {G : sG} {d : Nat} {vs0 : List Value} {σ0 : sS} {v0 : Nat} {v1 : Int32} {v3 : Int32} {v4 : Int32} {σ : sS} {z : sZ Int32} {r : Int32 × sS} (hf : T_X8_endOf_5 v0 v1 v3 v4 σ = some z) (k : s_K G (d + 2) M_X8_endOf vs0 σ0 Y_X8_endOf e_I z r) : s_V G (d + 2) M_X8_endOf vs0 σ0 Y_X8_endOf (5, [.ref v0, .int v1, .int v3, .int v4], σ) (e_I r) := by
  have le0 : s_le σ (e_I r).2 := s_lek hem_I (l_X8_endOf_5 hf) k
  refine ⟨le0, ?_⟩
  intro p e s m below meth c H locs cells slots ls X I hn1 hn2 hl
  have hn : cells + σ0.2.1 ≤ σ.2.1 ∧ slots + σ0.2.2.1 ≤ σ.2.2.1 := ⟨hn1, hn2⟩
  have hl : lv_has ls 5 [(0, .ref v0), (1, .int v1), (3, .int v3), (4, .int v4)] := hl
  have hx := X.1
  have hb : c.code = cX8_endOf := X.2.1
  have hown : s.vm.findClass RX8 = some m.cls := X.2.2.2.2.2.1
  have hts := X.2.2.2.2.2.2.1
  refine W.eq (g2 := F0 m 5 ls []) rfl ?_
  unfold T_X8_endOf_5 at hf
  refine lv_iload_n hx hb dX8_endOf_5 rfl (lv_at hl 2 rfl) ?_
  rcases s_ite hf with ⟨c1, hf⟩ | ⟨c1, hf⟩
  · refine lv_if_le (tgt := 53) hx hb dX8_endOf_6 (by decide) (fun _ => ?_) (fun n => absurd c1 n)
    cases hf
    have k : _ = r := k
    subst k
    refine lv_iload hx hb dX8_endOf_53 (lv_at hl 3 rfl) ?_
    exact r_iret X I rfl rfl rfl hn dX8_endOf_55
  · refine lv_if_le (tgt := 53) hx hb dX8_endOf_6 (by decide) (fun n => absurd n c1) (fun _ => ?_)
    obtain ⟨q1, h2, hf⟩ := s_bind hf
    obtain ⟨q2, h3, hf⟩ := s_bind hf
    have le4 : s_le q2.2 (e_I r).2 := by
      refine s_lek hem_I ?_ k
      rcases s_ite hf with ⟨-, hf⟩ | ⟨-, hf⟩
      · obtain ⟨q3, hh, hf⟩ := s_bind hf
        refine s_lz.tr (l_X8_at hh) ?_
        obtain ⟨q4, hh, hf⟩ := s_bind hf
        refine s_lz.tr (l_X8_isLone hh) ?_
        rcases s_ite hf with ⟨-, hf⟩ | ⟨-, hf⟩
        · cases hf
          exact s_le.rf
        · cases hf
          exact s_le.rf
      · cases hf
        exact s_le.rf
    have le5 := s_le.tr (l_X8_isJoining h3) le4
    refine lv_iload_n hx hb dX8_endOf_9 rfl (lv_at hl 2 rfl) ?_
    refine lv_aload_n hx hb dX8_endOf_10 rfl (lv_at hl 0 rfl) ?_
    refine lv_iload_n hx hb dX8_endOf_11 rfl (lv_at hl 1 rfl) ?_
    refine lv_iload hx hb dX8_endOf_12 (lv_at hl 3 rfl) ?_
    refine r_callV (Y := M_X8_at) (v := some (.int q1.1)) X I w_1901 my_X8_at (by omega) (t_X8_at (G := G) (d := d + 0) h2) (b_X8_at h2) rfl rfl hl.1 rfl (Nat.le_of_ble_eq_true rfl) hn le5 dX8_endOf_14 (fun H locs cells slots I hn1 hn2 => ?_)
    have I : s_I G q1.2 s H locs := I
    have hn : cells + σ0.2.1 ≤ q1.2.2.1 ∧ slots + σ0.2.2.1 ≤ q1.2.2.2.1 := ⟨hn1, hn2⟩
    refine r_callS (Y := M_X8_isJoining) (v := some (.int q2.1)) X I w_1951 my_X8_isJoining (by omega) (t_X8_isJoining (G := G) (d := d + 0) h3) rfl rfl hl.1 rfl (Nat.le_of_ble_eq_true rfl) hn le4 dX8_endOf_17 (fun H locs cells slots I hn1 hn2 => ?_)
    have I : s_I G q2.2 s H locs := I
    have hn : cells + σ0.2.1 ≤ q2.2.2.1 ∧ slots + σ0.2.2.1 ≤ q2.2.2.2.1 := ⟨hn1, hn2⟩
    rcases s_ite hf with ⟨c6, hf⟩ | ⟨c6, hf⟩
    · refine lv_if_eq (tgt := 27) hx hb dX8_endOf_20 (by decide) (fun _ => ?_) (fun n => absurd c6 n)
      obtain ⟨q3, h7, hf⟩ := s_bind hf
      obtain ⟨q4, h8, hf⟩ := s_bind hf
      have le9 : s_le q4.2 (e_I r).2 := by
        refine s_lek hem_I ?_ k
        rcases s_ite hf with ⟨-, hf⟩ | ⟨-, hf⟩
        · cases hf
          exact s_le.rf
        · cases hf
          exact s_le.rf
      have le10 := s_le.tr (l_X8_isLone h8) le9
      refine lv_aload_n hx hb dX8_endOf_27 rfl (lv_at hl 0 rfl) ?_
      refine lv_iload_n hx hb dX8_endOf_28 rfl (lv_at hl 1 rfl) ?_
      refine lv_iload hx hb dX8_endOf_29 (lv_at hl 3 rfl) ?_
      refine r_callV (Y := M_X8_at) (v := some (.int q3.1)) X I w_1901 my_X8_at (by omega) (t_X8_at (G := G) (d := d + 0) h7) (b_X8_at h7) rfl rfl hl.1 rfl (Nat.le_of_ble_eq_true rfl) hn le10 dX8_endOf_31 (fun H locs cells slots I hn1 hn2 => ?_)
      have I : s_I G q3.2 s H locs := I
      have hn : cells + σ0.2.1 ≤ q3.2.2.1 ∧ slots + σ0.2.2.1 ≤ q3.2.2.2.1 := ⟨hn1, hn2⟩
      refine r_callS (Y := M_X8_isLone) (v := some (.int q4.1)) X I w_1954 my_X8_isLone (by omega) (t_X8_isLone (G := G) (d := d + 0) h8) rfl rfl hl.1 rfl (Nat.le_of_ble_eq_true rfl) hn le9 dX8_endOf_34 (fun H locs cells slots I hn1 hn2 => ?_)
      have I : s_I G q4.2 s H locs := I
      have hn : cells + σ0.2.1 ≤ q4.2.2.1 ∧ slots + σ0.2.2.1 ≤ q4.2.2.2.1 := ⟨hn1, hn2⟩
      rcases s_ite hf with ⟨c11, hf⟩ | ⟨c11, hf⟩
      · refine lv_if_eq (tgt := 44) hx hb dX8_endOf_37 (by decide) (fun _ => ?_) (fun n => absurd c11 n)
        cases hf
        have k : s_V G (d + 2) M_X8_endOf vs0 σ0 Y_X8_endOf (45, [.ref v0, .int v1, .int v4, .int (-1), .int v3], q4.2) (e_I r) := k
        refine lv_iconst (v := (-1)) hx hb dX8_endOf_44 (by decide) ?_
        exact k.2 p e s m below meth c _ _ _ _ _ X I hn.1 hn.2 (lv_sub hl [0, 1, 3] rfl)
      · refine lv_if_eq (tgt := 44) hx hb dX8_endOf_37 (by decide) (fun n => absurd n c11) (fun _ => ?_)
        cases hf
        have k : s_V G (d + 2) M_X8_endOf vs0 σ0 Y_X8_endOf (45, [.ref v0, .int v1, .int v4, .int 0, .int v3], q4.2) (e_I r) := k
        refine lv_iconst (v := 0) hx hb dX8_endOf_40 (by decide) ?_
        refine lv_goto (tgt := 45) hx hb dX8_endOf_41 (by decide) ?_
        exact k.2 p e s m below meth c _ _ _ _ _ X I hn.1 hn.2 (lv_sub hl [0, 1, 3] rfl)
    · refine lv_if_eq (tgt := 27) hx hb dX8_endOf_20 (by decide) (fun n => absurd n c6) (fun _ => ?_)
      cases hf
      have k : s_V G (d + 2) M_X8_endOf vs0 σ0 Y_X8_endOf (45, [.ref v0, .int v1, .int v4, .int 1, .int v3], q2.2) (e_I r) := k
      refine lv_iconst (v := 1) hx hb dX8_endOf_23 (by decide) ?_
      refine lv_goto (tgt := 45) hx hb dX8_endOf_24 (by decide) ?_
      exact k.2 p e s m below meth c _ _ _ _ _ X I hn.1 hn.2 (lv_sub hl [0, 1, 3] rfl)
set_option maxRecDepth 100000 in
set_option maxHeartbeats 4000000 in
theorem v_X8_endOf_45 {G : sG} {d : Nat} {vs0 : List Value} {σ0 : sS} {v0 : Nat} {v1 : Int32} {v4 : Int32} {w0 : Int32} {w1 : Int32} {σ : sS} {z : sZ Int32} {r : Int32 × sS} (hf : T_X8_endOf_45 v0 v1 v4 w0 w1 σ = some z) (k : s_K G (d + 2) M_X8_endOf vs0 σ0 Y_X8_endOf e_I z r) : s_V G (d + 2) M_X8_endOf vs0 σ0 Y_X8_endOf (45, [.ref v0, .int v1, .int v4, .int w0, .int w1], σ) (e_I r) := by
  have le0 : s_le σ (e_I r).2 := s_lek hem_I (l_X8_endOf_45 hf) k
  refine ⟨le0, ?_⟩
  intro p e s m below meth c H locs cells slots ls X I hn1 hn2 hl
  have hn : cells + σ0.2.1 ≤ σ.2.1 ∧ slots + σ0.2.2.1 ≤ σ.2.2.1 := ⟨hn1, hn2⟩
  have hl : lv_has ls 5 [(0, .ref v0), (1, .int v1), (4, .int v4)] := hl
  have hx := X.1
  have hb : c.code = cX8_endOf := X.2.1
  have hown : s.vm.findClass RX8 = some m.cls := X.2.2.2.2.2.1
  have hts := X.2.2.2.2.2.2.1
  refine W.eq (g2 := F0 m 45 ls [.int w0, .int w1]) rfl ?_
  unfold T_X8_endOf_45 at hf
  cases hf
  have k : s_V G (d + 2) M_X8_endOf vs0 σ0 Y_X8_endOf (5, [.ref v0, .int v1, .int (w1 + w0), .int (v4 + 1)], σ) (e_I r) := k
  refine lv_iadd hx hb dX8_endOf_45 ?_
  refine lv_istore_n (lv' := [(3, .int (w1 + w0)), (0, .ref v0), (1, .int v1), (4, .int v4)]) hx hb dX8_endOf_46 rfl hl (by decide) rfl (fun ls hl => ?_)
  refine lv_iinc (v := (v4 + 1)) (lv' := [(4, .int (v4 + 1)), (3, .int (w1 + w0)), (0, .ref v0), (1, .int v1)]) hx hb dX8_endOf_47 hl (k := 3) rfl rfl (by decide) rfl (fun ls hl => ?_)
  refine lv_goto (tgt := 5) hx hb dX8_endOf_50 (by decide) ?_
  exact k.2 p e s m below meth c _ _ _ _ _ X I hn.1 hn.2 (lv_sub hl [2, 3, 1, 0] rfl)
theorem v_X8_endOf {G : sG} {d : Nat} {vs0 : List Value} {σ0 : sS} {x : sL} {z : sZ Int32} {r : Int32 × sS} (hs : S_X8_endOf x = some z) (k : s_K G (d + 2) M_X8_endOf vs0 σ0 Y_X8_endOf e_I z r) : s_V G (d + 2) M_X8_endOf vs0 σ0 Y_X8_endOf x (e_I r) := by
  obtain ⟨pc, vs, σ⟩ := x
  unfold S_X8_endOf at hs
  dsimp only at hs
  rcases s_ite hs with ⟨c, hs⟩ | ⟨-, hs⟩
  · subst c
    unfold U_X8_endOf_0 at hs
    obtain ⟨a0, g0, hs⟩ := s_bind hs
    obtain ⟨a1, g1, hs⟩ := s_bind hs
    obtain ⟨a2, g2, hs⟩ := s_bind hs
    obtain ⟨u9, ge, hs⟩ := s_bind hs
    rw [g_r_to g0, g_i_to g1, g_i_to g2, g_e_to ge]
    exact v_X8_endOf_0 hs k
  rcases s_ite hs with ⟨c, hs⟩ | ⟨-, hs⟩
  · subst c
    unfold U_X8_endOf_5 at hs
    obtain ⟨a0, g0, hs⟩ := s_bind hs
    obtain ⟨a1, g1, hs⟩ := s_bind hs
    obtain ⟨a2, g2, hs⟩ := s_bind hs
    obtain ⟨a3, g3, hs⟩ := s_bind hs
    obtain ⟨u9, ge, hs⟩ := s_bind hs
    rw [g_r_to g0, g_i_to g1, g_i_to g2, g_i_to g3, g_e_to ge]
    exact v_X8_endOf_5 hs k
  rcases s_ite hs with ⟨c, hs⟩ | ⟨-, hs⟩
  · subst c
    unfold U_X8_endOf_45 at hs
    obtain ⟨a0, g0, hs⟩ := s_bind hs
    obtain ⟨a1, g1, hs⟩ := s_bind hs
    obtain ⟨a2, g2, hs⟩ := s_bind hs
    obtain ⟨a3, g3, hs⟩ := s_bind hs
    obtain ⟨a4, g4, hs⟩ := s_bind hs
    obtain ⟨u9, ge, hs⟩ := s_bind hs
    rw [g_r_to g0, g_i_to g1, g_i_to g2, g_i_to g3, g_i_to g4, g_e_to ge]
    exact v_X8_endOf_45 hs k
  cases hs
theorem t_X8_endOf {G : sG} {d : Nat} {v0 : Nat} {v1 : Int32} {v2 : Int32} {σ : sS} {q : Int32 × sS} (h : F_X8_endOf v0 v1 v2 σ = some q) : s_T G (d + 2) M_X8_endOf [.ref v0, .int v1, .int v2] σ (e_I q) := by
  unfold F_X8_endOf at h
  obtain ⟨-, -, h⟩ := s_bind h
  exact s_ofV rfl (by decide) (Nat.le_of_ble_eq_true rfl) rfl rfl (s_run_ind (V := fun x r => s_V G (d + 2) M_X8_endOf [.ref v0, .int v1, .int v2] σ Y_X8_endOf x (e_I r)) (fun x z r hs hk => v_X8_endOf hs (by cases z <;> exact hk)) h)
