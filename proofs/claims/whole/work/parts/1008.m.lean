/-! X3_leastClash -/
noncomputable def T_X3_leastClash_0 (v0 : Nat) (v1 : Int32) (σ : sS) : Option (sZ Int32) :=
  (F_X3_listMembers v0 v1 σ).bind fun q1 =>
  (F_X3_markTogether v0 q1.1 q1.2).bind fun q2 =>
  some (.inl (16, [.ref v0, .int q1.1, .int (-1), .int 1], q2.2))
noncomputable def U_X3_leastClash_0 (vs : List Value) (σ : sS) : Option (sZ Int32) := (g_r vs).bind fun a0 => (g_i a0.2).bind fun a1 => (g_e a1.2).bind fun _ => T_X3_leastClash_0 a0.1 a1.1 σ
noncomputable def T_X3_leastClash_16 (v0 : Nat) (v2 : Int32) (v3 : Int32) (v4 : Int32) (σ : sS) : Option (sZ Int32) :=
  if (1 <<< (v2 &&& 31)) ≤ v4 then (if v3 = (-1) then (some (.inr (0, σ)))
  else ((F_X3_formulasOf v0 v3 σ).bind fun q1 =>
  some (.inr (q1.1, q1.2))))
  else ((s_fr σ v0 3 5).bind fun x2 =>
  (s_al σ x2 (v4 >>> (6 &&& 31))).bind fun x3 =>
  if (lg_cmp (((x3 : Int64).toUInt64 >>> (((v4 &&& 63) : Int32).toInt64.toUInt64 &&& Int64.toUInt64 63)).toInt64 &&& 1) 0) = 0 then (some (.inl (52, [.ref v0, .int v2, .int v3, .int v4, .int 1], σ)))
  else (some (.inl (52, [.ref v0, .int v2, .int v3, .int v4, .int 0], σ))))
noncomputable def U_X3_leastClash_16 (vs : List Value) (σ : sS) : Option (sZ Int32) := (g_r vs).bind fun a0 => (g_i a0.2).bind fun a1 => (g_i a1.2).bind fun a2 => (g_i a2.2).bind fun a3 => (g_e a3.2).bind fun _ => T_X3_leastClash_16 a0.1 a1.1 a2.1 a3.1 σ
noncomputable def T_X3_leastClash_52 (v0 : Nat) (v2 : Int32) (v3 : Int32) (v4 : Int32) (w0 : Int32) (σ : sS) : Option (sZ Int32) :=
  if w0 = 0 then (some (.inl (76, [.ref v0, .int v2, .int v3, .int v4], σ)))
  else (if v3 = (-1) then (some (.inl (73, [.ref v0, .int v2, .int v4], σ)))
  else ((F_X3_isBetter v4 v3 σ).bind fun q1 =>
  if q1.1 = 0 then (some (.inl (76, [.ref v0, .int v2, .int v3, .int v4], q1.2)))
  else (some (.inl (73, [.ref v0, .int v2, .int v4], q1.2)))))
noncomputable def U_X3_leastClash_52 (vs : List Value) (σ : sS) : Option (sZ Int32) := (g_r vs).bind fun a0 => (g_i a0.2).bind fun a1 => (g_i a1.2).bind fun a2 => (g_i a2.2).bind fun a3 => (g_i a3.2).bind fun a4 => (g_e a4.2).bind fun _ => T_X3_leastClash_52 a0.1 a1.1 a2.1 a3.1 a4.1 σ
noncomputable def T_X3_leastClash_73 (v0 : Nat) (v2 : Int32) (v4 : Int32) (σ : sS) : Option (sZ Int32) :=
  some (.inl (76, [.ref v0, .int v2, .int v4, .int v4], σ))
noncomputable def U_X3_leastClash_73 (vs : List Value) (σ : sS) : Option (sZ Int32) := (g_r vs).bind fun a0 => (g_i a0.2).bind fun a1 => (g_i a1.2).bind fun a2 => (g_e a2.2).bind fun _ => T_X3_leastClash_73 a0.1 a1.1 a2.1 σ
noncomputable def T_X3_leastClash_76 (v0 : Nat) (v2 : Int32) (v3 : Int32) (v4 : Int32) (σ : sS) : Option (sZ Int32) :=
  some (.inl (16, [.ref v0, .int v2, .int v3, .int (v4 + 1)], σ))
noncomputable def U_X3_leastClash_76 (vs : List Value) (σ : sS) : Option (sZ Int32) := (g_r vs).bind fun a0 => (g_i a0.2).bind fun a1 => (g_i a1.2).bind fun a2 => (g_i a2.2).bind fun a3 => (g_e a3.2).bind fun _ => T_X3_leastClash_76 a0.1 a1.1 a2.1 a3.1 σ
noncomputable def S_X3_leastClash (x : sL) : Option (sZ Int32) := if x.1 = 0 then U_X3_leastClash_0 x.2.1 x.2.2 else if x.1 = 16 then U_X3_leastClash_16 x.2.1 x.2.2 else if x.1 = 52 then U_X3_leastClash_52 x.2.1 x.2.2 else if x.1 = 73 then U_X3_leastClash_73 x.2.1 x.2.2 else if x.1 = 76 then U_X3_leastClash_76 x.2.1 x.2.2 else none
def Y_X3_leastClash (pc : Nat) : List Nat := if pc = 0 then [0, 1] else if pc = 16 then [0, 2, 3, 4] else if pc = 52 then [0, 2, 3, 4] else if pc = 73 then [0, 2, 4] else if pc = 76 then [0, 2, 3, 4] else []
noncomputable def F_X3_leastClash (v0 : Nat) (v1 : Int32) (σ : sS) : Option (Int32 × sS) := (s_is σ v0 3).bind fun _ => s_run S_X3_leastClash (0, [.ref v0, .int v1], σ)
theorem l_X3_leastClash_0 {v0 : Nat} {v1 : Int32} {σ : sS} {z : sZ Int32} (hf : T_X3_leastClash_0 v0 v1 σ = some z) : s_lz σ z := by
  unfold T_X3_leastClash_0 at hf
  obtain ⟨q1, hh, hf⟩ := s_bind hf
  refine s_lz.tr (l_X3_listMembers hh) ?_
  obtain ⟨q2, hh, hf⟩ := s_bind hf
  refine s_lz.tr (l_X3_markTogether hh) ?_
  cases hf
  exact s_le.rf
theorem l_X3_leastClash_16 {v0 : Nat} {v2 : Int32} {v3 : Int32} {v4 : Int32} {σ : sS} {z : sZ Int32} (hf : T_X3_leastClash_16 v0 v2 v3 v4 σ = some z) : s_lz σ z := by
  unfold T_X3_leastClash_16 at hf
  rcases s_ite hf with ⟨-, hf⟩ | ⟨-, hf⟩
  · rcases s_ite hf with ⟨-, hf⟩ | ⟨-, hf⟩
    · cases hf
      exact s_le.rf
    · obtain ⟨q1, hh, hf⟩ := s_bind hf
      refine s_lz.tr (l_X3_formulasOf hh) ?_
      cases hf
      exact s_le.rf
  · obtain ⟨x2, -, hf⟩ := s_bind hf
    obtain ⟨x3, -, hf⟩ := s_bind hf
    rcases s_ite hf with ⟨-, hf⟩ | ⟨-, hf⟩
    · cases hf
      exact s_le.rf
    · cases hf
      exact s_le.rf
theorem l_X3_leastClash_52 {v0 : Nat} {v2 : Int32} {v3 : Int32} {v4 : Int32} {w0 : Int32} {σ : sS} {z : sZ Int32} (hf : T_X3_leastClash_52 v0 v2 v3 v4 w0 σ = some z) : s_lz σ z := by
  unfold T_X3_leastClash_52 at hf
  rcases s_ite hf with ⟨-, hf⟩ | ⟨-, hf⟩
  · cases hf
    exact s_le.rf
  · rcases s_ite hf with ⟨-, hf⟩ | ⟨-, hf⟩
    · cases hf
      exact s_le.rf
    · obtain ⟨q1, hh, hf⟩ := s_bind hf
      refine s_lz.tr (l_X3_isBetter hh) ?_
      rcases s_ite hf with ⟨-, hf⟩ | ⟨-, hf⟩
      · cases hf
        exact s_le.rf
      · cases hf
        exact s_le.rf
theorem l_X3_leastClash_73 {v0 : Nat} {v2 : Int32} {v4 : Int32} {σ : sS} {z : sZ Int32} (hf : T_X3_leastClash_73 v0 v2 v4 σ = some z) : s_lz σ z := by
  unfold T_X3_leastClash_73 at hf
  cases hf
  exact s_le.rf
theorem l_X3_leastClash_76 {v0 : Nat} {v2 : Int32} {v3 : Int32} {v4 : Int32} {σ : sS} {z : sZ Int32} (hf : T_X3_leastClash_76 v0 v2 v3 v4 σ = some z) : s_lz σ z := by
  unfold T_X3_leastClash_76 at hf
  cases hf
  exact s_le.rf
theorem l_X3_leastClash_s {x : sL} {z : sZ Int32} (hs : S_X3_leastClash x = some z) : s_lz x.2.2 z := by
  obtain ⟨pc, vs, σ⟩ := x
  unfold S_X3_leastClash at hs
  dsimp only at hs ⊢
  rcases s_ite hs with ⟨c, hs⟩ | ⟨-, hs⟩
  · subst c
    unfold U_X3_leastClash_0 at hs
    obtain ⟨a0, g0, hs⟩ := s_bind hs
    obtain ⟨a1, g1, hs⟩ := s_bind hs
    obtain ⟨u9, ge, hs⟩ := s_bind hs
    exact l_X3_leastClash_0 hs
  rcases s_ite hs with ⟨c, hs⟩ | ⟨-, hs⟩
  · subst c
    unfold U_X3_leastClash_16 at hs
    obtain ⟨a0, g0, hs⟩ := s_bind hs
    obtain ⟨a1, g1, hs⟩ := s_bind hs
    obtain ⟨a2, g2, hs⟩ := s_bind hs
    obtain ⟨a3, g3, hs⟩ := s_bind hs
    obtain ⟨u9, ge, hs⟩ := s_bind hs
    exact l_X3_leastClash_16 hs
  rcases s_ite hs with ⟨c, hs⟩ | ⟨-, hs⟩
  · subst c
    unfold U_X3_leastClash_52 at hs
    obtain ⟨a0, g0, hs⟩ := s_bind hs
    obtain ⟨a1, g1, hs⟩ := s_bind hs
    obtain ⟨a2, g2, hs⟩ := s_bind hs
    obtain ⟨a3, g3, hs⟩ := s_bind hs
    obtain ⟨a4, g4, hs⟩ := s_bind hs
    obtain ⟨u9, ge, hs⟩ := s_bind hs
    exact l_X3_leastClash_52 hs
  rcases s_ite hs with ⟨c, hs⟩ | ⟨-, hs⟩
  · subst c
    unfold U_X3_leastClash_73 at hs
    obtain ⟨a0, g0, hs⟩ := s_bind hs
    obtain ⟨a1, g1, hs⟩ := s_bind hs
    obtain ⟨a2, g2, hs⟩ := s_bind hs
    obtain ⟨u9, ge, hs⟩ := s_bind hs
    exact l_X3_leastClash_73 hs
  rcases s_ite hs with ⟨c, hs⟩ | ⟨-, hs⟩
  · subst c
    unfold U_X3_leastClash_76 at hs
    obtain ⟨a0, g0, hs⟩ := s_bind hs
    obtain ⟨a1, g1, hs⟩ := s_bind hs
    obtain ⟨a2, g2, hs⟩ := s_bind hs
    obtain ⟨a3, g3, hs⟩ := s_bind hs
    obtain ⟨u9, ge, hs⟩ := s_bind hs
    exact l_X3_leastClash_76 hs
  cases hs
theorem l_X3_leastClash {v0 : Nat} {v1 : Int32} {σ : sS} {q : Int32 × sS} (h : F_X3_leastClash v0 v1 σ = some q) : s_le σ q.2 := by
  unfold F_X3_leastClash at h
  obtain ⟨-, -, h⟩ := s_bind h
  exact s_run_ind (V := fun x r => s_le x.2.2 r.2) (fun x z r hs hk => by
    have h9 := l_X3_leastClash_s hs
    cases z with
    | inl y => exact s_le.tr h9 hk
    | inr q => cases hk; exact h9) h
theorem b_X3_leastClash {v0 : Nat} {v1 : Int32} {σ : sS} {q : Int32 × sS} (h : F_X3_leastClash v0 v1 σ = some q) : ∃ fs, σ.1 v0 = some (.inr (3, fs)) := by
  unfold F_X3_leastClash at h
  obtain ⟨u, hu, -⟩ := s_bind h
  exact s_is_to hu
set_option maxRecDepth 100000 in
set_option maxHeartbeats 4000000 in
theorem v_X3_leastClash_0 {G : sG} {d : Nat} {vs0 : List Value} {σ0 : sS} {v0 : Nat} {v1 : Int32} {σ : sS} {z : sZ Int32} {r : Int32 × sS} (hf : T_X3_leastClash_0 v0 v1 σ = some z) (k : s_K G (d + 5) M_X3_leastClash vs0 σ0 Y_X3_leastClash e_I z r) : s_V G (d + 5) M_X3_leastClash vs0 σ0 Y_X3_leastClash (0, [.ref v0, .int v1], σ) (e_I r) := by
  have le0 : s_le σ (e_I r).2 := s_lek hem_I (l_X3_leastClash_0 hf) k
  refine ⟨le0, ?_⟩
  intro p e s m below meth c H locs cells slots ls X I hn1 hn2 hl
  have hn : cells + σ0.2.1 ≤ σ.2.1 ∧ slots + σ0.2.2.1 ≤ σ.2.2.1 := ⟨hn1, hn2⟩
  have hl : lv_has ls 6 [(0, .ref v0), (1, .int v1)] := hl
  have hx := X.1
  have hb : c.code = cX3_leastClash := X.2.1
  have hown : s.vm.findClass RX3 = some m.cls := X.2.2.2.2.2.1
  have hts := X.2.2.2.2.2.2.1
  refine W.eq (g2 := F0 m 0 ls []) rfl ?_
  unfold T_X3_leastClash_0 at hf
  obtain ⟨q1, h1, hf⟩ := s_bind hf
  obtain ⟨q2, h2, hf⟩ := s_bind hf
  cases hf
  have k : s_V G (d + 5) M_X3_leastClash vs0 σ0 Y_X3_leastClash (16, [.ref v0, .int q1.1, .int (-1), .int 1], q2.2) (e_I r) := k
  have le3 : s_le q2.2 (e_I r).2 := k.1
  have le4 := s_le.tr (l_X3_markTogether h2) le3
  refine lv_aload_n hx hb dX3_leastClash_0 rfl (lv_at hl 0 rfl) ?_
  refine lv_iload_n hx hb dX3_leastClash_1 rfl (lv_at hl 1 rfl) ?_
  refine r_callV (Y := M_X3_listMembers) (v := some (.int q1.1)) X I w_1476 my_X3_listMembers (by omega) (t_X3_listMembers (G := G) (d := d + 3) h1) (b_X3_listMembers h1) rfl rfl hl.1 rfl (Nat.le_of_ble_eq_true rfl) hn le4 dX3_leastClash_2 (fun H locs cells slots I hn1 hn2 => ?_)
  have I : s_I G q1.2 s H locs := I
  have hn : cells + σ0.2.1 ≤ q1.2.2.1 ∧ slots + σ0.2.2.1 ≤ q1.2.2.2.1 := ⟨hn1, hn2⟩
  refine lv_istore_n (lv' := [(2, .int q1.1), (0, .ref v0), (1, .int v1)]) hx hb dX3_leastClash_5 rfl hl (by decide) rfl (fun ls hl => ?_)
  refine lv_aload_n hx hb dX3_leastClash_6 rfl (lv_at hl 1 rfl) ?_
  refine lv_iload_n hx hb dX3_leastClash_7 rfl (lv_at hl 0 rfl) ?_
  refine r_callV (Y := M_X3_markTogether) (v := none) X I w_1531 my_X3_markTogether (by omega) (t_X3_markTogether (G := G) (d := d + 0) h2) (b_X3_markTogether h2) rfl rfl hl.1 rfl (Nat.le_of_ble_eq_true rfl) hn le3 dX3_leastClash_8 (fun H locs cells slots I hn1 hn2 => ?_)
  have I : s_I G q2.2 s H locs := I
  have hn : cells + σ0.2.1 ≤ q2.2.2.1 ∧ slots + σ0.2.2.1 ≤ q2.2.2.2.1 := ⟨hn1, hn2⟩
  refine lv_iconst (v := (-1)) hx hb dX3_leastClash_11 (by decide) ?_
  refine lv_istore_n (lv' := [(3, .int (-1)), (2, .int q1.1), (0, .ref v0), (1, .int v1)]) hx hb dX3_leastClash_12 rfl hl (by decide) rfl (fun ls hl => ?_)
  refine lv_iconst (v := 1) hx hb dX3_leastClash_13 (by decide) ?_
  refine lv_istore (lv' := [(4, .int 1), (3, .int (-1)), (2, .int q1.1), (0, .ref v0), (1, .int v1)]) hx hb dX3_leastClash_14 hl (by decide) rfl (fun ls hl => ?_)
  exact k.2 p e s m below meth c _ _ _ _ _ X I hn.1 hn.2 (lv_sub hl [3, 2, 1, 0] rfl)
set_option maxRecDepth 100000 in
set_option maxHeartbeats 4000000 in
theorem v_X3_leastClash_16 {G : sG} {d : Nat} {vs0 : List Value} {σ0 : sS} {v0 : Nat} {v2 : Int32} {v3 : Int32} {v4 : Int32} {σ : sS} {z : sZ Int32} {r : Int32 × sS} (hf : T_X3_leastClash_16 v0 v2 v3 v4 σ = some z) (k : s_K G (d + 5) M_X3_leastClash vs0 σ0 Y_X3_leastClash e_I z r) : s_V G (d + 5) M_X3_leastClash vs0 σ0 Y_X3_leastClash (16, [.ref v0, .int v2, .int v3, .int v4], σ) (e_I r) := by
  have le0 : s_le σ (e_I r).2 := s_lek hem_I (l_X3_leastClash_16 hf) k
  refine ⟨le0, ?_⟩
  intro p e s m below meth c H locs cells slots ls X I hn1 hn2 hl
  have hn : cells + σ0.2.1 ≤ σ.2.1 ∧ slots + σ0.2.2.1 ≤ σ.2.2.1 := ⟨hn1, hn2⟩
  have hl : lv_has ls 6 [(0, .ref v0), (2, .int v2), (3, .int v3), (4, .int v4)] := hl
  have hx := X.1
  have hb : c.code = cX3_leastClash := X.2.1
  have hown : s.vm.findClass RX3 = some m.cls := X.2.2.2.2.2.1
  have hts := X.2.2.2.2.2.2.1
  refine W.eq (g2 := F0 m 16 ls []) rfl ?_
  unfold T_X3_leastClash_16 at hf
  refine lv_iload hx hb dX3_leastClash_16 (lv_at hl 3 rfl) ?_
  refine lv_iconst (v := 1) hx hb dX3_leastClash_18 (by decide) ?_
  refine lv_iload_n hx hb dX3_leastClash_19 rfl (lv_at hl 1 rfl) ?_
  refine lv_ishl hx hb dX3_leastClash_20 ?_
  rcases s_ite hf with ⟨c1, hf⟩ | ⟨c1, hf⟩
  · refine lv_icmp_ge (tgt := 82) hx hb dX3_leastClash_21 (by decide) (fun _ => ?_) (fun n => absurd c1 n)
    refine lv_iload_n hx hb dX3_leastClash_82 rfl (lv_at hl 2 rfl) ?_
    refine lv_iconst (v := (-1)) hx hb dX3_leastClash_83 (by decide) ?_
    rcases s_ite hf with ⟨c2, hf⟩ | ⟨c2, hf⟩
    · refine lv_icmp_ne (tgt := 91) hx hb dX3_leastClash_84 (by decide) (fun n => absurd c2 n) (fun _ => ?_)
      cases hf
      have k : _ = r := k
      subst k
      refine lv_iconst (v := 0) hx hb dX3_leastClash_87 (by decide) ?_
      refine lv_goto (tgt := 96) hx hb dX3_leastClash_88 (by decide) ?_
      exact r_iret X I rfl rfl rfl hn dX3_leastClash_96
    · refine lv_icmp_ne (tgt := 91) hx hb dX3_leastClash_84 (by decide) (fun _ => ?_) (fun n => absurd n c2)
      obtain ⟨q1, h3, hf⟩ := s_bind hf
      cases hf
      have k : _ = r := k
      subst k
      have le4 : s_le q1.2 q1.2 := s_le.rf
      refine lv_aload_n hx hb dX3_leastClash_91 rfl (lv_at hl 0 rfl) ?_
      refine lv_iload_n hx hb dX3_leastClash_92 rfl (lv_at hl 2 rfl) ?_
      refine r_callV (Y := M_X3_formulasOf) (v := some (.int q1.1)) X I w_1489 my_X3_formulasOf (by omega) (t_X3_formulasOf (G := G) (d := d + 3) h3) (b_X3_formulasOf h3) rfl rfl hl.1 rfl (Nat.le_of_ble_eq_true rfl) hn le4 dX3_leastClash_93 (fun H locs cells slots I hn1 hn2 => ?_)
      have I : s_I G q1.2 s H locs := I
      have hn : cells + σ0.2.1 ≤ q1.2.2.1 ∧ slots + σ0.2.2.1 ≤ q1.2.2.2.1 := ⟨hn1, hn2⟩
      exact r_iret X I rfl rfl rfl hn dX3_leastClash_96
  · refine lv_icmp_ge (tgt := 82) hx hb dX3_leastClash_21 (by decide) (fun n => absurd n c1) (fun _ => ?_)
    obtain ⟨x2, h5, hf⟩ := s_bind hf
    obtain ⟨x3, h6, hf⟩ := s_bind hf
    refine lv_aload_n hx hb dX3_leastClash_24 rfl (lv_at hl 0 rfl) ?_
    refine r_gr X I fl_X3_27 h5 dX3_leastClash_25 ?_
    refine lv_iload hx hb dX3_leastClash_28 (lv_at hl 3 rfl) ?_
    refine lv_bipush (v := 6) hx hb dX3_leastClash_30 (by decide) ?_
    refine lv_ishr hx hb dX3_leastClash_32 ?_
    refine r_lald X I h6 dX3_leastClash_33 ?_
    refine lv_iload hx hb dX3_leastClash_34 (lv_at hl 3 rfl) ?_
    refine lv_bipush (v := 63) hx hb dX3_leastClash_36 (by decide) ?_
    refine lv_iand hx hb dX3_leastClash_38 ?_
    refine lv_lushr hx hb dX3_leastClash_39 rfl ?_
    refine lv_lconst (v := 1) hx hb dX3_leastClash_40 (by decide) ?_
    refine lv_land hx hb dX3_leastClash_41 ?_
    refine lv_lconst (v := 0) hx hb dX3_leastClash_42 (by decide) ?_
    refine W.lcmp hx hb dX3_leastClash_43 ?_
    rcases s_ite hf with ⟨c7, hf⟩ | ⟨c7, hf⟩
    · refine lv_if_ne (tgt := 51) hx hb dX3_leastClash_44 (by decide) (fun n => absurd c7 n) (fun _ => ?_)
      cases hf
      have k : s_V G (d + 5) M_X3_leastClash vs0 σ0 Y_X3_leastClash (52, [.ref v0, .int v2, .int v3, .int v4, .int 1], σ) (e_I r) := k
      refine lv_iconst (v := 1) hx hb dX3_leastClash_47 (by decide) ?_
      refine lv_goto (tgt := 52) hx hb dX3_leastClash_48 (by decide) ?_
      exact k.2 p e s m below meth c _ _ _ _ _ X I hn.1 hn.2 (lv_sub hl [0, 1, 2, 3] rfl)
    · refine lv_if_ne (tgt := 51) hx hb dX3_leastClash_44 (by decide) (fun _ => ?_) (fun n => absurd n c7)
      cases hf
      have k : s_V G (d + 5) M_X3_leastClash vs0 σ0 Y_X3_leastClash (52, [.ref v0, .int v2, .int v3, .int v4, .int 0], σ) (e_I r) := k
      refine lv_iconst (v := 0) hx hb dX3_leastClash_51 (by decide) ?_
      exact k.2 p e s m below meth c _ _ _ _ _ X I hn.1 hn.2 (lv_sub hl [0, 1, 2, 3] rfl)
set_option maxRecDepth 100000 in
set_option maxHeartbeats 4000000 in
theorem v_X3_leastClash_52 {G : sG} {d : Nat} {vs0 : List Value} {σ0 : sS} {v0 : Nat} {v2 : Int32} {v3 : Int32} {v4 : Int32} {w0 : Int32} {σ : sS} {z : sZ Int32} {r : Int32 × sS} (hf : T_X3_leastClash_52 v0 v2 v3 v4 w0 σ = some z) (k : s_K G (d + 5) M_X3_leastClash vs0 σ0 Y_X3_leastClash e_I z r) : s_V G (d + 5) M_X3_leastClash vs0 σ0 Y_X3_leastClash (52, [.ref v0, .int v2, .int v3, .int v4, .int w0], σ) (e_I r) := by
  have le0 : s_le σ (e_I r).2 := s_lek hem_I (l_X3_leastClash_52 hf) k
  refine ⟨le0, ?_⟩
  intro p e s m below meth c H locs cells slots ls X I hn1 hn2 hl
  have hn : cells + σ0.2.1 ≤ σ.2.1 ∧ slots + σ0.2.2.1 ≤ σ.2.2.1 := ⟨hn1, hn2⟩
  have hl : lv_has ls 6 [(0, .ref v0), (2, .int v2), (3, .int v3), (4, .int v4)] := hl
  have hx := X.1
  have hb : c.code = cX3_leastClash := X.2.1
  have hown : s.vm.findClass RX3 = some m.cls := X.2.2.2.2.2.1
  have hts := X.2.2.2.2.2.2.1
  refine W.eq (g2 := F0 m 52 ls [.int w0]) rfl ?_
  unfold T_X3_leastClash_52 at hf
  refine lv_istore (lv' := [(5, .int w0), (0, .ref v0), (2, .int v2), (3, .int v3), (4, .int v4)]) hx hb dX3_leastClash_52 hl (by decide) rfl (fun ls hl => ?_)
  refine lv_iload hx hb dX3_leastClash_54 (lv_at hl 0 rfl) ?_
  rcases s_ite hf with ⟨c1, hf⟩ | ⟨c1, hf⟩
  · refine lv_if_eq (tgt := 76) hx hb dX3_leastClash_56 (by decide) (fun _ => ?_) (fun n => absurd c1 n)
    cases hf
    have k : s_V G (d + 5) M_X3_leastClash vs0 σ0 Y_X3_leastClash (76, [.ref v0, .int v2, .int v3, .int v4], σ) (e_I r) := k
    exact k.2 p e s m below meth c _ _ _ _ _ X I hn.1 hn.2 (lv_sub hl [1, 2, 3, 4] rfl)
  · refine lv_if_eq (tgt := 76) hx hb dX3_leastClash_56 (by decide) (fun n => absurd n c1) (fun _ => ?_)
    refine lv_iload_n hx hb dX3_leastClash_59 rfl (lv_at hl 3 rfl) ?_
    refine lv_iconst (v := (-1)) hx hb dX3_leastClash_60 (by decide) ?_
    rcases s_ite hf with ⟨c2, hf⟩ | ⟨c2, hf⟩
    · refine lv_icmp_eq (tgt := 73) hx hb dX3_leastClash_61 (by decide) (fun _ => ?_) (fun n => absurd c2 n)
      cases hf
      have k : s_V G (d + 5) M_X3_leastClash vs0 σ0 Y_X3_leastClash (73, [.ref v0, .int v2, .int v4], σ) (e_I r) := k
      exact k.2 p e s m below meth c _ _ _ _ _ X I hn.1 hn.2 (lv_sub hl [1, 2, 4] rfl)
    · refine lv_icmp_eq (tgt := 73) hx hb dX3_leastClash_61 (by decide) (fun n => absurd n c2) (fun _ => ?_)
      obtain ⟨q1, h3, hf⟩ := s_bind hf
      have le4 : s_le q1.2 (e_I r).2 := by
        refine s_lek hem_I ?_ k
        rcases s_ite hf with ⟨-, hf⟩ | ⟨-, hf⟩
        · cases hf
          exact s_le.rf
        · cases hf
          exact s_le.rf
      refine lv_iload hx hb dX3_leastClash_64 (lv_at hl 4 rfl) ?_
      refine lv_iload_n hx hb dX3_leastClash_66 rfl (lv_at hl 3 rfl) ?_
      refine r_callS (Y := M_X3_isBetter) (v := some (.int q1.1)) X I w_1485 my_X3_isBetter (by omega) (t_X3_isBetter (G := G) (d := d + 2) h3) rfl rfl hl.1 rfl (Nat.le_of_ble_eq_true rfl) hn le4 dX3_leastClash_67 (fun H locs cells slots I hn1 hn2 => ?_)
      have I : s_I G q1.2 s H locs := I
      have hn : cells + σ0.2.1 ≤ q1.2.2.1 ∧ slots + σ0.2.2.1 ≤ q1.2.2.2.1 := ⟨hn1, hn2⟩
      rcases s_ite hf with ⟨c5, hf⟩ | ⟨c5, hf⟩
      · refine lv_if_eq (tgt := 76) hx hb dX3_leastClash_70 (by decide) (fun _ => ?_) (fun n => absurd c5 n)
        cases hf
        have k : s_V G (d + 5) M_X3_leastClash vs0 σ0 Y_X3_leastClash (76, [.ref v0, .int v2, .int v3, .int v4], q1.2) (e_I r) := k
        exact k.2 p e s m below meth c _ _ _ _ _ X I hn.1 hn.2 (lv_sub hl [1, 2, 3, 4] rfl)
      · refine lv_if_eq (tgt := 76) hx hb dX3_leastClash_70 (by decide) (fun n => absurd n c5) (fun _ => ?_)
        cases hf
        have k : s_V G (d + 5) M_X3_leastClash vs0 σ0 Y_X3_leastClash (73, [.ref v0, .int v2, .int v4], q1.2) (e_I r) := k
        exact k.2 p e s m below meth c _ _ _ _ _ X I hn.1 hn.2 (lv_sub hl [1, 2, 4] rfl)
set_option maxRecDepth 100000 in
set_option maxHeartbeats 4000000 in
theorem v_X3_leastClash_73 {G : sG} {d : Nat} {vs0 : List Value} {σ0 : sS} {v0 : Nat} {v2 : Int32} {v4 : Int32} {σ : sS} {z : sZ Int32} {r : Int32 × sS} (hf : T_X3_leastClash_73 v0 v2 v4 σ = some z) (k : s_K G (d + 5) M_X3_leastClash vs0 σ0 Y_X3_leastClash e_I z r) : s_V G (d + 5) M_X3_leastClash vs0 σ0 Y_X3_leastClash (73, [.ref v0, .int v2, .int v4], σ) (e_I r) := by
  have le0 : s_le σ (e_I r).2 := s_lek hem_I (l_X3_leastClash_73 hf) k
  refine ⟨le0, ?_⟩
  intro p e s m below meth c H locs cells slots ls X I hn1 hn2 hl
  have hn : cells + σ0.2.1 ≤ σ.2.1 ∧ slots + σ0.2.2.1 ≤ σ.2.2.1 := ⟨hn1, hn2⟩
  have hl : lv_has ls 6 [(0, .ref v0), (2, .int v2), (4, .int v4)] := hl
  have hx := X.1
  have hb : c.code = cX3_leastClash := X.2.1
  have hown : s.vm.findClass RX3 = some m.cls := X.2.2.2.2.2.1
  have hts := X.2.2.2.2.2.2.1
  refine W.eq (g2 := F0 m 73 ls []) rfl ?_
  unfold T_X3_leastClash_73 at hf
  cases hf
  have k : s_V G (d + 5) M_X3_leastClash vs0 σ0 Y_X3_leastClash (76, [.ref v0, .int v2, .int v4, .int v4], σ) (e_I r) := k
  refine lv_iload hx hb dX3_leastClash_73 (lv_at hl 2 rfl) ?_
  refine lv_istore_n (lv' := [(3, .int v4), (0, .ref v0), (2, .int v2), (4, .int v4)]) hx hb dX3_leastClash_75 rfl hl (by decide) rfl (fun ls hl => ?_)
  exact k.2 p e s m below meth c _ _ _ _ _ X I hn.1 hn.2 (lv_sub hl [1, 2, 0, 3] rfl)
set_option maxRecDepth 100000 in
set_option maxHeartbeats 4000000 in
theorem v_X3_leastClash_76 {G : sG} {d : Nat} {vs0 : List Value} {σ0 : sS} {v0 : Nat} {v2 : Int32} {v3 : Int32} {v4 : Int32} {σ : sS} {z : sZ Int32} {r : Int32 × sS} (hf : T_X3_leastClash_76 v0 v2 v3 v4 σ = some z) (k : s_K G (d + 5) M_X3_leastClash vs0 σ0 Y_X3_leastClash e_I z r) : s_V G (d + 5) M_X3_leastClash vs0 σ0 Y_X3_leastClash (76, [.ref v0, .int v2, .int v3, .int v4], σ) (e_I r) := by
  have le0 : s_le σ (e_I r).2 := s_lek hem_I (l_X3_leastClash_76 hf) k
  refine ⟨le0, ?_⟩
  intro p e s m below meth c H locs cells slots ls X I hn1 hn2 hl
  have hn : cells + σ0.2.1 ≤ σ.2.1 ∧ slots + σ0.2.2.1 ≤ σ.2.2.1 := ⟨hn1, hn2⟩
  have hl : lv_has ls 6 [(0, .ref v0), (2, .int v2), (3, .int v3), (4, .int v4)] := hl
  have hx := X.1
  have hb : c.code = cX3_leastClash := X.2.1
  have hown : s.vm.findClass RX3 = some m.cls := X.2.2.2.2.2.1
  have hts := X.2.2.2.2.2.2.1
  refine W.eq (g2 := F0 m 76 ls []) rfl ?_
  unfold T_X3_leastClash_76 at hf
  cases hf
  have k : s_V G (d + 5) M_X3_leastClash vs0 σ0 Y_X3_leastClash (16, [.ref v0, .int v2, .int v3, .int (v4 + 1)], σ) (e_I r) := k
  refine lv_iinc (v := (v4 + 1)) (lv' := [(4, .int (v4 + 1)), (0, .ref v0), (2, .int v2), (3, .int v3)]) hx hb dX3_leastClash_76 hl (k := 3) rfl rfl (by decide) rfl (fun ls hl => ?_)
  refine lv_goto (tgt := 16) hx hb dX3_leastClash_79 (by decide) ?_
  exact k.2 p e s m below meth c _ _ _ _ _ X I hn.1 hn.2 (lv_sub hl [1, 2, 3, 0] rfl)
theorem v_X3_leastClash {G : sG} {d : Nat} {vs0 : List Value} {σ0 : sS} {x : sL} {z : sZ Int32} {r : Int32 × sS} (hs : S_X3_leastClash x = some z) (k : s_K G (d + 5) M_X3_leastClash vs0 σ0 Y_X3_leastClash e_I z r) : s_V G (d + 5) M_X3_leastClash vs0 σ0 Y_X3_leastClash x (e_I r) := by
  obtain ⟨pc, vs, σ⟩ := x
  unfold S_X3_leastClash at hs
  dsimp only at hs
  rcases s_ite hs with ⟨c, hs⟩ | ⟨-, hs⟩
  · subst c
    unfold U_X3_leastClash_0 at hs
    obtain ⟨a0, g0, hs⟩ := s_bind hs
    obtain ⟨a1, g1, hs⟩ := s_bind hs
    obtain ⟨u9, ge, hs⟩ := s_bind hs
    rw [g_r_to g0, g_i_to g1, g_e_to ge]
    exact v_X3_leastClash_0 hs k
  rcases s_ite hs with ⟨c, hs⟩ | ⟨-, hs⟩
  · subst c
    unfold U_X3_leastClash_16 at hs
    obtain ⟨a0, g0, hs⟩ := s_bind hs
    obtain ⟨a1, g1, hs⟩ := s_bind hs
    obtain ⟨a2, g2, hs⟩ := s_bind hs
    obtain ⟨a3, g3, hs⟩ := s_bind hs
    obtain ⟨u9, ge, hs⟩ := s_bind hs
    rw [g_r_to g0, g_i_to g1, g_i_to g2, g_i_to g3, g_e_to ge]
    exact v_X3_leastClash_16 hs k
  rcases s_ite hs with ⟨c, hs⟩ | ⟨-, hs⟩
  · subst c
    unfold U_X3_leastClash_52 at hs
    obtain ⟨a0, g0, hs⟩ := s_bind hs
    obtain ⟨a1, g1, hs⟩ := s_bind hs
    obtain ⟨a2, g2, hs⟩ := s_bind hs
    obtain ⟨a3, g3, hs⟩ := s_bind hs
    obtain ⟨a4, g4, hs⟩ := s_bind hs
    obtain ⟨u9, ge, hs⟩ := s_bind hs
    rw [g_r_to g0, g_i_to g1, g_i_to g2, g_i_to g3, g_i_to g4, g_e_to ge]
    exact v_X3_leastClash_52 hs k
  rcases s_ite hs with ⟨c, hs⟩ | ⟨-, hs⟩
  · subst c
    unfold U_X3_leastClash_73 at hs
    obtain ⟨a0, g0, hs⟩ := s_bind hs
    obtain ⟨a1, g1, hs⟩ := s_bind hs
    obtain ⟨a2, g2, hs⟩ := s_bind hs
    obtain ⟨u9, ge, hs⟩ := s_bind hs
    rw [g_r_to g0, g_i_to g1, g_i_to g2, g_e_to ge]
    exact v_X3_leastClash_73 hs k
  rcases s_ite hs with ⟨c, hs⟩ | ⟨-, hs⟩
  · subst c
    unfold U_X3_leastClash_76 at hs
    obtain ⟨a0, g0, hs⟩ := s_bind hs
    obtain ⟨a1, g1, hs⟩ := s_bind hs
    obtain ⟨a2, g2, hs⟩ := s_bind hs
    obtain ⟨a3, g3, hs⟩ := s_bind hs
    obtain ⟨u9, ge, hs⟩ := s_bind hs
    rw [g_r_to g0, g_i_to g1, g_i_to g2, g_i_to g3, g_e_to ge]
    exact v_X3_leastClash_76 hs k
  cases hs
theorem t_X3_leastClash {G : sG} {d : Nat} {v0 : Nat} {v1 : Int32} {σ : sS} {q : Int32 × sS} (h : F_X3_leastClash v0 v1 σ = some q) : s_T G (d + 5) M_X3_leastClash [.ref v0, .int v1] σ (e_I q) := by
  unfold F_X3_leastClash at h
  obtain ⟨-, -, h⟩ := s_bind h
  exact s_ofV rfl (by decide) (Nat.le_of_ble_eq_true rfl) rfl rfl (s_run_ind (V := fun x r => s_V G (d + 5) M_X3_leastClash [.ref v0, .int v1] σ Y_X3_leastClash x (e_I r)) (fun x z r hs hk => v_X3_leastClash hs (by cases z <;> exact hk)) h)
/-! X7_core -/
noncomputable def T_X7_core_0 (v0 : Nat) (v1 : Int32) (σ : sS) : Option (sZ (Int32 ⊕ String)) :=
  (F_X7_needSet v0 v1 σ).bind fun q1 => s_sum q1.1 (fun x2 => (s_fr q1.2 v0 7 4).bind fun x4 =>
  (F_X3_leastClash x4 x2 q1.2).bind fun q5 =>
  some (.inr (.inl q5.1, q5.2))) (fun E3 => some (.inr (.inr E3, q1.2)))
noncomputable def U_X7_core_0 (vs : List Value) (σ : sS) : Option (sZ (Int32 ⊕ String)) := (g_r vs).bind fun a0 => (g_i a0.2).bind fun a1 => (g_e a1.2).bind fun _ => T_X7_core_0 a0.1 a1.1 σ
noncomputable def S_X7_core (x : sL) : Option (sZ (Int32 ⊕ String)) := if x.1 = 0 then U_X7_core_0 x.2.1 x.2.2 else none
def Y_X7_core (pc : Nat) : List Nat := if pc = 0 then [0, 1] else []
noncomputable def F_X7_core (v0 : Nat) (v1 : Int32) (σ : sS) : Option ((Int32 ⊕ String) × sS) := (s_is σ v0 7).bind fun _ => s_run S_X7_core (0, [.ref v0, .int v1], σ)
theorem l_X7_core_0 {v0 : Nat} {v1 : Int32} {σ : sS} {z : sZ (Int32 ⊕ String)} (hf : T_X7_core_0 v0 v1 σ = some z) : s_lz σ z := by
  unfold T_X7_core_0 at hf
  obtain ⟨q1, hh, hf⟩ := s_bind hf
  refine s_lz.tr (l_X7_needSet hh) ?_
  rcases s_sum_some hf with ⟨x2, -, hf⟩ | ⟨E3, -, hf⟩
  · obtain ⟨x4, -, hf⟩ := s_bind hf
    obtain ⟨q5, hh, hf⟩ := s_bind hf
    refine s_lz.tr (l_X3_leastClash hh) ?_
    cases hf
    exact s_le.rf
  · cases hf
    exact s_le.rf
theorem l_X7_core_s {x : sL} {z : sZ (Int32 ⊕ String)} (hs : S_X7_core x = some z) : s_lz x.2.2 z := by
  obtain ⟨pc, vs, σ⟩ := x
  unfold S_X7_core at hs
  dsimp only at hs ⊢
  rcases s_ite hs with ⟨c, hs⟩ | ⟨-, hs⟩
  · subst c
    unfold U_X7_core_0 at hs
    obtain ⟨a0, g0, hs⟩ := s_bind hs
    obtain ⟨a1, g1, hs⟩ := s_bind hs
    obtain ⟨u9, ge, hs⟩ := s_bind hs
    exact l_X7_core_0 hs
  cases hs
theorem l_X7_core {v0 : Nat} {v1 : Int32} {σ : sS} {q : (Int32 ⊕ String) × sS} (h : F_X7_core v0 v1 σ = some q) : s_le σ q.2 := by
  unfold F_X7_core at h
  obtain ⟨-, -, h⟩ := s_bind h
  exact s_run_ind (V := fun x r => s_le x.2.2 r.2) (fun x z r hs hk => by
    have h9 := l_X7_core_s hs
    cases z with
    | inl y => exact s_le.tr h9 hk
    | inr q => cases hk; exact h9) h
theorem b_X7_core {v0 : Nat} {v1 : Int32} {σ : sS} {q : (Int32 ⊕ String) × sS} (h : F_X7_core v0 v1 σ = some q) : ∃ fs, σ.1 v0 = some (.inr (7, fs)) := by
  unfold F_X7_core at h
  obtain ⟨u, hu, -⟩ := s_bind h
  exact s_is_to hu
set_option maxRecDepth 100000 in
set_option maxHeartbeats 4000000 in
theorem v_X7_core_0 {G : sG} {d : Nat} {vs0 : List Value} {σ0 : sS} {v0 : Nat} {v1 : Int32} {σ : sS} {z : sZ (Int32 ⊕ String)} {r : (Int32 ⊕ String) × sS} (hf : T_X7_core_0 v0 v1 σ = some z) (k : s_K G (d + 6) M_X7_core vs0 σ0 Y_X7_core e_IX z r) : s_V G (d + 6) M_X7_core vs0 σ0 Y_X7_core (0, [.ref v0, .int v1], σ) (e_IX r) := by
  have le0 : s_le σ (e_IX r).2 := s_lek hem_IX (l_X7_core_0 hf) k
  refine ⟨le0, ?_⟩
  intro p e s m below meth c H locs cells slots ls X I hn1 hn2 hl
  have hn : cells + σ0.2.1 ≤ σ.2.1 ∧ slots + σ0.2.2.1 ≤ σ.2.2.1 := ⟨hn1, hn2⟩
  have hl : lv_has ls 3 [(0, .ref v0), (1, .int v1)] := hl
  have hx := X.1
  have hb : c.code = cX7_core := X.2.1
  have hown : s.vm.findClass RX7 = some m.cls := X.2.2.2.2.2.1
  have hts := X.2.2.2.2.2.2.1
  refine W.eq (g2 := F0 m 0 ls []) rfl ?_
  unfold T_X7_core_0 at hf
  obtain ⟨q1, h1, hf⟩ := s_bind hf
  refine lv_aload_n hx hb dX7_core_0 rfl (lv_at hl 0 rfl) ?_
  refine lv_iload_n hx hb dX7_core_1 rfl (lv_at hl 1 rfl) ?_
  rcases s_sum_some hf with ⟨x2, hq2, hf⟩ | ⟨E3, hq2, hf⟩
  · have le3 : s_le q1.2 (e_IX r).2 := by
      refine s_lek hem_IX ?_ k
      obtain ⟨x4, -, hf⟩ := s_bind hf
      obtain ⟨q5, hh, hf⟩ := s_bind hf
      refine s_lz.tr (l_X3_leastClash hh) ?_
      cases hf
      exact s_le.rf
    refine r_callV (Y := M_X7_needSet) (v := some (.int x2)) X I w_1467 my_X7_needSet (by omega) (t_X7_needSet (G := G) (d := d + 3) h1) (b_X7_needSet h1) (e_IX_l hq2) rfl hl.1 rfl (Nat.le_of_ble_eq_true rfl) hn le3 dX7_core_2 (fun H locs cells slots I hn1 hn2 => ?_)
    have I : s_I G q1.2 s H locs := I
    have hn : cells + σ0.2.1 ≤ q1.2.2.1 ∧ slots + σ0.2.2.1 ≤ q1.2.2.2.1 := ⟨hn1, hn2⟩
    obtain ⟨x4, h4, hf⟩ := s_bind hf
    obtain ⟨q5, h5, hf⟩ := s_bind hf
    cases hf
    have k : _ = r := k
    subst k
    have le6 : s_le q5.2 q5.2 := s_le.rf
    refine lv_istore_n (lv' := [(2, .int x2), (0, .ref v0), (1, .int v1)]) hx hb dX7_core_5 rfl hl (by decide) rfl (fun ls hl => ?_)
    refine lv_aload_n hx hb dX7_core_6 rfl (lv_at hl 1 rfl) ?_
    refine r_gr X I fl_X7_40 h4 dX7_core_7 ?_
    refine lv_iload_n hx hb dX7_core_10 rfl (lv_at hl 0 rfl) ?_
    refine r_callV (Y := M_X3_leastClash) (v := some (.int q5.1)) X I w_1527 my_X3_leastClash (by omega) (t_X3_leastClash (G := G) (d := d + 0) h5) (b_X3_leastClash h5) rfl rfl hl.1 rfl (Nat.le_of_ble_eq_true rfl) hn le6 dX7_core_11 (fun H locs cells slots I hn1 hn2 => ?_)
    have I : s_I G q5.2 s H locs := I
    have hn : cells + σ0.2.1 ≤ q5.2.2.1 ∧ slots + σ0.2.2.1 ≤ q5.2.2.2.1 := ⟨hn1, hn2⟩
    exact r_iret X I rfl rfl rfl hn dX7_core_14
  · cases hf
    have k : _ = r := k
    subst k
    exact r_callVx (Y := M_X7_needSet) X I rfl w_1467 my_X7_needSet (by omega) (t_X7_needSet (G := G) (d := d + 3) h1) (b_X7_needSet h1) (e_IX_r hq2) rfl hl.1 rfl (Nat.le_of_ble_eq_true rfl) hn rfl dX7_core_2
theorem v_X7_core {G : sG} {d : Nat} {vs0 : List Value} {σ0 : sS} {x : sL} {z : sZ (Int32 ⊕ String)} {r : (Int32 ⊕ String) × sS} (hs : S_X7_core x = some z) (k : s_K G (d + 6) M_X7_core vs0 σ0 Y_X7_core e_IX z r) : s_V G (d + 6) M_X7_core vs0 σ0 Y_X7_core x (e_IX r) := by
  obtain ⟨pc, vs, σ⟩ := x
  unfold S_X7_core at hs
  dsimp only at hs
  rcases s_ite hs with ⟨c, hs⟩ | ⟨-, hs⟩
  · subst c
    unfold U_X7_core_0 at hs
    obtain ⟨a0, g0, hs⟩ := s_bind hs
    obtain ⟨a1, g1, hs⟩ := s_bind hs
    obtain ⟨u9, ge, hs⟩ := s_bind hs
    rw [g_r_to g0, g_i_to g1, g_e_to ge]
    exact v_X7_core_0 hs k
  cases hs
theorem t_X7_core {G : sG} {d : Nat} {v0 : Nat} {v1 : Int32} {σ : sS} {q : (Int32 ⊕ String) × sS} (h : F_X7_core v0 v1 σ = some q) : s_T G (d + 6) M_X7_core [.ref v0, .int v1] σ (e_IX q) := by
  unfold F_X7_core at h
  obtain ⟨-, -, h⟩ := s_bind h
  exact s_ofV rfl (by decide) (Nat.le_of_ble_eq_true rfl) rfl rfl (s_run_ind (V := fun x r => s_V G (d + 6) M_X7_core [.ref v0, .int v1] σ Y_X7_core x (e_IX r)) (fun x z r hs hk => v_X7_core hs (by cases z <;> exact hk)) h)
/-! L_core -/
noncomputable def T_L_core_0 (v0 : Nat) (v1 : Int32) (v2 : Nat) (σ : sS) : Option (sZ Int32) :=
  (F_X7_core v0 v1 σ).bind fun q1 => s_sum q1.1 (fun x2 => (s_sl q1.2 v2 0 ((x2 : Int32).toInt64)).bind fun σ4 =>
  some (.inr (0, σ4))) (fun E3 => if E3 = "java/lang/IllegalArgumentException" then (some (.inr (1, q1.2))) else none)
noncomputable def U_L_core_0 (vs : List Value) (σ : sS) : Option (sZ Int32) := (g_r vs).bind fun a0 => (g_i a0.2).bind fun a1 => (g_r a1.2).bind fun a2 => (g_e a2.2).bind fun _ => T_L_core_0 a0.1 a1.1 a2.1 σ
noncomputable def S_L_core (x : sL) : Option (sZ Int32) := if x.1 = 0 then U_L_core_0 x.2.1 x.2.2 else none
def Y_L_core (pc : Nat) : List Nat := if pc = 0 then [0, 1, 2] else []
noncomputable def F_L_core (v0 : Nat) (v1 : Int32) (v2 : Nat) (σ : sS) : Option (Int32 × sS) := s_run S_L_core (0, [.ref v0, .int v1, .ref v2], σ)
theorem l_L_core_0 {v0 : Nat} {v1 : Int32} {v2 : Nat} {σ : sS} {z : sZ Int32} (hf : T_L_core_0 v0 v1 v2 σ = some z) : s_lz σ z := by
  unfold T_L_core_0 at hf
  obtain ⟨q1, hh, hf⟩ := s_bind hf
  refine s_lz.tr (l_X7_core hh) ?_
  rcases s_sum_some hf with ⟨x2, -, hf⟩ | ⟨E3, -, hf⟩
  · obtain ⟨σ4, hh, hf⟩ := s_bind hf
    refine s_lz.tr (s_le2 (s_sl_2 hh)) ?_
    cases hf
    exact s_le.rf
  · rcases s_ite hf with ⟨-, hf⟩ | ⟨-, hf⟩
    · cases hf
      exact s_le.rf
    cases hf
theorem l_L_core_s {x : sL} {z : sZ Int32} (hs : S_L_core x = some z) : s_lz x.2.2 z := by
  obtain ⟨pc, vs, σ⟩ := x
  unfold S_L_core at hs
  dsimp only at hs ⊢
  rcases s_ite hs with ⟨c, hs⟩ | ⟨-, hs⟩
  · subst c
    unfold U_L_core_0 at hs
    obtain ⟨a0, g0, hs⟩ := s_bind hs
    obtain ⟨a1, g1, hs⟩ := s_bind hs
    obtain ⟨a2, g2, hs⟩ := s_bind hs
    obtain ⟨u9, ge, hs⟩ := s_bind hs
    exact l_L_core_0 hs
  cases hs
theorem l_L_core {v0 : Nat} {v1 : Int32} {v2 : Nat} {σ : sS} {q : Int32 × sS} (h : F_L_core v0 v1 v2 σ = some q) : s_le σ q.2 := by
  unfold F_L_core at h
  exact s_run_ind (V := fun x r => s_le x.2.2 r.2) (fun x z r hs hk => by
    have h9 := l_L_core_s hs
    cases z with
    | inl y => exact s_le.tr h9 hk
    | inr q => cases hk; exact h9) h
set_option maxRecDepth 100000 in
set_option maxHeartbeats 4000000 in
theorem v_L_core_0 {G : sG} {d : Nat} {vs0 : List Value} {σ0 : sS} {v0 : Nat} {v1 : Int32} {v2 : Nat} {σ : sS} {z : sZ Int32} {r : Int32 × sS} (hf : T_L_core_0 v0 v1 v2 σ = some z) (k : s_K G (d + 7) M_L_core vs0 σ0 Y_L_core e_I z r) : s_V G (d + 7) M_L_core vs0 σ0 Y_L_core (0, [.ref v0, .int v1, .ref v2], σ) (e_I r) := by
  have le0 : s_le σ (e_I r).2 := s_lek hem_I (l_L_core_0 hf) k
  refine ⟨le0, ?_⟩
  intro p e s m below meth c H locs cells slots ls X I hn1 hn2 hl
  have hn : cells + σ0.2.1 ≤ σ.2.1 ∧ slots + σ0.2.2.1 ≤ σ.2.2.1 := ⟨hn1, hn2⟩
  have hl : lv_has ls 4 [(0, .ref v0), (1, .int v1), (2, .ref v2)] := hl
  have hx := X.1
  have hb : c.code = cL_core := X.2.1
  have hown : s.vm.findClass RL = some m.cls := X.2.2.2.2.2.1
  have hts := X.2.2.2.2.2.2.1
  refine W.eq (g2 := F0 m 0 ls []) rfl ?_
  unfold T_L_core_0 at hf
  obtain ⟨q1, h1, hf⟩ := s_bind hf
  refine lv_aload_n hx hb dL_core_0 rfl (lv_at hl 2 rfl) ?_
  refine lv_iconst (v := 0) hx hb dL_core_1 (by decide) ?_
  refine lv_aload_n hx hb dL_core_2 rfl (lv_at hl 0 rfl) ?_
  refine lv_iload_n hx hb dL_core_3 rfl (lv_at hl 1 rfl) ?_
  rcases s_sum_some hf with ⟨x2, hq2, hf⟩ | ⟨E3, hq2, hf⟩
  · have le3 : s_le q1.2 (e_I r).2 := by
      refine s_lek hem_I ?_ k
      obtain ⟨σ4, hh, hf⟩ := s_bind hf
      refine s_lz.tr (s_le2 (s_sl_2 hh)) ?_
      cases hf
      exact s_le.rf
    refine r_callV (Y := M_X7_core) (v := some (.int x2)) X I w_1523 my_X7_core (by omega) (t_X7_core (G := G) (d := d + 0) h1) (b_X7_core h1) (e_IX_l hq2) rfl hl.1 rfl (Nat.le_of_ble_eq_true rfl) hn le3 dL_core_4 (fun H locs cells slots I hn1 hn2 => ?_)
    have I : s_I G q1.2 s H locs := I
    have hn : cells + σ0.2.1 ≤ q1.2.2.1 ∧ slots + σ0.2.2.1 ≤ q1.2.2.2.1 := ⟨hn1, hn2⟩
    obtain ⟨σ4, h4, hf⟩ := s_bind hf
    cases hf
    have k : _ = r := k
    subst k
    have le5 : s_le σ4 σ4 := s_le.rf
    refine lv_i2l hx hb dL_core_7 rfl ?_
    refine r_last X I h4 dL_core_8 (fun H locs I => ?_)
    have hn := s_k2 (s_sl_2 h4) hn
    refine lv_goto (tgt := 15) hx hb dL_core_9 (by decide) ?_
    refine lv_iconst (v := 0) hx hb dL_core_15 (by decide) ?_
    exact r_iret X I rfl rfl rfl hn dL_core_16
  · rcases s_ite hf with ⟨c6, hf⟩ | ⟨c6, hf⟩
    · subst c6
      have le7 : s_le q1.2 (e_I r).2 := by
        refine s_lek hem_I ?_ k
        cases hf
        exact s_le.rf
      refine r_callVh (x := (0, 9, 12, 13)) (Y := M_X7_core) (E := "java/lang/IllegalArgumentException") (name := "java/lang/IllegalArgumentException") X I [] [] rfl (fun z hz => by cases hz) rfl (by decide) w_691 (by decide +kernel) w_1523 my_X7_core (by omega) (t_X7_core (G := G) (d := d + 0) h1) (b_X7_core h1) (e_IX_r hq2) rfl hl.1 rfl (Nat.le_of_ble_eq_true rfl) hn le7 dL_core_4 (fun a5 H locs cells slots I hn1 hn2 => ?_)
      have I : s_I G q1.2 s H locs := I
      have hn : cells + σ0.2.1 ≤ q1.2.2.1 ∧ slots + σ0.2.2.1 ≤ q1.2.2.2.1 := ⟨hn1, hn2⟩
      cases hf
      have k : _ = r := k
      subst k
      refine lv_astore_n (lv' := [(3, .ref a5), (0, .ref v0), (1, .int v1), (2, .ref v2)]) hx hb dL_core_12 rfl hl (by decide) rfl (fun ls hl => ?_)
      refine lv_iconst (v := 1) hx hb dL_core_13 (by decide) ?_
      exact r_iret X I rfl rfl rfl hn dL_core_14
    cases hf
theorem v_L_core {G : sG} {d : Nat} {vs0 : List Value} {σ0 : sS} {x : sL} {z : sZ Int32} {r : Int32 × sS} (hs : S_L_core x = some z) (k : s_K G (d + 7) M_L_core vs0 σ0 Y_L_core e_I z r) : s_V G (d + 7) M_L_core vs0 σ0 Y_L_core x (e_I r) := by
  obtain ⟨pc, vs, σ⟩ := x
  unfold S_L_core at hs
  dsimp only at hs
  rcases s_ite hs with ⟨c, hs⟩ | ⟨-, hs⟩
  · subst c
    unfold U_L_core_0 at hs
    obtain ⟨a0, g0, hs⟩ := s_bind hs
    obtain ⟨a1, g1, hs⟩ := s_bind hs
    obtain ⟨a2, g2, hs⟩ := s_bind hs
    obtain ⟨u9, ge, hs⟩ := s_bind hs
    rw [g_r_to g0, g_i_to g1, g_r_to g2, g_e_to ge]
    exact v_L_core_0 hs k
  cases hs
theorem t_L_core {G : sG} {d : Nat} {v0 : Nat} {v1 : Int32} {v2 : Nat} {σ : sS} {q : Int32 × sS} (h : F_L_core v0 v1 v2 σ = some q) : s_T G (d + 7) M_L_core [.ref v0, .int v1, .ref v2] σ (e_I q) := by
  unfold F_L_core at h
  exact s_ofVH rfl (by decide) (Nat.le_of_ble_eq_true rfl) rfl rfl (s_run_ind (V := fun x r => s_V G (d + 7) M_L_core [.ref v0, .int v1, .ref v2] σ Y_L_core x (e_I r)) (fun x z r hs hk => v_L_core hs (by cases z <;> exact hk)) h)
/-! X3_leastOutside -/
noncomputable def T_X3_leastOutside_0 (v0 : Nat) (v1 : Nat) (v2 : Int32) (σ : sS) : Option (sZ Int32) :=
  some (.inl (2, [.ref v0, .ref v1, .int v2, .int 0], σ))
noncomputable def U_X3_leastOutside_0 (vs : List Value) (σ : sS) : Option (sZ Int32) := (g_r vs).bind fun a0 => (g_r a0.2).bind fun a1 => (g_i a1.2).bind fun a2 => (g_e a2.2).bind fun _ => T_X3_leastOutside_0 a0.1 a1.1 a2.1 σ
noncomputable def T_X3_leastOutside_2 (v0 : Nat) (v1 : Nat) (v2 : Int32) (v3 : Int32) (σ : sS) : Option (sZ Int32) :=
  (s_fr σ v0 3 0).bind fun x1 =>
  (F_X1_words x1 σ).bind fun q2 =>
  if q2.1 ≤ v3 then (some (.inr ((-1), q2.2)))
  else ((s_al q2.2 v1 v3).bind fun x3 =>
  (s_fr q2.2 v0 3 0).bind fun x4 =>
  (F_X1_truthOf x4 v2 v3 q2.2).bind fun q5 =>
  if (lg_cmp (x3 &&& (q5.1 ^^^ (-1))) 0) = 0 then (some (.inl (2, [.ref v0, .ref v1, .int v2, .int (v3 + 1)], q5.2)))
  else ((F_J13_numberOfTrailingZeros_95d88 (x3 &&& (q5.1 ^^^ (-1))) q5.2).bind fun q6 =>
  some (.inr (((v3 * 64) + q6.1), q6.2))))
noncomputable def U_X3_leastOutside_2 (vs : List Value) (σ : sS) : Option (sZ Int32) := (g_r vs).bind fun a0 => (g_r a0.2).bind fun a1 => (g_i a1.2).bind fun a2 => (g_i a2.2).bind fun a3 => (g_e a3.2).bind fun _ => T_X3_leastOutside_2 a0.1 a1.1 a2.1 a3.1 σ
noncomputable def S_X3_leastOutside (x : sL) : Option (sZ Int32) := if x.1 = 0 then U_X3_leastOutside_0 x.2.1 x.2.2 else if x.1 = 2 then U_X3_leastOutside_2 x.2.1 x.2.2 else none
def Y_X3_leastOutside (pc : Nat) : List Nat := if pc = 0 then [0, 1, 2] else if pc = 2 then [0, 1, 2, 3] else []
noncomputable def F_X3_leastOutside (v0 : Nat) (v1 : Nat) (v2 : Int32) (σ : sS) : Option (Int32 × sS) := (s_is σ v0 3).bind fun _ => s_run S_X3_leastOutside (0, [.ref v0, .ref v1, .int v2], σ)
theorem l_X3_leastOutside_0 {v0 : Nat} {v1 : Nat} {v2 : Int32} {σ : sS} {z : sZ Int32} (hf : T_X3_leastOutside_0 v0 v1 v2 σ = some z) : s_lz σ z := by
  unfold T_X3_leastOutside_0 at hf
  cases hf
  exact s_le.rf
theorem l_X3_leastOutside_2 {v0 : Nat} {v1 : Nat} {v2 : Int32} {v3 : Int32} {σ : sS} {z : sZ Int32} (hf : T_X3_leastOutside_2 v0 v1 v2 v3 σ = some z) : s_lz σ z := by
  unfold T_X3_leastOutside_2 at hf
  obtain ⟨x1, -, hf⟩ := s_bind hf
  obtain ⟨q2, hh, hf⟩ := s_bind hf
  refine s_lz.tr (l_X1_words hh) ?_
  rcases s_ite hf with ⟨-, hf⟩ | ⟨-, hf⟩
  · cases hf
    exact s_le.rf
  · obtain ⟨x3, -, hf⟩ := s_bind hf
    obtain ⟨x4, -, hf⟩ := s_bind hf
    obtain ⟨q5, hh, hf⟩ := s_bind hf
    refine s_lz.tr (l_X1_truthOf hh) ?_
    rcases s_ite hf with ⟨-, hf⟩ | ⟨-, hf⟩
    · cases hf
      exact s_le.rf
    · obtain ⟨q6, hh, hf⟩ := s_bind hf
      refine s_lz.tr (l_J13_numberOfTrailingZeros_95d88 hh) ?_
      cases hf
      exact s_le.rf
theorem l_X3_leastOutside_s {x : sL} {z : sZ Int32} (hs : S_X3_leastOutside x = some z) : s_lz x.2.2 z := by
  obtain ⟨pc, vs, σ⟩ := x
  unfold S_X3_leastOutside at hs
  dsimp only at hs ⊢
  rcases s_ite hs with ⟨c, hs⟩ | ⟨-, hs⟩
  · subst c
    unfold U_X3_leastOutside_0 at hs
    obtain ⟨a0, g0, hs⟩ := s_bind hs
    obtain ⟨a1, g1, hs⟩ := s_bind hs
    obtain ⟨a2, g2, hs⟩ := s_bind hs
    obtain ⟨u9, ge, hs⟩ := s_bind hs
    exact l_X3_leastOutside_0 hs
  rcases s_ite hs with ⟨c, hs⟩ | ⟨-, hs⟩
  · subst c
    unfold U_X3_leastOutside_2 at hs
    obtain ⟨a0, g0, hs⟩ := s_bind hs
    obtain ⟨a1, g1, hs⟩ := s_bind hs
    obtain ⟨a2, g2, hs⟩ := s_bind hs
    obtain ⟨a3, g3, hs⟩ := s_bind hs
    obtain ⟨u9, ge, hs⟩ := s_bind hs
    exact l_X3_leastOutside_2 hs
  cases hs
theorem l_X3_leastOutside {v0 : Nat} {v1 : Nat} {v2 : Int32} {σ : sS} {q : Int32 × sS} (h : F_X3_leastOutside v0 v1 v2 σ = some q) : s_le σ q.2 := by
  unfold F_X3_leastOutside at h
  obtain ⟨-, -, h⟩ := s_bind h
  exact s_run_ind (V := fun x r => s_le x.2.2 r.2) (fun x z r hs hk => by
    have h9 := l_X3_leastOutside_s hs
    cases z with
    | inl y => exact s_le.tr h9 hk
    | inr q => cases hk; exact h9) h
theorem b_X3_leastOutside {v0 : Nat} {v1 : Nat} {v2 : Int32} {σ : sS} {q : Int32 × sS} (h : F_X3_leastOutside v0 v1 v2 σ = some q) : ∃ fs, σ.1 v0 = some (.inr (3, fs)) := by
  unfold F_X3_leastOutside at h
  obtain ⟨u, hu, -⟩ := s_bind h
  exact s_is_to hu
set_option maxRecDepth 100000 in
set_option maxHeartbeats 4000000 in
theorem v_X3_leastOutside_0 {G : sG} {d : Nat} {vs0 : List Value} {σ0 : sS} {v0 : Nat} {v1 : Nat} {v2 : Int32} {σ : sS} {z : sZ Int32} {r : Int32 × sS} (hf : T_X3_leastOutside_0 v0 v1 v2 σ = some z) (k : s_K G (d + 3) M_X3_leastOutside vs0 σ0 Y_X3_leastOutside e_I z r) : s_V G (d + 3) M_X3_leastOutside vs0 σ0 Y_X3_leastOutside (0, [.ref v0, .ref v1, .int v2], σ) (e_I r) := by
  have le0 : s_le σ (e_I r).2 := s_lek hem_I (l_X3_leastOutside_0 hf) k
  refine ⟨le0, ?_⟩
  intro p e s m below meth c H locs cells slots ls X I hn1 hn2 hl
  have hn : cells + σ0.2.1 ≤ σ.2.1 ∧ slots + σ0.2.2.1 ≤ σ.2.2.1 := ⟨hn1, hn2⟩
  have hl : lv_has ls 6 [(0, .ref v0), (1, .ref v1), (2, .int v2)] := hl
  have hx := X.1
  have hb : c.code = cX3_leastOutside := X.2.1
  have hown : s.vm.findClass RX3 = some m.cls := X.2.2.2.2.2.1
  have hts := X.2.2.2.2.2.2.1
  refine W.eq (g2 := F0 m 0 ls []) rfl ?_
  unfold T_X3_leastOutside_0 at hf
  cases hf
  have k : s_V G (d + 3) M_X3_leastOutside vs0 σ0 Y_X3_leastOutside (2, [.ref v0, .ref v1, .int v2, .int 0], σ) (e_I r) := k
  refine lv_iconst (v := 0) hx hb dX3_leastOutside_0 (by decide) ?_
  refine lv_istore_n (lv' := [(3, .int 0), (0, .ref v0), (1, .ref v1), (2, .int v2)]) hx hb dX3_leastOutside_1 rfl hl (by decide) rfl (fun ls hl => ?_)
  exact k.2 p e s m below meth c _ _ _ _ _ X I hn.1 hn.2 (lv_sub hl [1, 2, 3, 0] rfl)
set_option maxRecDepth 100000 in
set_option maxHeartbeats 4000000 in
theorem v_X3_leastOutside_2 {G : sG} {d : Nat} {vs0 : List Value} {σ0 : sS} {v0 : Nat} {v1 : Nat} {v2 : Int32} {v3 : Int32} {σ : sS} {z : sZ Int32} {r : Int32 × sS} (hf : T_X3_leastOutside_2 v0 v1 v2 v3 σ = some z) (k : s_K G (d + 3) M_X3_leastOutside vs0 σ0 Y_X3_leastOutside e_I z r) : s_V G (d + 3) M_X3_leastOutside vs0 σ0 Y_X3_leastOutside (2, [.ref v0, .ref v1, .int v2, .int v3], σ) (e_I r) := by
  have le0 : s_le σ (e_I r).2 := s_lek hem_I (l_X3_leastOutside_2 hf) k
  refine ⟨le0, ?_⟩
  intro p e s m below meth c H locs cells slots ls X I hn1 hn2 hl
  have hn : cells + σ0.2.1 ≤ σ.2.1 ∧ slots + σ0.2.2.1 ≤ σ.2.2.1 := ⟨hn1, hn2⟩
  have hl : lv_has ls 6 [(0, .ref v0), (1, .ref v1), (2, .int v2), (3, .int v3)] := hl
  have hx := X.1
  have hb : c.code = cX3_leastOutside := X.2.1
  have hown : s.vm.findClass RX3 = some m.cls := X.2.2.2.2.2.1
  have hts := X.2.2.2.2.2.2.1
  refine W.eq (g2 := F0 m 2 ls []) rfl ?_
  unfold T_X3_leastOutside_2 at hf
  obtain ⟨x1, h1, hf⟩ := s_bind hf
  obtain ⟨q2, h2, hf⟩ := s_bind hf
  have le3 : s_le q2.2 (e_I r).2 := by
    refine s_lek hem_I ?_ k
    rcases s_ite hf with ⟨-, hf⟩ | ⟨-, hf⟩
    · cases hf
      exact s_le.rf
    · obtain ⟨x3, -, hf⟩ := s_bind hf
      obtain ⟨x4, -, hf⟩ := s_bind hf
      obtain ⟨q5, hh, hf⟩ := s_bind hf
      refine s_lz.tr (l_X1_truthOf hh) ?_
      rcases s_ite hf with ⟨-, hf⟩ | ⟨-, hf⟩
      · cases hf
        exact s_le.rf
      · obtain ⟨q6, hh, hf⟩ := s_bind hf
        refine s_lz.tr (l_J13_numberOfTrailingZeros_95d88 hh) ?_
        cases hf
        exact s_le.rf
  refine lv_iload_n hx hb dX3_leastOutside_2 rfl (lv_at hl 3 rfl) ?_
  refine lv_aload_n hx hb dX3_leastOutside_3 rfl (lv_at hl 0 rfl) ?_
  refine r_gr X I fl_X3_30 h1 dX3_leastOutside_4 ?_
  refine r_callV (Y := M_X1_words) (v := some (.int q2.1)) X I w_1077 my_X1_words (by omega) (t_X1_words (G := G) (d := d + 0) h2) (b_X1_words h2) rfl rfl hl.1 rfl (Nat.le_of_ble_eq_true rfl) hn le3 dX3_leastOutside_7 (fun H locs cells slots I hn1 hn2 => ?_)
  have I : s_I G q2.2 s H locs := I
  have hn : cells + σ0.2.1 ≤ q2.2.2.1 ∧ slots + σ0.2.2.1 ≤ q2.2.2.2.1 := ⟨hn1, hn2⟩
  rcases s_ite hf with ⟨c4, hf⟩ | ⟨c4, hf⟩
  · refine lv_icmp_ge (tgt := 56) hx hb dX3_leastOutside_10 (by decide) (fun _ => ?_) (fun n => absurd c4 n)
    cases hf
    have k : _ = r := k
    subst k
    refine lv_iconst (v := (-1)) hx hb dX3_leastOutside_56 (by decide) ?_
    exact r_iret X I rfl rfl rfl hn dX3_leastOutside_57
  · refine lv_icmp_ge (tgt := 56) hx hb dX3_leastOutside_10 (by decide) (fun n => absurd n c4) (fun _ => ?_)
    obtain ⟨x3, h5, hf⟩ := s_bind hf
    obtain ⟨x4, h6, hf⟩ := s_bind hf
    obtain ⟨q5, h7, hf⟩ := s_bind hf
    have le8 : s_le q5.2 (e_I r).2 := by
      refine s_lek hem_I ?_ k
      rcases s_ite hf with ⟨-, hf⟩ | ⟨-, hf⟩
      · cases hf
        exact s_le.rf
      · obtain ⟨q6, hh, hf⟩ := s_bind hf
        refine s_lz.tr (l_J13_numberOfTrailingZeros_95d88 hh) ?_
        cases hf
        exact s_le.rf
    refine lv_aload_n hx hb dX3_leastOutside_13 rfl (lv_at hl 1 rfl) ?_
    refine lv_iload_n hx hb dX3_leastOutside_14 rfl (lv_at hl 3 rfl) ?_
    refine r_lald X I h5 dX3_leastOutside_15 ?_
    refine lv_aload_n hx hb dX3_leastOutside_16 rfl (lv_at hl 0 rfl) ?_
    refine r_gr X I fl_X3_30 h6 dX3_leastOutside_17 ?_
    refine lv_iload_n hx hb dX3_leastOutside_20 rfl (lv_at hl 2 rfl) ?_
    refine lv_iload_n hx hb dX3_leastOutside_21 rfl (lv_at hl 3 rfl) ?_
    refine r_callV (Y := M_X1_truthOf) (v := some (.long q5.1)) X I w_1078 my_X1_truthOf (by omega) (t_X1_truthOf (G := G) (d := d + 1) h7) (b_X1_truthOf h7) rfl rfl hl.1 rfl (Nat.le_of_ble_eq_true rfl) hn le8 dX3_leastOutside_22 (fun H locs cells slots I hn1 hn2 => ?_)
    have I : s_I G q5.2 s H locs := I
    have hn : cells + σ0.2.1 ≤ q5.2.2.1 ∧ slots + σ0.2.2.1 ≤ q5.2.2.2.1 := ⟨hn1, hn2⟩
    refine lv_ldc2 (own := RX3) hx hb hown (hts _ w_1246) dX3_leastOutside_25 ?_
    refine lv_lxor hx hb dX3_leastOutside_28 ?_
    refine lv_land hx hb dX3_leastOutside_29 ?_
    refine lv_lstore (lv' := [(4, .long (x3 &&& (q5.1 ^^^ (-1)))), (0, .ref v0), (1, .ref v1), (2, .int v2), (3, .int v3)]) hx hb dX3_leastOutside_30 hl (by decide) rfl (fun ls hl => ?_)
    refine lv_lload hx hb dX3_leastOutside_32 (lv_at hl 0 rfl) ?_
    refine lv_lconst (v := 0) hx hb dX3_leastOutside_34 (by decide) ?_
    refine W.lcmp hx hb dX3_leastOutside_35 ?_
    rcases s_ite hf with ⟨c9, hf⟩ | ⟨c9, hf⟩
    · refine lv_if_eq (tgt := 50) hx hb dX3_leastOutside_36 (by decide) (fun _ => ?_) (fun n => absurd c9 n)
      cases hf
      have k : s_V G (d + 3) M_X3_leastOutside vs0 σ0 Y_X3_leastOutside (2, [.ref v0, .ref v1, .int v2, .int (v3 + 1)], q5.2) (e_I r) := k
      refine lv_iinc (v := (v3 + 1)) (lv' := [(3, .int (v3 + 1)), (4, .long (x3 &&& (q5.1 ^^^ (-1)))), (0, .ref v0), (1, .ref v1), (2, .int v2)]) hx hb dX3_leastOutside_50 hl (k := 4) rfl rfl (by decide) rfl (fun ls hl => ?_)
      refine lv_goto (tgt := 2) hx hb dX3_leastOutside_53 (by decide) ?_
      exact k.2 p e s m below meth c _ _ _ _ _ X I hn.1 hn.2 (lv_sub hl [2, 3, 4, 0] rfl)
    · refine lv_if_eq (tgt := 50) hx hb dX3_leastOutside_36 (by decide) (fun n => absurd n c9) (fun _ => ?_)
      obtain ⟨q6, h10, hf⟩ := s_bind hf
      cases hf
      have k : _ = r := k
      subst k
      have le11 : s_le q6.2 q6.2 := s_le.rf
      refine lv_iload_n hx hb dX3_leastOutside_39 rfl (lv_at hl 4 rfl) ?_
      refine lv_bipush (v := 64) hx hb dX3_leastOutside_40 (by decide) ?_
      refine lv_imul hx hb dX3_leastOutside_42 ?_
      refine lv_lload hx hb dX3_leastOutside_43 (lv_at hl 0 rfl) ?_
      refine r_callS (Y := M_J13_numberOfTrailingZeros_95d88) (v := some (.int q6.1)) X I w_1258 my_J13_numberOfTrailingZeros_95d88 (by omega) (t_J13_numberOfTrailingZeros_95d88 (G := G) (d := d + 0) h10) rfl rfl hl.1 rfl (Nat.le_of_ble_eq_true rfl) hn le11 dX3_leastOutside_45 (fun H locs cells slots I hn1 hn2 => ?_)
      have I : s_I G q6.2 s H locs := I
      have hn : cells + σ0.2.1 ≤ q6.2.2.1 ∧ slots + σ0.2.2.1 ≤ q6.2.2.2.1 := ⟨hn1, hn2⟩
      refine lv_iadd hx hb dX3_leastOutside_48 ?_
      exact r_iret X I rfl rfl rfl hn dX3_leastOutside_49
theorem v_X3_leastOutside {G : sG} {d : Nat} {vs0 : List Value} {σ0 : sS} {x : sL} {z : sZ Int32} {r : Int32 × sS} (hs : S_X3_leastOutside x = some z) (k : s_K G (d + 3) M_X3_leastOutside vs0 σ0 Y_X3_leastOutside e_I z r) : s_V G (d + 3) M_X3_leastOutside vs0 σ0 Y_X3_leastOutside x (e_I r) := by
  obtain ⟨pc, vs, σ⟩ := x
  unfold S_X3_leastOutside at hs
  dsimp only at hs
  rcases s_ite hs with ⟨c, hs⟩ | ⟨-, hs⟩
  · subst c
    unfold U_X3_leastOutside_0 at hs
    obtain ⟨a0, g0, hs⟩ := s_bind hs
    obtain ⟨a1, g1, hs⟩ := s_bind hs
    obtain ⟨a2, g2, hs⟩ := s_bind hs
    obtain ⟨u9, ge, hs⟩ := s_bind hs
    rw [g_r_to g0, g_r_to g1, g_i_to g2, g_e_to ge]
    exact v_X3_leastOutside_0 hs k
  rcases s_ite hs with ⟨c, hs⟩ | ⟨-, hs⟩
  · subst c
    unfold U_X3_leastOutside_2 at hs
    obtain ⟨a0, g0, hs⟩ := s_bind hs
    obtain ⟨a1, g1, hs⟩ := s_bind hs
    obtain ⟨a2, g2, hs⟩ := s_bind hs
    obtain ⟨a3, g3, hs⟩ := s_bind hs
    obtain ⟨u9, ge, hs⟩ := s_bind hs
    rw [g_r_to g0, g_r_to g1, g_i_to g2, g_i_to g3, g_e_to ge]
    exact v_X3_leastOutside_2 hs k
  cases hs
theorem t_X3_leastOutside {G : sG} {d : Nat} {v0 : Nat} {v1 : Nat} {v2 : Int32} {σ : sS} {q : Int32 × sS} (h : F_X3_leastOutside v0 v1 v2 σ = some q) : s_T G (d + 3) M_X3_leastOutside [.ref v0, .ref v1, .int v2] σ (e_I q) := by
  unfold F_X3_leastOutside at h
  obtain ⟨-, -, h⟩ := s_bind h
  exact s_ofV rfl (by decide) (Nat.le_of_ble_eq_true rfl) rfl rfl (s_run_ind (V := fun x r => s_V G (d + 3) M_X3_leastOutside [.ref v0, .ref v1, .int v2] σ Y_X3_leastOutside x (e_I r)) (fun x z r hs hk => v_X3_leastOutside hs (by cases z <;> exact hk)) h)
/-! X3_leastBreach -/
noncomputable def T_X3_leastBreach_0 (v0 : Nat) (v1 : Int32) (v2 : Int32) (σ : sS) : Option (sZ Int32) :=
  (s_fr σ v0 3 1).bind fun x1 =>
  (F_X3_gather v0 v1 x1 σ).bind fun q2 =>
  (s_fr q2.2 v0 3 1).bind fun x3 =>
  (F_X3_leastOutside v0 x3 v2 q2.2).bind fun q4 =>
  some (.inr (q4.1, q4.2))
noncomputable def U_X3_leastBreach_0 (vs : List Value) (σ : sS) : Option (sZ Int32) := (g_r vs).bind fun a0 => (g_i a0.2).bind fun a1 => (g_i a1.2).bind fun a2 => (g_e a2.2).bind fun _ => T_X3_leastBreach_0 a0.1 a1.1 a2.1 σ
noncomputable def S_X3_leastBreach (x : sL) : Option (sZ Int32) := if x.1 = 0 then U_X3_leastBreach_0 x.2.1 x.2.2 else none
def Y_X3_leastBreach (pc : Nat) : List Nat := if pc = 0 then [0, 1, 2] else []
noncomputable def F_X3_leastBreach (v0 : Nat) (v1 : Int32) (v2 : Int32) (σ : sS) : Option (Int32 × sS) := (s_is σ v0 3).bind fun _ => s_run S_X3_leastBreach (0, [.ref v0, .int v1, .int v2], σ)
theorem l_X3_leastBreach_0 {v0 : Nat} {v1 : Int32} {v2 : Int32} {σ : sS} {z : sZ Int32} (hf : T_X3_leastBreach_0 v0 v1 v2 σ = some z) : s_lz σ z := by
  unfold T_X3_leastBreach_0 at hf
  obtain ⟨x1, -, hf⟩ := s_bind hf
  obtain ⟨q2, hh, hf⟩ := s_bind hf
  refine s_lz.tr (l_X3_gather hh) ?_
  obtain ⟨x3, -, hf⟩ := s_bind hf
  obtain ⟨q4, hh, hf⟩ := s_bind hf
  refine s_lz.tr (l_X3_leastOutside hh) ?_
  cases hf
  exact s_le.rf
theorem l_X3_leastBreach_s {x : sL} {z : sZ Int32} (hs : S_X3_leastBreach x = some z) : s_lz x.2.2 z := by
  obtain ⟨pc, vs, σ⟩ := x
  unfold S_X3_leastBreach at hs
  dsimp only at hs ⊢
  rcases s_ite hs with ⟨c, hs⟩ | ⟨-, hs⟩
  · subst c
    unfold U_X3_leastBreach_0 at hs
    obtain ⟨a0, g0, hs⟩ := s_bind hs
    obtain ⟨a1, g1, hs⟩ := s_bind hs
    obtain ⟨a2, g2, hs⟩ := s_bind hs
    obtain ⟨u9, ge, hs⟩ := s_bind hs
    exact l_X3_leastBreach_0 hs
  cases hs
theorem l_X3_leastBreach {v0 : Nat} {v1 : Int32} {v2 : Int32} {σ : sS} {q : Int32 × sS} (h : F_X3_leastBreach v0 v1 v2 σ = some q) : s_le σ q.2 := by
  unfold F_X3_leastBreach at h
  obtain ⟨-, -, h⟩ := s_bind h
  exact s_run_ind (V := fun x r => s_le x.2.2 r.2) (fun x z r hs hk => by
    have h9 := l_X3_leastBreach_s hs
    cases z with
    | inl y => exact s_le.tr h9 hk
    | inr q => cases hk; exact h9) h
theorem b_X3_leastBreach {v0 : Nat} {v1 : Int32} {v2 : Int32} {σ : sS} {q : Int32 × sS} (h : F_X3_leastBreach v0 v1 v2 σ = some q) : ∃ fs, σ.1 v0 = some (.inr (3, fs)) := by
  unfold F_X3_leastBreach at h
  obtain ⟨u, hu, -⟩ := s_bind h
  exact s_is_to hu
set_option maxRecDepth 100000 in
set_option maxHeartbeats 4000000 in
theorem v_X3_leastBreach_0 {G : sG} {d : Nat} {vs0 : List Value} {σ0 : sS} {v0 : Nat} {v1 : Int32} {v2 : Int32} {σ : sS} {z : sZ Int32} {r : Int32 × sS} (hf : T_X3_leastBreach_0 v0 v1 v2 σ = some z) (k : s_K G (d + 5) M_X3_leastBreach vs0 σ0 Y_X3_leastBreach e_I z r) : s_V G (d + 5) M_X3_leastBreach vs0 σ0 Y_X3_leastBreach (0, [.ref v0, .int v1, .int v2], σ) (e_I r) := by
  have le0 : s_le σ (e_I r).2 := s_lek hem_I (l_X3_leastBreach_0 hf) k
  refine ⟨le0, ?_⟩
  intro p e s m below meth c H locs cells slots ls X I hn1 hn2 hl
  have hn : cells + σ0.2.1 ≤ σ.2.1 ∧ slots + σ0.2.2.1 ≤ σ.2.2.1 := ⟨hn1, hn2⟩
  have hl : lv_has ls 3 [(0, .ref v0), (1, .int v1), (2, .int v2)] := hl
  have hx := X.1
  have hb : c.code = cX3_leastBreach := X.2.1
  have hown : s.vm.findClass RX3 = some m.cls := X.2.2.2.2.2.1
  have hts := X.2.2.2.2.2.2.1
  refine W.eq (g2 := F0 m 0 ls []) rfl ?_
  unfold T_X3_leastBreach_0 at hf
  obtain ⟨x1, h1, hf⟩ := s_bind hf
  obtain ⟨q2, h2, hf⟩ := s_bind hf
  obtain ⟨x3, h3, hf⟩ := s_bind hf
  obtain ⟨q4, h4, hf⟩ := s_bind hf
  cases hf
  have k : _ = r := k
  subst k
  have le5 : s_le q4.2 q4.2 := s_le.rf
  have le6 := s_le.tr (l_X3_leastOutside h4) le5
  refine lv_aload_n hx hb dX3_leastBreach_0 rfl (lv_at hl 0 rfl) ?_
  refine lv_iload_n hx hb dX3_leastBreach_1 rfl (lv_at hl 1 rfl) ?_
  refine lv_aload_n hx hb dX3_leastBreach_2 rfl (lv_at hl 0 rfl) ?_
  refine r_gr X I fl_X3_11 h1 dX3_leastBreach_3 ?_
  refine r_callV (Y := M_X3_gather) (v := none) X I w_1242 my_X3_gather (by omega) (t_X3_gather (G := G) (d := d + 0) h2) (b_X3_gather h2) rfl rfl hl.1 rfl (Nat.le_of_ble_eq_true rfl) hn le6 dX3_leastBreach_6 (fun H locs cells slots I hn1 hn2 => ?_)
  have I : s_I G q2.2 s H locs := I
  have hn : cells + σ0.2.1 ≤ q2.2.2.1 ∧ slots + σ0.2.2.1 ≤ q2.2.2.2.1 := ⟨hn1, hn2⟩
  refine lv_aload_n hx hb dX3_leastBreach_9 rfl (lv_at hl 0 rfl) ?_
  refine lv_aload_n hx hb dX3_leastBreach_10 rfl (lv_at hl 0 rfl) ?_
  refine r_gr X I fl_X3_11 h3 dX3_leastBreach_11 ?_
  refine lv_iload_n hx hb dX3_leastBreach_14 rfl (lv_at hl 2 rfl) ?_
  refine r_callV (Y := M_X3_leastOutside) (v := some (.int q4.1)) X I w_1254 my_X3_leastOutside (by omega) (t_X3_leastOutside (G := G) (d := d + 1) h4) (b_X3_leastOutside h4) rfl rfl hl.1 rfl (Nat.le_of_ble_eq_true rfl) hn le5 dX3_leastBreach_15 (fun H locs cells slots I hn1 hn2 => ?_)
  have I : s_I G q4.2 s H locs := I
  have hn : cells + σ0.2.1 ≤ q4.2.2.1 ∧ slots + σ0.2.2.1 ≤ q4.2.2.2.1 := ⟨hn1, hn2⟩
  exact r_iret X I rfl rfl rfl hn dX3_leastBreach_18
theorem v_X3_leastBreach {G : sG} {d : Nat} {vs0 : List Value} {σ0 : sS} {x : sL} {z : sZ Int32} {r : Int32 × sS} (hs : S_X3_leastBreach x = some z) (k : s_K G (d + 5) M_X3_leastBreach vs0 σ0 Y_X3_leastBreach e_I z r) : s_V G (d + 5) M_X3_leastBreach vs0 σ0 Y_X3_leastBreach x (e_I r) := by
  obtain ⟨pc, vs, σ⟩ := x
  unfold S_X3_leastBreach at hs
  dsimp only at hs
  rcases s_ite hs with ⟨c, hs⟩ | ⟨-, hs⟩
  · subst c
    unfold U_X3_leastBreach_0 at hs
    obtain ⟨a0, g0, hs⟩ := s_bind hs
    obtain ⟨a1, g1, hs⟩ := s_bind hs
    obtain ⟨a2, g2, hs⟩ := s_bind hs
    obtain ⟨u9, ge, hs⟩ := s_bind hs
    rw [g_r_to g0, g_i_to g1, g_i_to g2, g_e_to ge]
    exact v_X3_leastBreach_0 hs k
  cases hs
theorem t_X3_leastBreach {G : sG} {d : Nat} {v0 : Nat} {v1 : Int32} {v2 : Int32} {σ : sS} {q : Int32 × sS} (h : F_X3_leastBreach v0 v1 v2 σ = some q) : s_T G (d + 5) M_X3_leastBreach [.ref v0, .int v1, .int v2] σ (e_I q) := by
  unfold F_X3_leastBreach at h
  obtain ⟨-, -, h⟩ := s_bind h
  exact s_ofV rfl (by decide) (Nat.le_of_ble_eq_true rfl) rfl rfl (s_run_ind (V := fun x r => s_V G (d + 5) M_X3_leastBreach [.ref v0, .int v1, .int v2] σ Y_X3_leastBreach x (e_I r)) (fun x z r hs hk => v_X3_leastBreach hs (by cases z <;> exact hk)) h)
/-! X7_counter -/
noncomputable def T_X7_counter_0 (v0 : Nat) (v1 : Int32) (v2 : Int32) (σ : sS) : Option (sZ (Int32 ⊕ String)) :=
  (F_X7_needCustomer v0 v1 σ).bind fun q1 => s_sum q1.1 (fun x2 => (F_X7_needFormula v0 v2 q1.2).bind fun q4 => s_sum q4.1 (fun x5 => (s_fr q4.2 v0 7 4).bind fun x7 =>
  (s_fr q4.2 v0 7 1).bind fun x8 =>
  (s_fr q4.2 x8 1 5).bind fun x9 =>
  (s_ai q4.2 x9 v1).bind fun x10 =>
  (F_X3_leastBreach x7 x10 v2 q4.2).bind fun q11 =>
  some (.inr (.inl q11.1, q11.2))) (fun E6 => some (.inr (.inr E6, q4.2)))) (fun E3 => some (.inr (.inr E3, q1.2)))
noncomputable def U_X7_counter_0 (vs : List Value) (σ : sS) : Option (sZ (Int32 ⊕ String)) := (g_r vs).bind fun a0 => (g_i a0.2).bind fun a1 => (g_i a1.2).bind fun a2 => (g_e a2.2).bind fun _ => T_X7_counter_0 a0.1 a1.1 a2.1 σ
noncomputable def S_X7_counter (x : sL) : Option (sZ (Int32 ⊕ String)) := if x.1 = 0 then U_X7_counter_0 x.2.1 x.2.2 else none
def Y_X7_counter (pc : Nat) : List Nat := if pc = 0 then [0, 1, 2] else []
noncomputable def F_X7_counter (v0 : Nat) (v1 : Int32) (v2 : Int32) (σ : sS) : Option ((Int32 ⊕ String) × sS) := (s_is σ v0 7).bind fun _ => s_run S_X7_counter (0, [.ref v0, .int v1, .int v2], σ)
theorem l_X7_counter_0 {v0 : Nat} {v1 : Int32} {v2 : Int32} {σ : sS} {z : sZ (Int32 ⊕ String)} (hf : T_X7_counter_0 v0 v1 v2 σ = some z) : s_lz σ z := by
  unfold T_X7_counter_0 at hf
  obtain ⟨q1, hh, hf⟩ := s_bind hf
  refine s_lz.tr (l_X7_needCustomer hh) ?_
  rcases s_sum_some hf with ⟨x2, -, hf⟩ | ⟨E3, -, hf⟩
  · obtain ⟨q4, hh, hf⟩ := s_bind hf
    refine s_lz.tr (l_X7_needFormula hh) ?_
    rcases s_sum_some hf with ⟨x5, -, hf⟩ | ⟨E6, -, hf⟩
    · obtain ⟨x7, -, hf⟩ := s_bind hf
      obtain ⟨x8, -, hf⟩ := s_bind hf
      obtain ⟨x9, -, hf⟩ := s_bind hf
      obtain ⟨x10, -, hf⟩ := s_bind hf
      obtain ⟨q11, hh, hf⟩ := s_bind hf
      refine s_lz.tr (l_X3_leastBreach hh) ?_
      cases hf
      exact s_le.rf
    · cases hf
      exact s_le.rf
  · cases hf
    exact s_le.rf
theorem l_X7_counter_s {x : sL} {z : sZ (Int32 ⊕ String)} (hs : S_X7_counter x = some z) : s_lz x.2.2 z := by
  obtain ⟨pc, vs, σ⟩ := x
  unfold S_X7_counter at hs
  dsimp only at hs ⊢
  rcases s_ite hs with ⟨c, hs⟩ | ⟨-, hs⟩
  · subst c
    unfold U_X7_counter_0 at hs
    obtain ⟨a0, g0, hs⟩ := s_bind hs
    obtain ⟨a1, g1, hs⟩ := s_bind hs
    obtain ⟨a2, g2, hs⟩ := s_bind hs
    obtain ⟨u9, ge, hs⟩ := s_bind hs
    exact l_X7_counter_0 hs
  cases hs
theorem l_X7_counter {v0 : Nat} {v1 : Int32} {v2 : Int32} {σ : sS} {q : (Int32 ⊕ String) × sS} (h : F_X7_counter v0 v1 v2 σ = some q) : s_le σ q.2 := by
  unfold F_X7_counter at h
  obtain ⟨-, -, h⟩ := s_bind h
  exact s_run_ind (V := fun x r => s_le x.2.2 r.2) (fun x z r hs hk => by
    have h9 := l_X7_counter_s hs
    cases z with
    | inl y => exact s_le.tr h9 hk
    | inr q => cases hk; exact h9) h
theorem b_X7_counter {v0 : Nat} {v1 : Int32} {v2 : Int32} {σ : sS} {q : (Int32 ⊕ String) × sS} (h : F_X7_counter v0 v1 v2 σ = some q) : ∃ fs, σ.1 v0 = some (.inr (7, fs)) := by
  unfold F_X7_counter at h
  obtain ⟨u, hu, -⟩ := s_bind h
  exact s_is_to hu
set_option maxRecDepth 100000 in
set_option maxHeartbeats 4000000 in
theorem v_X7_counter_0 {G : sG} {d : Nat} {vs0 : List Value} {σ0 : sS} {v0 : Nat} {v1 : Int32} {v2 : Int32} {σ : sS} {z : sZ (Int32 ⊕ String)} {r : (Int32 ⊕ String) × sS} (hf : T_X7_counter_0 v0 v1 v2 σ = some z) (k : s_K G (d + 6) M_X7_counter vs0 σ0 Y_X7_counter e_IX z r) : s_V G (d + 6) M_X7_counter vs0 σ0 Y_X7_counter (0, [.ref v0, .int v1, .int v2], σ) (e_IX r) := by
  have le0 : s_le σ (e_IX r).2 := s_lek hem_IX (l_X7_counter_0 hf) k
  refine ⟨le0, ?_⟩
  intro p e s m below meth c H locs cells slots ls X I hn1 hn2 hl
  have hn : cells + σ0.2.1 ≤ σ.2.1 ∧ slots + σ0.2.2.1 ≤ σ.2.2.1 := ⟨hn1, hn2⟩
  have hl : lv_has ls 3 [(0, .ref v0), (1, .int v1), (2, .int v2)] := hl
  have hx := X.1
  have hb : c.code = cX7_counter := X.2.1
  have hown : s.vm.findClass RX7 = some m.cls := X.2.2.2.2.2.1
  have hts := X.2.2.2.2.2.2.1
  refine W.eq (g2 := F0 m 0 ls []) rfl ?_
  unfold T_X7_counter_0 at hf
  obtain ⟨q1, h1, hf⟩ := s_bind hf
  refine lv_aload_n hx hb dX7_counter_0 rfl (lv_at hl 0 rfl) ?_
  refine lv_iload_n hx hb dX7_counter_1 rfl (lv_at hl 1 rfl) ?_
  rcases s_sum_some hf with ⟨x2, hq2, hf⟩ | ⟨E3, hq2, hf⟩
  · have le3 : s_le q1.2 (e_IX r).2 := by
      refine s_lek hem_IX ?_ k
      obtain ⟨q4, hh, hf⟩ := s_bind hf
      refine s_lz.tr (l_X7_needFormula hh) ?_
      rcases s_sum_some hf with ⟨x5, -, hf⟩ | ⟨E6, -, hf⟩
      · obtain ⟨x7, -, hf⟩ := s_bind hf
        obtain ⟨x8, -, hf⟩ := s_bind hf
        obtain ⟨x9, -, hf⟩ := s_bind hf
        obtain ⟨x10, -, hf⟩ := s_bind hf
        obtain ⟨q11, hh, hf⟩ := s_bind hf
        refine s_lz.tr (l_X3_leastBreach hh) ?_
        cases hf
        exact s_le.rf
      · cases hf
        exact s_le.rf
    refine r_callV (Y := M_X7_needCustomer) (v := none) X I w_1115 my_X7_needCustomer (by omega) (t_X7_needCustomer (G := G) (d := d + 4) h1) (b_X7_needCustomer h1) (e_VX_l hq2) rfl hl.1 rfl (Nat.le_of_ble_eq_true rfl) hn le3 dX7_counter_2 (fun H locs cells slots I hn1 hn2 => ?_)
    have I : s_I G q1.2 s H locs := I
    have hn : cells + σ0.2.1 ≤ q1.2.2.1 ∧ slots + σ0.2.2.1 ≤ q1.2.2.2.1 := ⟨hn1, hn2⟩
    obtain ⟨q4, h4, hf⟩ := s_bind hf
    refine lv_aload_n hx hb dX7_counter_5 rfl (lv_at hl 0 rfl) ?_
    refine lv_iload_n hx hb dX7_counter_6 rfl (lv_at hl 2 rfl) ?_
    rcases s_sum_some hf with ⟨x5, hq5, hf⟩ | ⟨E6, hq5, hf⟩
    · have le6 : s_le q4.2 (e_IX r).2 := by
        refine s_lek hem_IX ?_ k
        obtain ⟨x7, -, hf⟩ := s_bind hf
        obtain ⟨x8, -, hf⟩ := s_bind hf
        obtain ⟨x9, -, hf⟩ := s_bind hf
        obtain ⟨x10, -, hf⟩ := s_bind hf
        obtain ⟨q11, hh, hf⟩ := s_bind hf
        refine s_lz.tr (l_X3_leastBreach hh) ?_
        cases hf
        exact s_le.rf
      refine r_callV (Y := M_X7_needFormula) (v := none) X I w_1016 my_X7_needFormula (by omega) (t_X7_needFormula (G := G) (d := d + 4) h4) (b_X7_needFormula h4) (e_VX_l hq5) rfl hl.1 rfl (Nat.le_of_ble_eq_true rfl) hn le6 dX7_counter_7 (fun H locs cells slots I hn1 hn2 => ?_)
      have I : s_I G q4.2 s H locs := I
      have hn : cells + σ0.2.1 ≤ q4.2.2.1 ∧ slots + σ0.2.2.1 ≤ q4.2.2.2.1 := ⟨hn1, hn2⟩
      obtain ⟨x7, h7, hf⟩ := s_bind hf
      obtain ⟨x8, h8, hf⟩ := s_bind hf
      obtain ⟨x9, h9, hf⟩ := s_bind hf
      obtain ⟨x10, h10, hf⟩ := s_bind hf
      obtain ⟨q11, h11, hf⟩ := s_bind hf
      cases hf
      have k : _ = r := k
      subst k
      have le12 : s_le q11.2 q11.2 := s_le.rf
      refine lv_aload_n hx hb dX7_counter_10 rfl (lv_at hl 0 rfl) ?_
      refine r_gr X I fl_X7_40 h7 dX7_counter_11 ?_
      refine lv_aload_n hx hb dX7_counter_14 rfl (lv_at hl 0 rfl) ?_
      refine r_gr X I fl_X7_19 h8 dX7_counter_15 ?_
      refine r_gr X I fl_X7_174 h9 dX7_counter_18 ?_
      refine lv_iload_n hx hb dX7_counter_21 rfl (lv_at hl 1 rfl) ?_
      refine r_iald X I h10 dX7_counter_22 ?_
      refine lv_iload_n hx hb dX7_counter_23 rfl (lv_at hl 2 rfl) ?_
      refine r_callV (Y := M_X3_leastBreach) (v := some (.int q11.1)) X I w_1238 my_X3_leastBreach (by omega) (t_X3_leastBreach (G := G) (d := d + 0) h11) (b_X3_leastBreach h11) rfl rfl hl.1 rfl (Nat.le_of_ble_eq_true rfl) hn le12 dX7_counter_24 (fun H locs cells slots I hn1 hn2 => ?_)
      have I : s_I G q11.2 s H locs := I
      have hn : cells + σ0.2.1 ≤ q11.2.2.1 ∧ slots + σ0.2.2.1 ≤ q11.2.2.2.1 := ⟨hn1, hn2⟩
      exact r_iret X I rfl rfl rfl hn dX7_counter_27
    · cases hf
      have k : _ = r := k
      subst k
      exact r_callVx (Y := M_X7_needFormula) X I rfl w_1016 my_X7_needFormula (by omega) (t_X7_needFormula (G := G) (d := d + 4) h4) (b_X7_needFormula h4) (e_VX_r hq5) rfl hl.1 rfl (Nat.le_of_ble_eq_true rfl) hn rfl dX7_counter_7
  · cases hf
    have k : _ = r := k
    subst k
    exact r_callVx (Y := M_X7_needCustomer) X I rfl w_1115 my_X7_needCustomer (by omega) (t_X7_needCustomer (G := G) (d := d + 4) h1) (b_X7_needCustomer h1) (e_VX_r hq2) rfl hl.1 rfl (Nat.le_of_ble_eq_true rfl) hn rfl dX7_counter_2
theorem v_X7_counter {G : sG} {d : Nat} {vs0 : List Value} {σ0 : sS} {x : sL} {z : sZ (Int32 ⊕ String)} {r : (Int32 ⊕ String) × sS} (hs : S_X7_counter x = some z) (k : s_K G (d + 6) M_X7_counter vs0 σ0 Y_X7_counter e_IX z r) : s_V G (d + 6) M_X7_counter vs0 σ0 Y_X7_counter x (e_IX r) := by
  obtain ⟨pc, vs, σ⟩ := x
  unfold S_X7_counter at hs
  dsimp only at hs
  rcases s_ite hs with ⟨c, hs⟩ | ⟨-, hs⟩
  · subst c
    unfold U_X7_counter_0 at hs
    obtain ⟨a0, g0, hs⟩ := s_bind hs
    obtain ⟨a1, g1, hs⟩ := s_bind hs
    obtain ⟨a2, g2, hs⟩ := s_bind hs
    obtain ⟨u9, ge, hs⟩ := s_bind hs
    rw [g_r_to g0, g_i_to g1, g_i_to g2, g_e_to ge]
    exact v_X7_counter_0 hs k
  cases hs
theorem t_X7_counter {G : sG} {d : Nat} {v0 : Nat} {v1 : Int32} {v2 : Int32} {σ : sS} {q : (Int32 ⊕ String) × sS} (h : F_X7_counter v0 v1 v2 σ = some q) : s_T G (d + 6) M_X7_counter [.ref v0, .int v1, .int v2] σ (e_IX q) := by
  unfold F_X7_counter at h
  obtain ⟨-, -, h⟩ := s_bind h
  exact s_ofV rfl (by decide) (Nat.le_of_ble_eq_true rfl) rfl rfl (s_run_ind (V := fun x r => s_V G (d + 6) M_X7_counter [.ref v0, .int v1, .int v2] σ Y_X7_counter x (e_IX r)) (fun x z r hs hk => v_X7_counter hs (by cases z <;> exact hk)) h)
/-! L_counter -/
noncomputable def T_L_counter_0 (v0 : Nat) (v1 : Int32) (v2 : Int32) (v3 : Nat) (σ : sS) : Option (sZ Int32) :=
  (F_X7_counter v0 v1 v2 σ).bind fun q1 => s_sum q1.1 (fun x2 => (s_sl q1.2 v3 0 ((x2 : Int32).toInt64)).bind fun σ4 =>
  some (.inr (0, σ4))) (fun E3 => if E3 = "java/lang/IndexOutOfBoundsException" then (some (.inr (1, q1.2))) else none)
noncomputable def U_L_counter_0 (vs : List Value) (σ : sS) : Option (sZ Int32) := (g_r vs).bind fun a0 => (g_i a0.2).bind fun a1 => (g_i a1.2).bind fun a2 => (g_r a2.2).bind fun a3 => (g_e a3.2).bind fun _ => T_L_counter_0 a0.1 a1.1 a2.1 a3.1 σ
noncomputable def S_L_counter (x : sL) : Option (sZ Int32) := if x.1 = 0 then U_L_counter_0 x.2.1 x.2.2 else none
def Y_L_counter (pc : Nat) : List Nat := if pc = 0 then [0, 1, 2, 3] else []
noncomputable def F_L_counter (v0 : Nat) (v1 : Int32) (v2 : Int32) (v3 : Nat) (σ : sS) : Option (Int32 × sS) := s_run S_L_counter (0, [.ref v0, .int v1, .int v2, .ref v3], σ)
theorem l_L_counter_0 {v0 : Nat} {v1 : Int32} {v2 : Int32} {v3 : Nat} {σ : sS} {z : sZ Int32} (hf : T_L_counter_0 v0 v1 v2 v3 σ = some z) : s_lz σ z := by
  unfold T_L_counter_0 at hf
  obtain ⟨q1, hh, hf⟩ := s_bind hf
  refine s_lz.tr (l_X7_counter hh) ?_
  rcases s_sum_some hf with ⟨x2, -, hf⟩ | ⟨E3, -, hf⟩
  · obtain ⟨σ4, hh, hf⟩ := s_bind hf
    refine s_lz.tr (s_le2 (s_sl_2 hh)) ?_
    cases hf
    exact s_le.rf
  · rcases s_ite hf with ⟨-, hf⟩ | ⟨-, hf⟩
    · cases hf
      exact s_le.rf
    cases hf
theorem l_L_counter_s {x : sL} {z : sZ Int32} (hs : S_L_counter x = some z) : s_lz x.2.2 z := by
  obtain ⟨pc, vs, σ⟩ := x
  unfold S_L_counter at hs
  dsimp only at hs ⊢
  rcases s_ite hs with ⟨c, hs⟩ | ⟨-, hs⟩
  · subst c
    unfold U_L_counter_0 at hs
    obtain ⟨a0, g0, hs⟩ := s_bind hs
    obtain ⟨a1, g1, hs⟩ := s_bind hs
    obtain ⟨a2, g2, hs⟩ := s_bind hs
    obtain ⟨a3, g3, hs⟩ := s_bind hs
    obtain ⟨u9, ge, hs⟩ := s_bind hs
    exact l_L_counter_0 hs
  cases hs
theorem l_L_counter {v0 : Nat} {v1 : Int32} {v2 : Int32} {v3 : Nat} {σ : sS} {q : Int32 × sS} (h : F_L_counter v0 v1 v2 v3 σ = some q) : s_le σ q.2 := by
  unfold F_L_counter at h
  exact s_run_ind (V := fun x r => s_le x.2.2 r.2) (fun x z r hs hk => by
    have h9 := l_L_counter_s hs
    cases z with
    | inl y => exact s_le.tr h9 hk
    | inr q => cases hk; exact h9) h
set_option maxRecDepth 100000 in
set_option maxHeartbeats 4000000 in
theorem v_L_counter_0 {G : sG} {d : Nat} {vs0 : List Value} {σ0 : sS} {v0 : Nat} {v1 : Int32} {v2 : Int32} {v3 : Nat} {σ : sS} {z : sZ Int32} {r : Int32 × sS} (hf : T_L_counter_0 v0 v1 v2 v3 σ = some z) (k : s_K G (d + 7) M_L_counter vs0 σ0 Y_L_counter e_I z r) : s_V G (d + 7) M_L_counter vs0 σ0 Y_L_counter (0, [.ref v0, .int v1, .int v2, .ref v3], σ) (e_I r) := by
  have le0 : s_le σ (e_I r).2 := s_lek hem_I (l_L_counter_0 hf) k
  refine ⟨le0, ?_⟩
  intro p e s m below meth c H locs cells slots ls X I hn1 hn2 hl
  have hn : cells + σ0.2.1 ≤ σ.2.1 ∧ slots + σ0.2.2.1 ≤ σ.2.2.1 := ⟨hn1, hn2⟩
  have hl : lv_has ls 5 [(0, .ref v0), (1, .int v1), (2, .int v2), (3, .ref v3)] := hl
  have hx := X.1
  have hb : c.code = cL_counter := X.2.1
  have hown : s.vm.findClass RL = some m.cls := X.2.2.2.2.2.1
  have hts := X.2.2.2.2.2.2.1
  refine W.eq (g2 := F0 m 0 ls []) rfl ?_
  unfold T_L_counter_0 at hf
  obtain ⟨q1, h1, hf⟩ := s_bind hf
  refine lv_aload_n hx hb dL_counter_0 rfl (lv_at hl 3 rfl) ?_
  refine lv_iconst (v := 0) hx hb dL_counter_1 (by decide) ?_
  refine lv_aload_n hx hb dL_counter_2 rfl (lv_at hl 0 rfl) ?_
  refine lv_iload_n hx hb dL_counter_3 rfl (lv_at hl 1 rfl) ?_
  refine lv_iload_n hx hb dL_counter_4 rfl (lv_at hl 2 rfl) ?_
  rcases s_sum_some hf with ⟨x2, hq2, hf⟩ | ⟨E3, hq2, hf⟩
  · have le3 : s_le q1.2 (e_I r).2 := by
      refine s_lek hem_I ?_ k
      obtain ⟨σ4, hh, hf⟩ := s_bind hf
      refine s_lz.tr (s_le2 (s_sl_2 hh)) ?_
      cases hf
      exact s_le.rf
    refine r_callV (Y := M_X7_counter) (v := some (.int x2)) X I w_1268 my_X7_counter (by omega) (t_X7_counter (G := G) (d := d + 0) h1) (b_X7_counter h1) (e_IX_l hq2) rfl hl.1 rfl (Nat.le_of_ble_eq_true rfl) hn le3 dL_counter_5 (fun H locs cells slots I hn1 hn2 => ?_)
    have I : s_I G q1.2 s H locs := I
    have hn : cells + σ0.2.1 ≤ q1.2.2.1 ∧ slots + σ0.2.2.1 ≤ q1.2.2.2.1 := ⟨hn1, hn2⟩
    obtain ⟨σ4, h4, hf⟩ := s_bind hf
    cases hf
    have k : _ = r := k
    subst k
    have le5 : s_le σ4 σ4 := s_le.rf
    refine lv_i2l hx hb dL_counter_8 rfl ?_
    refine r_last X I h4 dL_counter_9 (fun H locs I => ?_)
    have hn := s_k2 (s_sl_2 h4) hn
    refine lv_goto (tgt := 17) hx hb dL_counter_10 (by decide) ?_
    refine lv_iconst (v := 0) hx hb dL_counter_17 (by decide) ?_
    exact r_iret X I rfl rfl rfl hn dL_counter_18
  · rcases s_ite hf with ⟨c6, hf⟩ | ⟨c6, hf⟩
    · subst c6
      have le7 : s_le q1.2 (e_I r).2 := by
        refine s_lek hem_I ?_ k
        cases hf
        exact s_le.rf
      refine r_callVh (x := (0, 10, 13, 27)) (Y := M_X7_counter) (E := "java/lang/IndexOutOfBoundsException") (name := "java/lang/IndexOutOfBoundsException") X I [] [] rfl (fun z hz => by cases hz) rfl (by decide) w_1011 (by decide +kernel) w_1268 my_X7_counter (by omega) (t_X7_counter (G := G) (d := d + 0) h1) (b_X7_counter h1) (e_IX_r hq2) rfl hl.1 rfl (Nat.le_of_ble_eq_true rfl) hn le7 dL_counter_5 (fun a5 H locs cells slots I hn1 hn2 => ?_)
      have I : s_I G q1.2 s H locs := I
      have hn : cells + σ0.2.1 ≤ q1.2.2.1 ∧ slots + σ0.2.2.1 ≤ q1.2.2.2.1 := ⟨hn1, hn2⟩
      cases hf
      have k : _ = r := k
      subst k
      refine lv_astore (lv' := [(4, .ref a5), (0, .ref v0), (1, .int v1), (2, .int v2), (3, .ref v3)]) hx hb dL_counter_13 hl (by decide) rfl (fun ls hl => ?_)
      refine lv_iconst (v := 1) hx hb dL_counter_15 (by decide) ?_
      exact r_iret X I rfl rfl rfl hn dL_counter_16
    cases hf
theorem v_L_counter {G : sG} {d : Nat} {vs0 : List Value} {σ0 : sS} {x : sL} {z : sZ Int32} {r : Int32 × sS} (hs : S_L_counter x = some z) (k : s_K G (d + 7) M_L_counter vs0 σ0 Y_L_counter e_I z r) : s_V G (d + 7) M_L_counter vs0 σ0 Y_L_counter x (e_I r) := by
  obtain ⟨pc, vs, σ⟩ := x
  unfold S_L_counter at hs
  dsimp only at hs
  rcases s_ite hs with ⟨c, hs⟩ | ⟨-, hs⟩
  · subst c
    unfold U_L_counter_0 at hs
    obtain ⟨a0, g0, hs⟩ := s_bind hs
    obtain ⟨a1, g1, hs⟩ := s_bind hs
    obtain ⟨a2, g2, hs⟩ := s_bind hs
    obtain ⟨a3, g3, hs⟩ := s_bind hs
    obtain ⟨u9, ge, hs⟩ := s_bind hs
    rw [g_r_to g0, g_i_to g1, g_i_to g2, g_r_to g3, g_e_to ge]
    exact v_L_counter_0 hs k
  cases hs
theorem t_L_counter {G : sG} {d : Nat} {v0 : Nat} {v1 : Int32} {v2 : Int32} {v3 : Nat} {σ : sS} {q : Int32 × sS} (h : F_L_counter v0 v1 v2 v3 σ = some q) : s_T G (d + 7) M_L_counter [.ref v0, .int v1, .int v2, .ref v3] σ (e_I q) := by
  unfold F_L_counter at h
  exact s_ofVH rfl (by decide) (Nat.le_of_ble_eq_true rfl) rfl rfl (s_run_ind (V := fun x r => s_V G (d + 7) M_L_counter [.ref v0, .int v1, .int v2, .ref v3] σ Y_L_counter x (e_I r)) (fun x z r hs hk => v_L_counter hs (by cases z <;> exact hk)) h)
/-! X1_nodeOfLine -/
noncomputable def T_X1_nodeOfLine_0 (v0 : Nat) (v1 : Int32) (σ : sS) : Option (sZ Int32) :=
  (F_X1_ofLine v0 v1 1 σ).bind fun q1 =>
  (F_X1_nodeOf v0 q1.1 q1.2).bind fun q2 =>
  some (.inr (q2.1, q2.2))
noncomputable def U_X1_nodeOfLine_0 (vs : List Value) (σ : sS) : Option (sZ Int32) := (g_r vs).bind fun a0 => (g_i a0.2).bind fun a1 => (g_e a1.2).bind fun _ => T_X1_nodeOfLine_0 a0.1 a1.1 σ
noncomputable def S_X1_nodeOfLine (x : sL) : Option (sZ Int32) := if x.1 = 0 then U_X1_nodeOfLine_0 x.2.1 x.2.2 else none
def Y_X1_nodeOfLine (pc : Nat) : List Nat := if pc = 0 then [0, 1] else []
noncomputable def F_X1_nodeOfLine (v0 : Nat) (v1 : Int32) (σ : sS) : Option (Int32 × sS) := (s_is σ v0 1).bind fun _ => s_run S_X1_nodeOfLine (0, [.ref v0, .int v1], σ)
theorem l_X1_nodeOfLine_0 {v0 : Nat} {v1 : Int32} {σ : sS} {z : sZ Int32} (hf : T_X1_nodeOfLine_0 v0 v1 σ = some z) : s_lz σ z := by
  unfold T_X1_nodeOfLine_0 at hf
  obtain ⟨q1, hh, hf⟩ := s_bind hf
  refine s_lz.tr (l_X1_ofLine hh) ?_
  obtain ⟨q2, hh, hf⟩ := s_bind hf
  refine s_lz.tr (l_X1_nodeOf hh) ?_
  cases hf
  exact s_le.rf
theorem l_X1_nodeOfLine_s {x : sL} {z : sZ Int32} (hs : S_X1_nodeOfLine x = some z) : s_lz x.2.2 z := by
  obtain ⟨pc, vs, σ⟩ := x
  unfold S_X1_nodeOfLine at hs
  dsimp only at hs ⊢
  rcases s_ite hs with ⟨c, hs⟩ | ⟨-, hs⟩
  · subst c
    unfold U_X1_nodeOfLine_0 at hs
    obtain ⟨a0, g0, hs⟩ := s_bind hs
    obtain ⟨a1, g1, hs⟩ := s_bind hs
    obtain ⟨u9, ge, hs⟩ := s_bind hs
    exact l_X1_nodeOfLine_0 hs
  cases hs
theorem l_X1_nodeOfLine {v0 : Nat} {v1 : Int32} {σ : sS} {q : Int32 × sS} (h : F_X1_nodeOfLine v0 v1 σ = some q) : s_le σ q.2 := by
  unfold F_X1_nodeOfLine at h
  obtain ⟨-, -, h⟩ := s_bind h
  exact s_run_ind (V := fun x r => s_le x.2.2 r.2) (fun x z r hs hk => by
    have h9 := l_X1_nodeOfLine_s hs
    cases z with
    | inl y => exact s_le.tr h9 hk
    | inr q => cases hk; exact h9) h
theorem b_X1_nodeOfLine {v0 : Nat} {v1 : Int32} {σ : sS} {q : Int32 × sS} (h : F_X1_nodeOfLine v0 v1 σ = some q) : ∃ fs, σ.1 v0 = some (.inr (1, fs)) := by
  unfold F_X1_nodeOfLine at h
  obtain ⟨u, hu, -⟩ := s_bind h
  exact s_is_to hu
set_option maxRecDepth 100000 in
set_option maxHeartbeats 4000000 in
theorem v_X1_nodeOfLine_0 {G : sG} {d : Nat} {vs0 : List Value} {σ0 : sS} {v0 : Nat} {v1 : Int32} {σ : sS} {z : sZ Int32} {r : Int32 × sS} (hf : T_X1_nodeOfLine_0 v0 v1 σ = some z) (k : s_K G (d + 2) M_X1_nodeOfLine vs0 σ0 Y_X1_nodeOfLine e_I z r) : s_V G (d + 2) M_X1_nodeOfLine vs0 σ0 Y_X1_nodeOfLine (0, [.ref v0, .int v1], σ) (e_I r) := by
  have le0 : s_le σ (e_I r).2 := s_lek hem_I (l_X1_nodeOfLine_0 hf) k
  refine ⟨le0, ?_⟩
  intro p e s m below meth c H locs cells slots ls X I hn1 hn2 hl
  have hn : cells + σ0.2.1 ≤ σ.2.1 ∧ slots + σ0.2.2.1 ≤ σ.2.2.1 := ⟨hn1, hn2⟩
  have hl : lv_has ls 2 [(0, .ref v0), (1, .int v1)] := hl
  have hx := X.1
  have hb : c.code = cX1_nodeOfLine := X.2.1
  have hown : s.vm.findClass RX1 = some m.cls := X.2.2.2.2.2.1
  have hts := X.2.2.2.2.2.2.1
  refine W.eq (g2 := F0 m 0 ls []) rfl ?_
  unfold T_X1_nodeOfLine_0 at hf
  obtain ⟨q1, h1, hf⟩ := s_bind hf
  obtain ⟨q2, h2, hf⟩ := s_bind hf
  cases hf
  have k : _ = r := k
  subst k
  have le3 : s_le q2.2 q2.2 := s_le.rf
  have le4 := s_le.tr (l_X1_nodeOf h2) le3
  refine lv_aload_n hx hb dX1_nodeOfLine_0 rfl (lv_at hl 0 rfl) ?_
  refine lv_aload_n hx hb dX1_nodeOfLine_1 rfl (lv_at hl 0 rfl) ?_
  refine lv_iload_n hx hb dX1_nodeOfLine_2 rfl (lv_at hl 1 rfl) ?_
  refine lv_iconst (v := 1) hx hb dX1_nodeOfLine_3 (by decide) ?_
  refine r_callV (Y := M_X1_ofLine) (v := some (.int q1.1)) X I w_529 my_X1_ofLine (by omega) (t_X1_ofLine (G := G) (d := d + 0) h1) (b_X1_ofLine h1) rfl rfl hl.1 rfl (Nat.le_of_ble_eq_true rfl) hn le4 dX1_nodeOfLine_4 (fun H locs cells slots I hn1 hn2 => ?_)
  have I : s_I G q1.2 s H locs := I
  have hn : cells + σ0.2.1 ≤ q1.2.2.1 ∧ slots + σ0.2.2.1 ≤ q1.2.2.2.1 := ⟨hn1, hn2⟩
  refine r_callV (Y := M_X1_nodeOf) (v := some (.int q2.1)) X I w_530 my_X1_nodeOf (by omega) (t_X1_nodeOf (G := G) (d := d + 0) h2) (b_X1_nodeOf h2) rfl rfl hl.1 rfl (Nat.le_of_ble_eq_true rfl) hn le3 dX1_nodeOfLine_7 (fun H locs cells slots I hn1 hn2 => ?_)
  have I : s_I G q2.2 s H locs := I
  have hn : cells + σ0.2.1 ≤ q2.2.2.1 ∧ slots + σ0.2.2.1 ≤ q2.2.2.2.1 := ⟨hn1, hn2⟩
  exact r_iret X I rfl rfl rfl hn dX1_nodeOfLine_10
theorem v_X1_nodeOfLine {G : sG} {d : Nat} {vs0 : List Value} {σ0 : sS} {x : sL} {z : sZ Int32} {r : Int32 × sS} (hs : S_X1_nodeOfLine x = some z) (k : s_K G (d + 2) M_X1_nodeOfLine vs0 σ0 Y_X1_nodeOfLine e_I z r) : s_V G (d + 2) M_X1_nodeOfLine vs0 σ0 Y_X1_nodeOfLine x (e_I r) := by
  obtain ⟨pc, vs, σ⟩ := x
  unfold S_X1_nodeOfLine at hs
  dsimp only at hs
  rcases s_ite hs with ⟨c, hs⟩ | ⟨-, hs⟩
  · subst c
    unfold U_X1_nodeOfLine_0 at hs
    obtain ⟨a0, g0, hs⟩ := s_bind hs
    obtain ⟨a1, g1, hs⟩ := s_bind hs
    obtain ⟨u9, ge, hs⟩ := s_bind hs
    rw [g_r_to g0, g_i_to g1, g_e_to ge]
    exact v_X1_nodeOfLine_0 hs k
  cases hs
theorem t_X1_nodeOfLine {G : sG} {d : Nat} {v0 : Nat} {v1 : Int32} {σ : sS} {q : Int32 × sS} (h : F_X1_nodeOfLine v0 v1 σ = some q) : s_T G (d + 2) M_X1_nodeOfLine [.ref v0, .int v1] σ (e_I q) := by
  unfold F_X1_nodeOfLine at h
  obtain ⟨-, -, h⟩ := s_bind h
  exact s_ofV rfl (by decide) (Nat.le_of_ble_eq_true rfl) rfl rfl (s_run_ind (V := fun x r => s_V G (d + 2) M_X1_nodeOfLine [.ref v0, .int v1] σ Y_X1_nodeOfLine x (e_I r)) (fun x z r hs hk => v_X1_nodeOfLine hs (by cases z <;> exact hk)) h)
/-! X0_staleIf -/
noncomputable def T_X0_staleIf_0 (v0 : Nat) (v1 : Int32) (v2 : Int32) (σ : sS) : Option (sZ Int64) :=
  some (.inl (5, [.ref v0, .int v1, .int v2, .long 0, .int 0], σ))
noncomputable def U_X0_staleIf_0 (vs : List Value) (σ : sS) : Option (sZ Int64) := (g_r vs).bind fun a0 => (g_i a0.2).bind fun a1 => (g_i a1.2).bind fun a2 => (g_e a2.2).bind fun _ => T_X0_staleIf_0 a0.1 a1.1 a2.1 σ
noncomputable def T_X0_staleIf_5 (v0 : Nat) (v1 : Int32) (v2 : Int32) (v3 : Int64) (v5 : Int32) (σ : sS) : Option (sZ Int64) :=
  (s_fr σ v0 0 5).bind fun x1 =>
  (s_fi σ x1 1 6).bind fun x2 =>
  if x2 ≤ v5 then (some (.inl (115, [.ref v0, .long v3, .long 0, .int 0], σ)))
  else ((s_fr σ v0 0 5).bind fun x3 =>
  (F_X1_ofLine x3 v5 3 σ).bind fun q4 =>
  if q4.1 = v1 then (some (.inl (48, [.ref v0, .int v1, .int v2, .long v3, .int v5, .int v2], q4.2)))
  else ((s_fr q4.2 v0 0 5).bind fun x5 =>
  (F_X1_toldTo x5 q4.1 q4.2).bind fun q6 =>
  some (.inl (48, [.ref v0, .int v1, .int v2, .long v3, .int v5, .int q6.1], q6.2))))
noncomputable def U_X0_staleIf_5 (vs : List Value) (σ : sS) : Option (sZ Int64) := (g_r vs).bind fun a0 => (g_i a0.2).bind fun a1 => (g_i a1.2).bind fun a2 => (g_l a2.2).bind fun a3 => (g_i a3.2).bind fun a4 => (g_e a4.2).bind fun _ => T_X0_staleIf_5 a0.1 a1.1 a2.1 a3.1 a4.1 σ
noncomputable def T_X0_staleIf_48 (v0 : Nat) (v1 : Int32) (v2 : Int32) (v3 : Int64) (v5 : Int32) (w0 : Int32) (σ : sS) : Option (sZ Int64) :=
  (s_fr σ v0 0 5).bind fun x1 =>
  (F_X1_ofLine x1 v5 2 σ).bind fun q2 =>
  if q2.1 = 0 then (some (.inl (68, [.ref v0, .int v1, .int v2, .long v3, .int v5, .int w0, .int 1], q2.2)))
  else (some (.inl (68, [.ref v0, .int v1, .int v2, .long v3, .int v5, .int w0, .int 0], q2.2)))
noncomputable def U_X0_staleIf_48 (vs : List Value) (σ : sS) : Option (sZ Int64) := (g_r vs).bind fun a0 => (g_i a0.2).bind fun a1 => (g_i a1.2).bind fun a2 => (g_l a2.2).bind fun a3 => (g_i a3.2).bind fun a4 => (g_i a4.2).bind fun a5 => (g_e a5.2).bind fun _ => T_X0_staleIf_48 a0.1 a1.1 a2.1 a3.1 a4.1 a5.1 σ
noncomputable def T_X0_staleIf_68 (v0 : Nat) (v1 : Int32) (v2 : Int32) (v3 : Int64) (v5 : Int32) (v7 : Int32) (w0 : Int32) (σ : sS) : Option (sZ Int64) :=
  if w0 = 0 then (some (.inl (103, [.ref v0, .int v1, .int v2, .long v3, .int v5], σ)))
  else ((s_fr σ v0 0 5).bind fun x1 =>
  (s_fr σ v0 0 5).bind fun x2 =>
  (F_X1_nodeOfLine x2 v5 σ).bind fun q3 =>
  (F_X1_isAmong x1 v7 q3.1 q3.2).bind fun q4 =>
  if q4.1 = 0 then (some (.inl (103, [.ref v0, .int v1, .int v2, .long (v3 ||| (1 <<< ((v5 : Int32).toInt64 &&& 63))), .int v5], q4.2)))
  else (some (.inl (103, [.ref v0, .int v1, .int v2, .long v3, .int v5], q4.2))))
noncomputable def U_X0_staleIf_68 (vs : List Value) (σ : sS) : Option (sZ Int64) := (g_r vs).bind fun a0 => (g_i a0.2).bind fun a1 => (g_i a1.2).bind fun a2 => (g_l a2.2).bind fun a3 => (g_i a3.2).bind fun a4 => (g_i a4.2).bind fun a5 => (g_i a5.2).bind fun a6 => (g_e a6.2).bind fun _ => T_X0_staleIf_68 a0.1 a1.1 a2.1 a3.1 a4.1 a5.1 a6.1 σ
noncomputable def T_X0_staleIf_103 (v0 : Nat) (v1 : Int32) (v2 : Int32) (v3 : Int64) (v5 : Int32) (σ : sS) : Option (sZ Int64) :=
  some (.inl (5, [.ref v0, .int v1, .int v2, .long v3, .int (v5 + 1)], σ))
noncomputable def U_X0_staleIf_103 (vs : List Value) (σ : sS) : Option (sZ Int64) := (g_r vs).bind fun a0 => (g_i a0.2).bind fun a1 => (g_i a1.2).bind fun a2 => (g_l a2.2).bind fun a3 => (g_i a3.2).bind fun a4 => (g_e a4.2).bind fun _ => T_X0_staleIf_103 a0.1 a1.1 a2.1 a3.1 a4.1 σ
noncomputable def T_X0_staleIf_115 (v0 : Nat) (v3 : Int64) (v5 : Int64) (v7 : Int32) (σ : sS) : Option (sZ Int64) :=
  (s_fr σ v0 0 5).bind fun x1 =>
  (s_fi σ x1 1 6).bind fun x2 =>
  if x2 ≤ v7 then (some (.inr (v5, σ)))
  else ((s_fr σ v0 0 5).bind fun x3 =>
  (s_fr σ x3 1 7).bind fun x4 =>
  (s_al σ x4 v7).bind fun x5 =>
  if (lg_cmp (x5 &&& v3) 0) = 0 then (some (.inl (153, [.ref v0, .long v3, .long v5, .int v7], σ)))
  else (some (.inl (153, [.ref v0, .long v3, .long (v5 ||| (1 <<< ((v7 : Int32).toInt64 &&& 63))), .int v7], σ))))
noncomputable def U_X0_staleIf_115 (vs : List Value) (σ : sS) : Option (sZ Int64) := (g_r vs).bind fun a0 => (g_l a0.2).bind fun a1 => (g_l a1.2).bind fun a2 => (g_i a2.2).bind fun a3 => (g_e a3.2).bind fun _ => T_X0_staleIf_115 a0.1 a1.1 a2.1 a3.1 σ
noncomputable def T_X0_staleIf_153 (v0 : Nat) (v3 : Int64) (v5 : Int64) (v7 : Int32) (σ : sS) : Option (sZ Int64) :=
  some (.inl (115, [.ref v0, .long v3, .long v5, .int (v7 + 1)], σ))
noncomputable def U_X0_staleIf_153 (vs : List Value) (σ : sS) : Option (sZ Int64) := (g_r vs).bind fun a0 => (g_l a0.2).bind fun a1 => (g_l a1.2).bind fun a2 => (g_i a2.2).bind fun a3 => (g_e a3.2).bind fun _ => T_X0_staleIf_153 a0.1 a1.1 a2.1 a3.1 σ
noncomputable def S_X0_staleIf (x : sL) : Option (sZ Int64) := if x.1 = 0 then U_X0_staleIf_0 x.2.1 x.2.2 else if x.1 = 5 then U_X0_staleIf_5 x.2.1 x.2.2 else if x.1 = 48 then U_X0_staleIf_48 x.2.1 x.2.2 else if x.1 = 68 then U_X0_staleIf_68 x.2.1 x.2.2 else if x.1 = 103 then U_X0_staleIf_103 x.2.1 x.2.2 else if x.1 = 115 then U_X0_staleIf_115 x.2.1 x.2.2 else if x.1 = 153 then U_X0_staleIf_153 x.2.1 x.2.2 else none
def Y_X0_staleIf (pc : Nat) : List Nat := if pc = 0 then [0, 1, 2] else if pc = 5 then [0, 1, 2, 3, 5] else if pc = 48 then [0, 1, 2, 3, 5] else if pc = 68 then [0, 1, 2, 3, 5, 7] else if pc = 103 then [0, 1, 2, 3, 5] else if pc = 115 then [0, 3, 5, 7] else if pc = 153 then [0, 3, 5, 7] else []
noncomputable def F_X0_staleIf (v0 : Nat) (v1 : Int32) (v2 : Int32) (σ : sS) : Option (Int64 × sS) := (s_is σ v0 0).bind fun _ => s_run S_X0_staleIf (0, [.ref v0, .int v1, .int v2], σ)
theorem l_X0_staleIf_0 {v0 : Nat} {v1 : Int32} {v2 : Int32} {σ : sS} {z : sZ Int64} (hf : T_X0_staleIf_0 v0 v1 v2 σ = some z) : s_lz σ z := by
  unfold T_X0_staleIf_0 at hf
  cases hf
  exact s_le.rf
theorem l_X0_staleIf_5 {v0 : Nat} {v1 : Int32} {v2 : Int32} {v3 : Int64} {v5 : Int32} {σ : sS} {z : sZ Int64} (hf : T_X0_staleIf_5 v0 v1 v2 v3 v5 σ = some z) : s_lz σ z := by
  unfold T_X0_staleIf_5 at hf
  obtain ⟨x1, -, hf⟩ := s_bind hf
  obtain ⟨x2, -, hf⟩ := s_bind hf
  rcases s_ite hf with ⟨-, hf⟩ | ⟨-, hf⟩
  · cases hf
    exact s_le.rf
  · obtain ⟨x3, -, hf⟩ := s_bind hf
    obtain ⟨q4, hh, hf⟩ := s_bind hf
    refine s_lz.tr (l_X1_ofLine hh) ?_
    rcases s_ite hf with ⟨-, hf⟩ | ⟨-, hf⟩
    · cases hf
      exact s_le.rf
    · obtain ⟨x5, -, hf⟩ := s_bind hf
      obtain ⟨q6, hh, hf⟩ := s_bind hf
      refine s_lz.tr (l_X1_toldTo hh) ?_
      cases hf
      exact s_le.rf
theorem l_X0_staleIf_48 {v0 : Nat} {v1 : Int32} {v2 : Int32} {v3 : Int64} {v5 : Int32} {w0 : Int32} {σ : sS} {z : sZ Int64} (hf : T_X0_staleIf_48 v0 v1 v2 v3 v5 w0 σ = some z) : s_lz σ z := by
  unfold T_X0_staleIf_48 at hf
  obtain ⟨x1, -, hf⟩ := s_bind hf
  obtain ⟨q2, hh, hf⟩ := s_bind hf
  refine s_lz.tr (l_X1_ofLine hh) ?_
  rcases s_ite hf with ⟨-, hf⟩ | ⟨-, hf⟩
  · cases hf
    exact s_le.rf
  · cases hf
    exact s_le.rf
theorem l_X0_staleIf_68 {v0 : Nat} {v1 : Int32} {v2 : Int32} {v3 : Int64} {v5 : Int32} {v7 : Int32} {w0 : Int32} {σ : sS} {z : sZ Int64} (hf : T_X0_staleIf_68 v0 v1 v2 v3 v5 v7 w0 σ = some z) : s_lz σ z := by
  unfold T_X0_staleIf_68 at hf
  rcases s_ite hf with ⟨-, hf⟩ | ⟨-, hf⟩
  · cases hf
    exact s_le.rf
  · obtain ⟨x1, -, hf⟩ := s_bind hf
    obtain ⟨x2, -, hf⟩ := s_bind hf
    obtain ⟨q3, hh, hf⟩ := s_bind hf
    refine s_lz.tr (l_X1_nodeOfLine hh) ?_
    obtain ⟨q4, hh, hf⟩ := s_bind hf
    refine s_lz.tr (l_X1_isAmong hh) ?_
    rcases s_ite hf with ⟨-, hf⟩ | ⟨-, hf⟩
    · cases hf
      exact s_le.rf
    · cases hf
      exact s_le.rf
theorem l_X0_staleIf_103 {v0 : Nat} {v1 : Int32} {v2 : Int32} {v3 : Int64} {v5 : Int32} {σ : sS} {z : sZ Int64} (hf : T_X0_staleIf_103 v0 v1 v2 v3 v5 σ = some z) : s_lz σ z := by
  unfold T_X0_staleIf_103 at hf
  cases hf
  exact s_le.rf
theorem l_X0_staleIf_115 {v0 : Nat} {v3 : Int64} {v5 : Int64} {v7 : Int32} {σ : sS} {z : sZ Int64} (hf : T_X0_staleIf_115 v0 v3 v5 v7 σ = some z) : s_lz σ z := by
  unfold T_X0_staleIf_115 at hf
  obtain ⟨x1, -, hf⟩ := s_bind hf
  obtain ⟨x2, -, hf⟩ := s_bind hf
  rcases s_ite hf with ⟨-, hf⟩ | ⟨-, hf⟩
  · cases hf
    exact s_le.rf
  · obtain ⟨x3, -, hf⟩ := s_bind hf
    obtain ⟨x4, -, hf⟩ := s_bind hf
    obtain ⟨x5, -, hf⟩ := s_bind hf
    rcases s_ite hf with ⟨-, hf⟩ | ⟨-, hf⟩
    · cases hf
      exact s_le.rf
    · cases hf
      exact s_le.rf
theorem l_X0_staleIf_153 {v0 : Nat} {v3 : Int64} {v5 : Int64} {v7 : Int32} {σ : sS} {z : sZ Int64} (hf : T_X0_staleIf_153 v0 v3 v5 v7 σ = some z) : s_lz σ z := by
  unfold T_X0_staleIf_153 at hf
  cases hf
  exact s_le.rf
theorem l_X0_staleIf_s {x : sL} {z : sZ Int64} (hs : S_X0_staleIf x = some z) : s_lz x.2.2 z := by
  obtain ⟨pc, vs, σ⟩ := x
  unfold S_X0_staleIf at hs
  dsimp only at hs ⊢
  rcases s_ite hs with ⟨c, hs⟩ | ⟨-, hs⟩
  · subst c
    unfold U_X0_staleIf_0 at hs
    obtain ⟨a0, g0, hs⟩ := s_bind hs
    obtain ⟨a1, g1, hs⟩ := s_bind hs
    obtain ⟨a2, g2, hs⟩ := s_bind hs
    obtain ⟨u9, ge, hs⟩ := s_bind hs
    exact l_X0_staleIf_0 hs
  rcases s_ite hs with ⟨c, hs⟩ | ⟨-, hs⟩
  · subst c
    unfold U_X0_staleIf_5 at hs
    obtain ⟨a0, g0, hs⟩ := s_bind hs
    obtain ⟨a1, g1, hs⟩ := s_bind hs
    obtain ⟨a2, g2, hs⟩ := s_bind hs
    obtain ⟨a3, g3, hs⟩ := s_bind hs
    obtain ⟨a4, g4, hs⟩ := s_bind hs
    obtain ⟨u9, ge, hs⟩ := s_bind hs
    exact l_X0_staleIf_5 hs
  rcases s_ite hs with ⟨c, hs⟩ | ⟨-, hs⟩
  · subst c
    unfold U_X0_staleIf_48 at hs
    obtain ⟨a0, g0, hs⟩ := s_bind hs
    obtain ⟨a1, g1, hs⟩ := s_bind hs
    obtain ⟨a2, g2, hs⟩ := s_bind hs
    obtain ⟨a3, g3, hs⟩ := s_bind hs
    obtain ⟨a4, g4, hs⟩ := s_bind hs
    obtain ⟨a5, g5, hs⟩ := s_bind hs
    obtain ⟨u9, ge, hs⟩ := s_bind hs
    exact l_X0_staleIf_48 hs
  rcases s_ite hs with ⟨c, hs⟩ | ⟨-, hs⟩
  · subst c
    unfold U_X0_staleIf_68 at hs
    obtain ⟨a0, g0, hs⟩ := s_bind hs
    obtain ⟨a1, g1, hs⟩ := s_bind hs
    obtain ⟨a2, g2, hs⟩ := s_bind hs
    obtain ⟨a3, g3, hs⟩ := s_bind hs
    obtain ⟨a4, g4, hs⟩ := s_bind hs
    obtain ⟨a5, g5, hs⟩ := s_bind hs
    obtain ⟨a6, g6, hs⟩ := s_bind hs
    obtain ⟨u9, ge, hs⟩ := s_bind hs
    exact l_X0_staleIf_68 hs
  rcases s_ite hs with ⟨c, hs⟩ | ⟨-, hs⟩
  · subst c
    unfold U_X0_staleIf_103 at hs
    obtain ⟨a0, g0, hs⟩ := s_bind hs
    obtain ⟨a1, g1, hs⟩ := s_bind hs
    obtain ⟨a2, g2, hs⟩ := s_bind hs
    obtain ⟨a3, g3, hs⟩ := s_bind hs
    obtain ⟨a4, g4, hs⟩ := s_bind hs
    obtain ⟨u9, ge, hs⟩ := s_bind hs
    exact l_X0_staleIf_103 hs
  rcases s_ite hs with ⟨c, hs⟩ | ⟨-, hs⟩
  · subst c
    unfold U_X0_staleIf_115 at hs
    obtain ⟨a0, g0, hs⟩ := s_bind hs
    obtain ⟨a1, g1, hs⟩ := s_bind hs
    obtain ⟨a2, g2, hs⟩ := s_bind hs
    obtain ⟨a3, g3, hs⟩ := s_bind hs
    obtain ⟨u9, ge, hs⟩ := s_bind hs
    exact l_X0_staleIf_115 hs
  rcases s_ite hs with ⟨c, hs⟩ | ⟨-, hs⟩
  · subst c
    unfold U_X0_staleIf_153 at hs
    obtain ⟨a0, g0, hs⟩ := s_bind hs
    obtain ⟨a1, g1, hs⟩ := s_bind hs
    obtain ⟨a2, g2, hs⟩ := s_bind hs
    obtain ⟨a3, g3, hs⟩ := s_bind hs
    obtain ⟨u9, ge, hs⟩ := s_bind hs
    exact l_X0_staleIf_153 hs
  cases hs
theorem l_X0_staleIf {v0 : Nat} {v1 : Int32} {v2 : Int32} {σ : sS} {q : Int64 × sS} (h : F_X0_staleIf v0 v1 v2 σ = some q) : s_le σ q.2 := by
  unfold F_X0_staleIf at h
  obtain ⟨-, -, h⟩ := s_bind h
  exact s_run_ind (V := fun x r => s_le x.2.2 r.2) (fun x z r hs hk => by
    have h9 := l_X0_staleIf_s hs
    cases z with
    | inl y => exact s_le.tr h9 hk
    | inr q => cases hk; exact h9) h
theorem b_X0_staleIf {v0 : Nat} {v1 : Int32} {v2 : Int32} {σ : sS} {q : Int64 × sS} (h : F_X0_staleIf v0 v1 v2 σ = some q) : ∃ fs, σ.1 v0 = some (.inr (0, fs)) := by
  unfold F_X0_staleIf at h
  obtain ⟨u, hu, -⟩ := s_bind h
  exact s_is_to hu
set_option maxRecDepth 100000 in
set_option maxHeartbeats 4000000 in
theorem v_X0_staleIf_0 {G : sG} {d : Nat} {vs0 : List Value} {σ0 : sS} {v0 : Nat} {v1 : Int32} {v2 : Int32} {σ : sS} {z : sZ Int64} {r : Int64 × sS} (hf : T_X0_staleIf_0 v0 v1 v2 σ = some z) (k : s_K G (d + 3) M_X0_staleIf vs0 σ0 Y_X0_staleIf e_J z r) : s_V G (d + 3) M_X0_staleIf vs0 σ0 Y_X0_staleIf (0, [.ref v0, .int v1, .int v2], σ) (e_J r) := by
  have le0 : s_le σ (e_J r).2 := s_lek hem_J (l_X0_staleIf_0 hf) k
  refine ⟨le0, ?_⟩
  intro p e s m below meth c H locs cells slots ls X I hn1 hn2 hl
  have hn : cells + σ0.2.1 ≤ σ.2.1 ∧ slots + σ0.2.2.1 ≤ σ.2.2.1 := ⟨hn1, hn2⟩
  have hl : lv_has ls 9 [(0, .ref v0), (1, .int v1), (2, .int v2)] := hl
  have hx := X.1
  have hb : c.code = cX0_staleIf := X.2.1
  have hown : s.vm.findClass RX0 = some m.cls := X.2.2.2.2.2.1
  have hts := X.2.2.2.2.2.2.1
  refine W.eq (g2 := F0 m 0 ls []) rfl ?_
  unfold T_X0_staleIf_0 at hf
  cases hf
  have k : s_V G (d + 3) M_X0_staleIf vs0 σ0 Y_X0_staleIf (5, [.ref v0, .int v1, .int v2, .long 0, .int 0], σ) (e_J r) := k
  refine lv_lconst (v := 0) hx hb dX0_staleIf_0 (by decide) ?_
  refine lv_lstore_n (lv' := [(3, .long 0), (0, .ref v0), (1, .int v1), (2, .int v2)]) hx hb dX0_staleIf_1 rfl hl (by decide) rfl (fun ls hl => ?_)
  refine lv_iconst (v := 0) hx hb dX0_staleIf_2 (by decide) ?_
  refine lv_istore (lv' := [(5, .int 0), (3, .long 0), (0, .ref v0), (1, .int v1), (2, .int v2)]) hx hb dX0_staleIf_3 hl (by decide) rfl (fun ls hl => ?_)
  exact k.2 p e s m below meth c _ _ _ _ _ X I hn.1 hn.2 (lv_sub hl [2, 3, 4, 1, 0] rfl)
set_option maxRecDepth 100000 in
set_option maxHeartbeats 4000000 in
theorem v_X0_staleIf_5 {G : sG} {d : Nat} {vs0 : List Value} {σ0 : sS} {v0 : Nat} {v1 : Int32} {v2 : Int32} {v3 : Int64} {v5 : Int32} {σ : sS} {z : sZ Int64} {r : Int64 × sS} (hf : T_X0_staleIf_5 v0 v1 v2 v3 v5 σ = some z) (k : s_K G (d + 3) M_X0_staleIf vs0 σ0 Y_X0_staleIf e_J z r) : s_V G (d + 3) M_X0_staleIf vs0 σ0 Y_X0_staleIf (5, [.ref v0, .int v1, .int v2, .long v3, .int v5], σ) (e_J r) := by
  have le0 : s_le σ (e_J r).2 := s_lek hem_J (l_X0_staleIf_5 hf) k
  refine ⟨le0, ?_⟩
  intro p e s m below meth c H locs cells slots ls X I hn1 hn2 hl
  have hn : cells + σ0.2.1 ≤ σ.2.1 ∧ slots + σ0.2.2.1 ≤ σ.2.2.1 := ⟨hn1, hn2⟩
  have hl : lv_has ls 9 [(0, .ref v0), (1, .int v1), (2, .int v2), (3, .long v3), (5, .int v5)] := hl
  have hx := X.1
  have hb : c.code = cX0_staleIf := X.2.1
  have hown : s.vm.findClass RX0 = some m.cls := X.2.2.2.2.2.1
  have hts := X.2.2.2.2.2.2.1
  refine W.eq (g2 := F0 m 5 ls []) rfl ?_
  unfold T_X0_staleIf_5 at hf
  obtain ⟨x1, h1, hf⟩ := s_bind hf
  obtain ⟨x2, h2, hf⟩ := s_bind hf
  refine lv_iload hx hb dX0_staleIf_5 (lv_at hl 4 rfl) ?_
  refine lv_aload_n hx hb dX0_staleIf_7 rfl (lv_at hl 0 rfl) ?_
  refine r_gr X I fl_X0_15 h1 dX0_staleIf_8 ?_
  refine r_gi X I fl_X0_40 h2 dX0_staleIf_11 ?_
  rcases s_ite hf with ⟨c3, hf⟩ | ⟨c3, hf⟩
  · refine lv_icmp_ge (tgt := 109) hx hb dX0_staleIf_14 (by decide) (fun _ => ?_) (fun n => absurd c3 n)
    cases hf
    have k : s_V G (d + 3) M_X0_staleIf vs0 σ0 Y_X0_staleIf (115, [.ref v0, .long v3, .long 0, .int 0], σ) (e_J r) := k
    refine lv_lconst (v := 0) hx hb dX0_staleIf_109 (by decide) ?_
    refine lv_lstore (lv' := [(5, .long 0), (0, .ref v0), (1, .int v1), (2, .int v2), (3, .long v3)]) hx hb dX0_staleIf_110 hl (by decide) rfl (fun ls hl => ?_)
    refine lv_iconst (v := 0) hx hb dX0_staleIf_112 (by decide) ?_
    refine lv_istore (lv' := [(7, .int 0), (5, .long 0), (0, .ref v0), (1, .int v1), (2, .int v2), (3, .long v3)]) hx hb dX0_staleIf_113 hl (by decide) rfl (fun ls hl => ?_)
    exact k.2 p e s m below meth c _ _ _ _ _ X I hn.1 hn.2 (lv_sub hl [2, 5, 1, 0] rfl)
  · refine lv_icmp_ge (tgt := 109) hx hb dX0_staleIf_14 (by decide) (fun n => absurd n c3) (fun _ => ?_)
    obtain ⟨x3, h4, hf⟩ := s_bind hf
    obtain ⟨q4, h5, hf⟩ := s_bind hf
    have le6 : s_le q4.2 (e_J r).2 := by
      refine s_lek hem_J ?_ k
      rcases s_ite hf with ⟨-, hf⟩ | ⟨-, hf⟩
      · cases hf
        exact s_le.rf
      · obtain ⟨x5, -, hf⟩ := s_bind hf
        obtain ⟨q6, hh, hf⟩ := s_bind hf
        refine s_lz.tr (l_X1_toldTo hh) ?_
        cases hf
        exact s_le.rf
    refine lv_aload_n hx hb dX0_staleIf_17 rfl (lv_at hl 0 rfl) ?_
    refine r_gr X I fl_X0_15 h4 dX0_staleIf_18 ?_
    refine lv_iload hx hb dX0_staleIf_21 (lv_at hl 4 rfl) ?_
    refine lv_iconst (v := 3) hx hb dX0_staleIf_23 (by decide) ?_
    refine r_callV (Y := M_X1_ofLine) (v := some (.int q4.1)) X I w_517 my_X1_ofLine (by omega) (t_X1_ofLine (G := G) (d := d + 1) h5) (b_X1_ofLine h5) rfl rfl hl.1 rfl (Nat.le_of_ble_eq_true rfl) hn le6 dX0_staleIf_24 (fun H locs cells slots I hn1 hn2 => ?_)
    have I : s_I G q4.2 s H locs := I
    have hn : cells + σ0.2.1 ≤ q4.2.2.1 ∧ slots + σ0.2.2.1 ≤ q4.2.2.2.1 := ⟨hn1, hn2⟩
    refine lv_istore (lv' := [(6, .int q4.1), (0, .ref v0), (1, .int v1), (2, .int v2), (3, .long v3), (5, .int v5)]) hx hb dX0_staleIf_27 hl (by decide) rfl (fun ls hl => ?_)
    refine lv_iload hx hb dX0_staleIf_29 (lv_at hl 0 rfl) ?_
    refine lv_iload_n hx hb dX0_staleIf_31 rfl (lv_at hl 2 rfl) ?_
    rcases s_ite hf with ⟨c7, hf⟩ | ⟨c7, hf⟩
    · refine lv_icmp_ne (tgt := 39) hx hb dX0_staleIf_32 (by decide) (fun n => absurd c7 n) (fun _ => ?_)
      cases hf
      have k : s_V G (d + 3) M_X0_staleIf vs0 σ0 Y_X0_staleIf (48, [.ref v0, .int v1, .int v2, .long v3, .int v5, .int v2], q4.2) (e_J r) := k
      refine lv_iload_n hx hb dX0_staleIf_35 rfl (lv_at hl 3 rfl) ?_
      refine lv_goto (tgt := 48) hx hb dX0_staleIf_36 (by decide) ?_
      exact k.2 p e s m below meth c _ _ _ _ _ X I hn.1 hn.2 (lv_sub hl [1, 2, 3, 4, 5] rfl)
    · refine lv_icmp_ne (tgt := 39) hx hb dX0_staleIf_32 (by decide) (fun _ => ?_) (fun n => absurd n c7)
      obtain ⟨x5, h8, hf⟩ := s_bind hf
      obtain ⟨q6, h9, hf⟩ := s_bind hf
      cases hf
      have k : s_V G (d + 3) M_X0_staleIf vs0 σ0 Y_X0_staleIf (48, [.ref v0, .int v1, .int v2, .long v3, .int v5, .int q6.1], q6.2) (e_J r) := k
      have le10 : s_le q6.2 (e_J r).2 := k.1
      refine lv_aload_n hx hb dX0_staleIf_39 rfl (lv_at hl 1 rfl) ?_
      refine r_gr X I fl_X0_15 h8 dX0_staleIf_40 ?_
      refine lv_iload hx hb dX0_staleIf_43 (lv_at hl 0 rfl) ?_
      refine r_callV (Y := M_X1_toldTo) (v := some (.int q6.1)) X I w_521 my_X1_toldTo (by omega) (t_X1_toldTo (G := G) (d := d + 1) h9) (b_X1_toldTo h9) rfl rfl hl.1 rfl (Nat.le_of_ble_eq_true rfl) hn le10 dX0_staleIf_45 (fun H locs cells slots I hn1 hn2 => ?_)
      have I : s_I G q6.2 s H locs := I
      have hn : cells + σ0.2.1 ≤ q6.2.2.1 ∧ slots + σ0.2.2.1 ≤ q6.2.2.2.1 := ⟨hn1, hn2⟩
      exact k.2 p e s m below meth c _ _ _ _ _ X I hn.1 hn.2 (lv_sub hl [1, 2, 3, 4, 5] rfl)
set_option maxRecDepth 100000 in
set_option maxHeartbeats 4000000 in
theorem v_X0_staleIf_48 {G : sG} {d : Nat} {vs0 : List Value} {σ0 : sS} {v0 : Nat} {v1 : Int32} {v2 : Int32} {v3 : Int64} {v5 : Int32} {w0 : Int32} {σ : sS} {z : sZ Int64} {r : Int64 × sS} (hf : T_X0_staleIf_48 v0 v1 v2 v3 v5 w0 σ = some z) (k : s_K G (d + 3) M_X0_staleIf vs0 σ0 Y_X0_staleIf e_J z r) : s_V G (d + 3) M_X0_staleIf vs0 σ0 Y_X0_staleIf (48, [.ref v0, .int v1, .int v2, .long v3, .int v5, .int w0], σ) (e_J r) := by
  have le0 : s_le σ (e_J r).2 := s_lek hem_J (l_X0_staleIf_48 hf) k
  refine ⟨le0, ?_⟩
  intro p e s m below meth c H locs cells slots ls X I hn1 hn2 hl
  have hn : cells + σ0.2.1 ≤ σ.2.1 ∧ slots + σ0.2.2.1 ≤ σ.2.2.1 := ⟨hn1, hn2⟩
  have hl : lv_has ls 9 [(0, .ref v0), (1, .int v1), (2, .int v2), (3, .long v3), (5, .int v5)] := hl
  have hx := X.1
  have hb : c.code = cX0_staleIf := X.2.1
  have hown : s.vm.findClass RX0 = some m.cls := X.2.2.2.2.2.1
  have hts := X.2.2.2.2.2.2.1
  refine W.eq (g2 := F0 m 48 ls [.int w0]) rfl ?_
  unfold T_X0_staleIf_48 at hf
  obtain ⟨x1, h1, hf⟩ := s_bind hf
  obtain ⟨q2, h2, hf⟩ := s_bind hf
  have le3 : s_le q2.2 (e_J r).2 := by
    refine s_lek hem_J ?_ k
    rcases s_ite hf with ⟨-, hf⟩ | ⟨-, hf⟩
    · cases hf
      exact s_le.rf
    · cases hf
      exact s_le.rf
  refine lv_istore (lv' := [(7, .int w0), (0, .ref v0), (1, .int v1), (2, .int v2), (3, .long v3), (5, .int v5)]) hx hb dX0_staleIf_48 hl (by decide) rfl (fun ls hl => ?_)
  refine lv_aload_n hx hb dX0_staleIf_50 rfl (lv_at hl 1 rfl) ?_
  refine r_gr X I fl_X0_15 h1 dX0_staleIf_51 ?_
  refine lv_iload hx hb dX0_staleIf_54 (lv_at hl 5 rfl) ?_
  refine lv_iconst (v := 2) hx hb dX0_staleIf_56 (by decide) ?_
  refine r_callV (Y := M_X1_ofLine) (v := some (.int q2.1)) X I w_517 my_X1_ofLine (by omega) (t_X1_ofLine (G := G) (d := d + 1) h2) (b_X1_ofLine h2) rfl rfl hl.1 rfl (Nat.le_of_ble_eq_true rfl) hn le3 dX0_staleIf_57 (fun H locs cells slots I hn1 hn2 => ?_)
  have I : s_I G q2.2 s H locs := I
  have hn : cells + σ0.2.1 ≤ q2.2.2.1 ∧ slots + σ0.2.2.1 ≤ q2.2.2.2.1 := ⟨hn1, hn2⟩
  rcases s_ite hf with ⟨c4, hf⟩ | ⟨c4, hf⟩
  · refine lv_if_ne (tgt := 67) hx hb dX0_staleIf_60 (by decide) (fun n => absurd c4 n) (fun _ => ?_)
    cases hf
    have k : s_V G (d + 3) M_X0_staleIf vs0 σ0 Y_X0_staleIf (68, [.ref v0, .int v1, .int v2, .long v3, .int v5, .int w0, .int 1], q2.2) (e_J r) := k
    refine lv_iconst (v := 1) hx hb dX0_staleIf_63 (by decide) ?_
    refine lv_goto (tgt := 68) hx hb dX0_staleIf_64 (by decide) ?_
    exact k.2 p e s m below meth c _ _ _ _ _ X I hn.1 hn.2 (lv_sub hl [1, 2, 3, 4, 5, 0] rfl)
  · refine lv_if_ne (tgt := 67) hx hb dX0_staleIf_60 (by decide) (fun _ => ?_) (fun n => absurd n c4)
    cases hf
    have k : s_V G (d + 3) M_X0_staleIf vs0 σ0 Y_X0_staleIf (68, [.ref v0, .int v1, .int v2, .long v3, .int v5, .int w0, .int 0], q2.2) (e_J r) := k
    refine lv_iconst (v := 0) hx hb dX0_staleIf_67 (by decide) ?_
    exact k.2 p e s m below meth c _ _ _ _ _ X I hn.1 hn.2 (lv_sub hl [1, 2, 3, 4, 5, 0] rfl)
set_option maxRecDepth 100000 in
set_option maxHeartbeats 4000000 in
theorem v_X0_staleIf_68 {G : sG} {d : Nat} {vs0 : List Value} {σ0 : sS} {v0 : Nat} {v1 : Int32} {v2 : Int32} {v3 : Int64} {v5 : Int32} {v7 : Int32} {w0 : Int32} {σ : sS} {z : sZ Int64} {r : Int64 × sS} (hf : T_X0_staleIf_68 v0 v1 v2 v3 v5 v7 w0 σ = some z) (k : s_K G (d + 3) M_X0_staleIf vs0 σ0 Y_X0_staleIf e_J z r) : s_V G (d + 3) M_X0_staleIf vs0 σ0 Y_X0_staleIf (68, [.ref v0, .int v1, .int v2, .long v3, .int v5, .int v7, .int w0], σ) (e_J r) := by
  have le0 : s_le σ (e_J r).2 := s_lek hem_J (l_X0_staleIf_68 hf) k
  refine ⟨le0, ?_⟩
  intro p e s m below meth c H locs cells slots ls X I hn1 hn2 hl
  have hn : cells + σ0.2.1 ≤ σ.2.1 ∧ slots + σ0.2.2.1 ≤ σ.2.2.1 := ⟨hn1, hn2⟩
  have hl : lv_has ls 9 [(0, .ref v0), (1, .int v1), (2, .int v2), (3, .long v3), (5, .int v5), (7, .int v7)] := hl
  have hx := X.1
  have hb : c.code = cX0_staleIf := X.2.1
  have hown : s.vm.findClass RX0 = some m.cls := X.2.2.2.2.2.1
  have hts := X.2.2.2.2.2.2.1
  refine W.eq (g2 := F0 m 68 ls [.int w0]) rfl ?_
  unfold T_X0_staleIf_68 at hf
  refine lv_istore (lv' := [(8, .int w0), (0, .ref v0), (1, .int v1), (2, .int v2), (3, .long v3), (5, .int v5), (7, .int v7)]) hx hb dX0_staleIf_68 hl (by decide) rfl (fun ls hl => ?_)
  refine lv_iload hx hb dX0_staleIf_70 (lv_at hl 0 rfl) ?_
  rcases s_ite hf with ⟨c1, hf⟩ | ⟨c1, hf⟩
  · refine lv_if_eq (tgt := 103) hx hb dX0_staleIf_72 (by decide) (fun _ => ?_) (fun n => absurd c1 n)
    cases hf
    have k : s_V G (d + 3) M_X0_staleIf vs0 σ0 Y_X0_staleIf (103, [.ref v0, .int v1, .int v2, .long v3, .int v5], σ) (e_J r) := k
    exact k.2 p e s m below meth c _ _ _ _ _ X I hn.1 hn.2 (lv_sub hl [1, 2, 3, 4, 5] rfl)
  · refine lv_if_eq (tgt := 103) hx hb dX0_staleIf_72 (by decide) (fun n => absurd n c1) (fun _ => ?_)
    obtain ⟨x1, h2, hf⟩ := s_bind hf
    obtain ⟨x2, h3, hf⟩ := s_bind hf
    obtain ⟨q3, h4, hf⟩ := s_bind hf
    obtain ⟨q4, h5, hf⟩ := s_bind hf
    have le6 : s_le q4.2 (e_J r).2 := by
      refine s_lek hem_J ?_ k
      rcases s_ite hf with ⟨-, hf⟩ | ⟨-, hf⟩
      · cases hf
        exact s_le.rf
      · cases hf
        exact s_le.rf
    have le7 := s_le.tr (l_X1_isAmong h5) le6
    refine lv_aload_n hx hb dX0_staleIf_75 rfl (lv_at hl 1 rfl) ?_
    refine r_gr X I fl_X0_15 h2 dX0_staleIf_76 ?_
    refine lv_iload hx hb dX0_staleIf_79 (lv_at hl 6 rfl) ?_
    refine lv_aload_n hx hb dX0_staleIf_81 rfl (lv_at hl 1 rfl) ?_
    refine r_gr X I fl_X0_15 h3 dX0_staleIf_82 ?_
    refine lv_iload hx hb dX0_staleIf_85 (lv_at hl 5 rfl) ?_
    refine r_callV (Y := M_X1_nodeOfLine) (v := some (.int q3.1)) X I w_525 my_X1_nodeOfLine (by omega) (t_X1_nodeOfLine (G := G) (d := d + 0) h4) (b_X1_nodeOfLine h4) rfl rfl hl.1 rfl (Nat.le_of_ble_eq_true rfl) hn le7 dX0_staleIf_87 (fun H locs cells slots I hn1 hn2 => ?_)
    have I : s_I G q3.2 s H locs := I
    have hn : cells + σ0.2.1 ≤ q3.2.2.1 ∧ slots + σ0.2.2.1 ≤ q3.2.2.2.1 := ⟨hn1, hn2⟩
    refine r_callV (Y := M_X1_isAmong) (v := some (.int q4.1)) X I w_534 my_X1_isAmong (by omega) (t_X1_isAmong (G := G) (d := d + 1) h5) (b_X1_isAmong h5) rfl rfl hl.1 rfl (Nat.le_of_ble_eq_true rfl) hn le6 dX0_staleIf_90 (fun H locs cells slots I hn1 hn2 => ?_)
    have I : s_I G q4.2 s H locs := I
    have hn : cells + σ0.2.1 ≤ q4.2.2.1 ∧ slots + σ0.2.2.1 ≤ q4.2.2.2.1 := ⟨hn1, hn2⟩
    rcases s_ite hf with ⟨c8, hf⟩ | ⟨c8, hf⟩
    · refine lv_if_ne (tgt := 103) hx hb dX0_staleIf_93 (by decide) (fun n => absurd c8 n) (fun _ => ?_)
      cases hf
      have k : s_V G (d + 3) M_X0_staleIf vs0 σ0 Y_X0_staleIf (103, [.ref v0, .int v1, .int v2, .long (v3 ||| (1 <<< ((v5 : Int32).toInt64 &&& 63))), .int v5], q4.2) (e_J r) := k
      refine lv_lload_n hx hb dX0_staleIf_96 rfl (lv_at hl 4 rfl) ?_
      refine lv_lconst (v := 1) hx hb dX0_staleIf_97 (by decide) ?_
      refine lv_iload hx hb dX0_staleIf_98 (lv_at hl 5 rfl) ?_
      refine lv_lshl hx hb dX0_staleIf_100 rfl ?_
      refine lv_lor hx hb dX0_staleIf_101 ?_
      refine lv_lstore_n (lv' := [(3, .long (v3 ||| (1 <<< ((v5 : Int32).toInt64 &&& 63)))), (8, .int w0), (0, .ref v0), (1, .int v1), (2, .int v2), (5, .int v5), (7, .int v7)]) hx hb dX0_staleIf_102 rfl hl (by decide) rfl (fun ls hl => ?_)
      exact k.2 p e s m below meth c _ _ _ _ _ X I hn.1 hn.2 (lv_sub hl [2, 3, 4, 0, 5] rfl)
    · refine lv_if_ne (tgt := 103) hx hb dX0_staleIf_93 (by decide) (fun _ => ?_) (fun n => absurd n c8)
      cases hf
      have k : s_V G (d + 3) M_X0_staleIf vs0 σ0 Y_X0_staleIf (103, [.ref v0, .int v1, .int v2, .long v3, .int v5], q4.2) (e_J r) := k
      exact k.2 p e s m below meth c _ _ _ _ _ X I hn.1 hn.2 (lv_sub hl [1, 2, 3, 4, 5] rfl)
set_option maxRecDepth 100000 in
set_option maxHeartbeats 4000000 in
theorem v_X0_staleIf_103 {G : sG} {d : Nat} {vs0 : List Value} {σ0 : sS} {v0 : Nat} {v1 : Int32} {v2 : Int32} {v3 : Int64} {v5 : Int32} {σ : sS} {z : sZ Int64} {r : Int64 × sS} (hf : T_X0_staleIf_103 v0 v1 v2 v3 v5 σ = some z) (k : s_K G (d + 3) M_X0_staleIf vs0 σ0 Y_X0_staleIf e_J z r) : s_V G (d + 3) M_X0_staleIf vs0 σ0 Y_X0_staleIf (103, [.ref v0, .int v1, .int v2, .long v3, .int v5], σ) (e_J r) := by
  have le0 : s_le σ (e_J r).2 := s_lek hem_J (l_X0_staleIf_103 hf) k
  refine ⟨le0, ?_⟩
  intro p e s m below meth c H locs cells slots ls X I hn1 hn2 hl
  have hn : cells + σ0.2.1 ≤ σ.2.1 ∧ slots + σ0.2.2.1 ≤ σ.2.2.1 := ⟨hn1, hn2⟩
  have hl : lv_has ls 9 [(0, .ref v0), (1, .int v1), (2, .int v2), (3, .long v3), (5, .int v5)] := hl
  have hx := X.1
  have hb : c.code = cX0_staleIf := X.2.1
  have hown : s.vm.findClass RX0 = some m.cls := X.2.2.2.2.2.1
  have hts := X.2.2.2.2.2.2.1
  refine W.eq (g2 := F0 m 103 ls []) rfl ?_
  unfold T_X0_staleIf_103 at hf
  cases hf
  have k : s_V G (d + 3) M_X0_staleIf vs0 σ0 Y_X0_staleIf (5, [.ref v0, .int v1, .int v2, .long v3, .int (v5 + 1)], σ) (e_J r) := k
  refine lv_iinc (v := (v5 + 1)) (lv' := [(5, .int (v5 + 1)), (0, .ref v0), (1, .int v1), (2, .int v2), (3, .long v3)]) hx hb dX0_staleIf_103 hl (k := 4) rfl rfl (by decide) rfl (fun ls hl => ?_)
  refine lv_goto (tgt := 5) hx hb dX0_staleIf_106 (by decide) ?_
  exact k.2 p e s m below meth c _ _ _ _ _ X I hn.1 hn.2 (lv_sub hl [1, 2, 3, 4, 0] rfl)
set_option maxRecDepth 100000 in
set_option maxHeartbeats 4000000 in
theorem v_X0_staleIf_115 {G : sG} {d : Nat} {vs0 : List Value} {σ0 : sS} {v0 : Nat} {v3 : Int64} {v5 : Int64} {v7 : Int32} {σ : sS} {z : sZ Int64} {r : Int64 × sS} (hf : T_X0_staleIf_115 v0 v3 v5 v7 σ = some z) (k : s_K G (d + 3) M_X0_staleIf vs0 σ0 Y_X0_staleIf e_J z r) : s_V G (d + 3) M_X0_staleIf vs0 σ0 Y_X0_staleIf (115, [.ref v0, .long v3, .long v5, .int v7], σ) (e_J r) := by
  have le0 : s_le σ (e_J r).2 := s_lek hem_J (l_X0_staleIf_115 hf) k
  refine ⟨le0, ?_⟩
  intro p e s m below meth c H locs cells slots ls X I hn1 hn2 hl
  have hn : cells + σ0.2.1 ≤ σ.2.1 ∧ slots + σ0.2.2.1 ≤ σ.2.2.1 := ⟨hn1, hn2⟩
  have hl : lv_has ls 9 [(0, .ref v0), (3, .long v3), (5, .long v5), (7, .int v7)] := hl
  have hx := X.1
  have hb : c.code = cX0_staleIf := X.2.1
  have hown : s.vm.findClass RX0 = some m.cls := X.2.2.2.2.2.1
  have hts := X.2.2.2.2.2.2.1
  refine W.eq (g2 := F0 m 115 ls []) rfl ?_
  unfold T_X0_staleIf_115 at hf
  obtain ⟨x1, h1, hf⟩ := s_bind hf
  obtain ⟨x2, h2, hf⟩ := s_bind hf
  refine lv_iload hx hb dX0_staleIf_115 (lv_at hl 3 rfl) ?_
  refine lv_aload_n hx hb dX0_staleIf_117 rfl (lv_at hl 0 rfl) ?_
  refine r_gr X I fl_X0_15 h1 dX0_staleIf_118 ?_
  refine r_gi X I fl_X0_40 h2 dX0_staleIf_121 ?_
  rcases s_ite hf with ⟨c3, hf⟩ | ⟨c3, hf⟩
  · refine lv_icmp_ge (tgt := 159) hx hb dX0_staleIf_124 (by decide) (fun _ => ?_) (fun n => absurd c3 n)
    cases hf
    have k : _ = r := k
    subst k
    refine lv_lload hx hb dX0_staleIf_159 (lv_at hl 2 rfl) ?_
    exact r_lret X I rfl rfl hn dX0_staleIf_161
  · refine lv_icmp_ge (tgt := 159) hx hb dX0_staleIf_124 (by decide) (fun n => absurd n c3) (fun _ => ?_)
    obtain ⟨x3, h4, hf⟩ := s_bind hf
    obtain ⟨x4, h5, hf⟩ := s_bind hf
    obtain ⟨x5, h6, hf⟩ := s_bind hf
    refine lv_aload_n hx hb dX0_staleIf_127 rfl (lv_at hl 0 rfl) ?_
    refine r_gr X I fl_X0_15 h4 dX0_staleIf_128 ?_
    refine r_gr X I fl_X0_53 h5 dX0_staleIf_131 ?_
    refine lv_iload hx hb dX0_staleIf_134 (lv_at hl 3 rfl) ?_
    refine r_lald X I h6 dX0_staleIf_136 ?_
    refine lv_lload_n hx hb dX0_staleIf_137 rfl (lv_at hl 1 rfl) ?_
    refine lv_land hx hb dX0_staleIf_138 ?_
    refine lv_lconst (v := 0) hx hb dX0_staleIf_139 (by decide) ?_
    refine W.lcmp hx hb dX0_staleIf_140 ?_
    rcases s_ite hf with ⟨c7, hf⟩ | ⟨c7, hf⟩
    · refine lv_if_eq (tgt := 153) hx hb dX0_staleIf_141 (by decide) (fun _ => ?_) (fun n => absurd c7 n)
      cases hf
      have k : s_V G (d + 3) M_X0_staleIf vs0 σ0 Y_X0_staleIf (153, [.ref v0, .long v3, .long v5, .int v7], σ) (e_J r) := k
      exact k.2 p e s m below meth c _ _ _ _ _ X I hn.1 hn.2 (lv_sub hl [0, 1, 2, 3] rfl)
    · refine lv_if_eq (tgt := 153) hx hb dX0_staleIf_141 (by decide) (fun n => absurd n c7) (fun _ => ?_)
      cases hf
      have k : s_V G (d + 3) M_X0_staleIf vs0 σ0 Y_X0_staleIf (153, [.ref v0, .long v3, .long (v5 ||| (1 <<< ((v7 : Int32).toInt64 &&& 63))), .int v7], σ) (e_J r) := k
      refine lv_lload hx hb dX0_staleIf_144 (lv_at hl 2 rfl) ?_
      refine lv_lconst (v := 1) hx hb dX0_staleIf_146 (by decide) ?_
      refine lv_iload hx hb dX0_staleIf_147 (lv_at hl 3 rfl) ?_
      refine lv_lshl hx hb dX0_staleIf_149 rfl ?_
      refine lv_lor hx hb dX0_staleIf_150 ?_
      refine lv_lstore (lv' := [(5, .long (v5 ||| (1 <<< ((v7 : Int32).toInt64 &&& 63)))), (0, .ref v0), (3, .long v3), (7, .int v7)]) hx hb dX0_staleIf_151 hl (by decide) rfl (fun ls hl => ?_)
      exact k.2 p e s m below meth c _ _ _ _ _ X I hn.1 hn.2 (lv_sub hl [1, 2, 0, 3] rfl)
set_option maxRecDepth 100000 in
set_option maxHeartbeats 4000000 in
theorem v_X0_staleIf_153 {G : sG} {d : Nat} {vs0 : List Value} {σ0 : sS} {v0 : Nat} {v3 : Int64} {v5 : Int64} {v7 : Int32} {σ : sS} {z : sZ Int64} {r : Int64 × sS} (hf : T_X0_staleIf_153 v0 v3 v5 v7 σ = some z) (k : s_K G (d + 3) M_X0_staleIf vs0 σ0 Y_X0_staleIf e_J z r) : s_V G (d + 3) M_X0_staleIf vs0 σ0 Y_X0_staleIf (153, [.ref v0, .long v3, .long v5, .int v7], σ) (e_J r) := by
  have le0 : s_le σ (e_J r).2 := s_lek hem_J (l_X0_staleIf_153 hf) k
  refine ⟨le0, ?_⟩
  intro p e s m below meth c H locs cells slots ls X I hn1 hn2 hl
  have hn : cells + σ0.2.1 ≤ σ.2.1 ∧ slots + σ0.2.2.1 ≤ σ.2.2.1 := ⟨hn1, hn2⟩
  have hl : lv_has ls 9 [(0, .ref v0), (3, .long v3), (5, .long v5), (7, .int v7)] := hl
  have hx := X.1
  have hb : c.code = cX0_staleIf := X.2.1
  have hown : s.vm.findClass RX0 = some m.cls := X.2.2.2.2.2.1
  have hts := X.2.2.2.2.2.2.1
  refine W.eq (g2 := F0 m 153 ls []) rfl ?_
  unfold T_X0_staleIf_153 at hf
  cases hf
  have k : s_V G (d + 3) M_X0_staleIf vs0 σ0 Y_X0_staleIf (115, [.ref v0, .long v3, .long v5, .int (v7 + 1)], σ) (e_J r) := k
  refine lv_iinc (v := (v7 + 1)) (lv' := [(7, .int (v7 + 1)), (0, .ref v0), (3, .long v3), (5, .long v5)]) hx hb dX0_staleIf_153 hl (k := 3) rfl rfl (by decide) rfl (fun ls hl => ?_)
  refine lv_goto (tgt := 115) hx hb dX0_staleIf_156 (by decide) ?_
  exact k.2 p e s m below meth c _ _ _ _ _ X I hn.1 hn.2 (lv_sub hl [1, 2, 3, 0] rfl)
theorem v_X0_staleIf {G : sG} {d : Nat} {vs0 : List Value} {σ0 : sS} {x : sL} {z : sZ Int64} {r : Int64 × sS} (hs : S_X0_staleIf x = some z) (k : s_K G (d + 3) M_X0_staleIf vs0 σ0 Y_X0_staleIf e_J z r) : s_V G (d + 3) M_X0_staleIf vs0 σ0 Y_X0_staleIf x (e_J r) := by
  obtain ⟨pc, vs, σ⟩ := x
  unfold S_X0_staleIf at hs
  dsimp only at hs
  rcases s_ite hs with ⟨c, hs⟩ | ⟨-, hs⟩
  · subst c
    unfold U_X0_staleIf_0 at hs
    obtain ⟨a0, g0, hs⟩ := s_bind hs
    obtain ⟨a1, g1, hs⟩ := s_bind hs
    obtain ⟨a2, g2, hs⟩ := s_bind hs
    obtain ⟨u9, ge, hs⟩ := s_bind hs
    rw [g_r_to g0, g_i_to g1, g_i_to g2, g_e_to ge]
    exact v_X0_staleIf_0 hs k
  rcases s_ite hs with ⟨c, hs⟩ | ⟨-, hs⟩
  · subst c
    unfold U_X0_staleIf_5 at hs
    obtain ⟨a0, g0, hs⟩ := s_bind hs
    obtain ⟨a1, g1, hs⟩ := s_bind hs
    obtain ⟨a2, g2, hs⟩ := s_bind hs
    obtain ⟨a3, g3, hs⟩ := s_bind hs
    obtain ⟨a4, g4, hs⟩ := s_bind hs
    obtain ⟨u9, ge, hs⟩ := s_bind hs
    rw [g_r_to g0, g_i_to g1, g_i_to g2, g_l_to g3, g_i_to g4, g_e_to ge]
    exact v_X0_staleIf_5 hs k
  rcases s_ite hs with ⟨c, hs⟩ | ⟨-, hs⟩
  · subst c
    unfold U_X0_staleIf_48 at hs
    obtain ⟨a0, g0, hs⟩ := s_bind hs
    obtain ⟨a1, g1, hs⟩ := s_bind hs
    obtain ⟨a2, g2, hs⟩ := s_bind hs
    obtain ⟨a3, g3, hs⟩ := s_bind hs
    obtain ⟨a4, g4, hs⟩ := s_bind hs
    obtain ⟨a5, g5, hs⟩ := s_bind hs
    obtain ⟨u9, ge, hs⟩ := s_bind hs
    rw [g_r_to g0, g_i_to g1, g_i_to g2, g_l_to g3, g_i_to g4, g_i_to g5, g_e_to ge]
    exact v_X0_staleIf_48 hs k
  rcases s_ite hs with ⟨c, hs⟩ | ⟨-, hs⟩
  · subst c
    unfold U_X0_staleIf_68 at hs
    obtain ⟨a0, g0, hs⟩ := s_bind hs
    obtain ⟨a1, g1, hs⟩ := s_bind hs
    obtain ⟨a2, g2, hs⟩ := s_bind hs
    obtain ⟨a3, g3, hs⟩ := s_bind hs
    obtain ⟨a4, g4, hs⟩ := s_bind hs
    obtain ⟨a5, g5, hs⟩ := s_bind hs
    obtain ⟨a6, g6, hs⟩ := s_bind hs
    obtain ⟨u9, ge, hs⟩ := s_bind hs
    rw [g_r_to g0, g_i_to g1, g_i_to g2, g_l_to g3, g_i_to g4, g_i_to g5, g_i_to g6, g_e_to ge]
    exact v_X0_staleIf_68 hs k
  rcases s_ite hs with ⟨c, hs⟩ | ⟨-, hs⟩
  · subst c
    unfold U_X0_staleIf_103 at hs
    obtain ⟨a0, g0, hs⟩ := s_bind hs
    obtain ⟨a1, g1, hs⟩ := s_bind hs
    obtain ⟨a2, g2, hs⟩ := s_bind hs
    obtain ⟨a3, g3, hs⟩ := s_bind hs
    obtain ⟨a4, g4, hs⟩ := s_bind hs
    obtain ⟨u9, ge, hs⟩ := s_bind hs
    rw [g_r_to g0, g_i_to g1, g_i_to g2, g_l_to g3, g_i_to g4, g_e_to ge]
    exact v_X0_staleIf_103 hs k
  rcases s_ite hs with ⟨c, hs⟩ | ⟨-, hs⟩
  · subst c
    unfold U_X0_staleIf_115 at hs
    obtain ⟨a0, g0, hs⟩ := s_bind hs
    obtain ⟨a1, g1, hs⟩ := s_bind hs
    obtain ⟨a2, g2, hs⟩ := s_bind hs
    obtain ⟨a3, g3, hs⟩ := s_bind hs
    obtain ⟨u9, ge, hs⟩ := s_bind hs
    rw [g_r_to g0, g_l_to g1, g_l_to g2, g_i_to g3, g_e_to ge]
    exact v_X0_staleIf_115 hs k
  rcases s_ite hs with ⟨c, hs⟩ | ⟨-, hs⟩
  · subst c
    unfold U_X0_staleIf_153 at hs
    obtain ⟨a0, g0, hs⟩ := s_bind hs
    obtain ⟨a1, g1, hs⟩ := s_bind hs
    obtain ⟨a2, g2, hs⟩ := s_bind hs
    obtain ⟨a3, g3, hs⟩ := s_bind hs
    obtain ⟨u9, ge, hs⟩ := s_bind hs
    rw [g_r_to g0, g_l_to g1, g_l_to g2, g_i_to g3, g_e_to ge]
    exact v_X0_staleIf_153 hs k
  cases hs
theorem t_X0_staleIf {G : sG} {d : Nat} {v0 : Nat} {v1 : Int32} {v2 : Int32} {σ : sS} {q : Int64 × sS} (h : F_X0_staleIf v0 v1 v2 σ = some q) : s_T G (d + 3) M_X0_staleIf [.ref v0, .int v1, .int v2] σ (e_J q) := by
  unfold F_X0_staleIf at h
  obtain ⟨-, -, h⟩ := s_bind h
  exact s_ofV rfl (by decide) (Nat.le_of_ble_eq_true rfl) rfl rfl (s_run_ind (V := fun x r => s_V G (d + 3) M_X0_staleIf [.ref v0, .int v1, .int v2] σ Y_X0_staleIf x (e_J r)) (fun x z r hs hk => v_X0_staleIf hs (by cases z <;> exact hk)) h)
/-! X7_falls -/
noncomputable def T_X7_falls_0 (v0 : Nat) (v1 : Int32) (v2 : Int32) (σ : sS) : Option (sZ (Int64 ⊕ String)) :=
  (F_X7_needCustomer v0 v1 σ).bind fun q1 => s_sum q1.1 (fun x2 => (F_X7_needFormula v0 v2 q1.2).bind fun q4 => s_sum q4.1 (fun x5 => (s_fr q4.2 v0 7 1).bind fun x7 =>
  (s_fr q4.2 x7 1 5).bind fun x8 =>
  (s_ai q4.2 x8 v1).bind fun x9 =>
  (s_fr q4.2 v0 7 5).bind fun x10 =>
  (F_X0_staleIf x10 v1 (x9 &&& ((1 <<< (v2 &&& 31)) ^^^ (-1))) q4.2).bind fun q11 =>
  (s_fr q11.2 v0 7 5).bind fun x12 =>
  (F_X0_staleIf x12 (-1) 0 q11.2).bind fun q13 =>
  some (.inr (.inl (q11.1 &&& (q13.1 ^^^ (-1))), q13.2))) (fun E6 => some (.inr (.inr E6, q4.2)))) (fun E3 => some (.inr (.inr E3, q1.2)))
noncomputable def U_X7_falls_0 (vs : List Value) (σ : sS) : Option (sZ (Int64 ⊕ String)) := (g_r vs).bind fun a0 => (g_i a0.2).bind fun a1 => (g_i a1.2).bind fun a2 => (g_e a2.2).bind fun _ => T_X7_falls_0 a0.1 a1.1 a2.1 σ
noncomputable def S_X7_falls (x : sL) : Option (sZ (Int64 ⊕ String)) := if x.1 = 0 then U_X7_falls_0 x.2.1 x.2.2 else none
def Y_X7_falls (pc : Nat) : List Nat := if pc = 0 then [0, 1, 2] else []
noncomputable def F_X7_falls (v0 : Nat) (v1 : Int32) (v2 : Int32) (σ : sS) : Option ((Int64 ⊕ String) × sS) := (s_is σ v0 7).bind fun _ => s_run S_X7_falls (0, [.ref v0, .int v1, .int v2], σ)
theorem l_X7_falls_0 {v0 : Nat} {v1 : Int32} {v2 : Int32} {σ : sS} {z : sZ (Int64 ⊕ String)} (hf : T_X7_falls_0 v0 v1 v2 σ = some z) : s_lz σ z := by
  unfold T_X7_falls_0 at hf
  obtain ⟨q1, hh, hf⟩ := s_bind hf
  refine s_lz.tr (l_X7_needCustomer hh) ?_
  rcases s_sum_some hf with ⟨x2, -, hf⟩ | ⟨E3, -, hf⟩
  · obtain ⟨q4, hh, hf⟩ := s_bind hf
    refine s_lz.tr (l_X7_needFormula hh) ?_
    rcases s_sum_some hf with ⟨x5, -, hf⟩ | ⟨E6, -, hf⟩
    · obtain ⟨x7, -, hf⟩ := s_bind hf
      obtain ⟨x8, -, hf⟩ := s_bind hf
      obtain ⟨x9, -, hf⟩ := s_bind hf
      obtain ⟨x10, -, hf⟩ := s_bind hf
      obtain ⟨q11, hh, hf⟩ := s_bind hf
      refine s_lz.tr (l_X0_staleIf hh) ?_
      obtain ⟨x12, -, hf⟩ := s_bind hf
      obtain ⟨q13, hh, hf⟩ := s_bind hf
      refine s_lz.tr (l_X0_staleIf hh) ?_
      cases hf
      exact s_le.rf
    · cases hf
      exact s_le.rf
  · cases hf
    exact s_le.rf
theorem l_X7_falls_s {x : sL} {z : sZ (Int64 ⊕ String)} (hs : S_X7_falls x = some z) : s_lz x.2.2 z := by
  obtain ⟨pc, vs, σ⟩ := x
  unfold S_X7_falls at hs
  dsimp only at hs ⊢
  rcases s_ite hs with ⟨c, hs⟩ | ⟨-, hs⟩
  · subst c
    unfold U_X7_falls_0 at hs
    obtain ⟨a0, g0, hs⟩ := s_bind hs
    obtain ⟨a1, g1, hs⟩ := s_bind hs
    obtain ⟨a2, g2, hs⟩ := s_bind hs
    obtain ⟨u9, ge, hs⟩ := s_bind hs
    exact l_X7_falls_0 hs
  cases hs
theorem l_X7_falls {v0 : Nat} {v1 : Int32} {v2 : Int32} {σ : sS} {q : (Int64 ⊕ String) × sS} (h : F_X7_falls v0 v1 v2 σ = some q) : s_le σ q.2 := by
  unfold F_X7_falls at h
  obtain ⟨-, -, h⟩ := s_bind h
  exact s_run_ind (V := fun x r => s_le x.2.2 r.2) (fun x z r hs hk => by
    have h9 := l_X7_falls_s hs
    cases z with
    | inl y => exact s_le.tr h9 hk
    | inr q => cases hk; exact h9) h
theorem b_X7_falls {v0 : Nat} {v1 : Int32} {v2 : Int32} {σ : sS} {q : (Int64 ⊕ String) × sS} (h : F_X7_falls v0 v1 v2 σ = some q) : ∃ fs, σ.1 v0 = some (.inr (7, fs)) := by
  unfold F_X7_falls at h
  obtain ⟨u, hu, -⟩ := s_bind h
  exact s_is_to hu
set_option maxRecDepth 100000 in
set_option maxHeartbeats 4000000 in
theorem v_X7_falls_0 {G : sG} {d : Nat} {vs0 : List Value} {σ0 : sS} {v0 : Nat} {v1 : Int32} {v2 : Int32} {σ : sS} {z : sZ (Int64 ⊕ String)} {r : (Int64 ⊕ String) × sS} (hf : T_X7_falls_0 v0 v1 v2 σ = some z) (k : s_K G (d + 4) M_X7_falls vs0 σ0 Y_X7_falls e_JX z r) : s_V G (d + 4) M_X7_falls vs0 σ0 Y_X7_falls (0, [.ref v0, .int v1, .int v2], σ) (e_JX r) := by
  have le0 : s_le σ (e_JX r).2 := s_lek hem_JX (l_X7_falls_0 hf) k
  refine ⟨le0, ?_⟩
  intro p e s m below meth c H locs cells slots ls X I hn1 hn2 hl
  have hn : cells + σ0.2.1 ≤ σ.2.1 ∧ slots + σ0.2.2.1 ≤ σ.2.2.1 := ⟨hn1, hn2⟩
  have hl : lv_has ls 4 [(0, .ref v0), (1, .int v1), (2, .int v2)] := hl
  have hx := X.1
  have hb : c.code = cX7_falls := X.2.1
  have hown : s.vm.findClass RX7 = some m.cls := X.2.2.2.2.2.1
  have hts := X.2.2.2.2.2.2.1
  refine W.eq (g2 := F0 m 0 ls []) rfl ?_
  unfold T_X7_falls_0 at hf
  obtain ⟨q1, h1, hf⟩ := s_bind hf
  refine lv_aload_n hx hb dX7_falls_0 rfl (lv_at hl 0 rfl) ?_
  refine lv_iload_n hx hb dX7_falls_1 rfl (lv_at hl 1 rfl) ?_
  rcases s_sum_some hf with ⟨x2, hq2, hf⟩ | ⟨E3, hq2, hf⟩
  · have le3 : s_le q1.2 (e_JX r).2 := by
      refine s_lek hem_JX ?_ k
      obtain ⟨q4, hh, hf⟩ := s_bind hf
      refine s_lz.tr (l_X7_needFormula hh) ?_
      rcases s_sum_some hf with ⟨x5, -, hf⟩ | ⟨E6, -, hf⟩
      · obtain ⟨x7, -, hf⟩ := s_bind hf
        obtain ⟨x8, -, hf⟩ := s_bind hf
        obtain ⟨x9, -, hf⟩ := s_bind hf
        obtain ⟨x10, -, hf⟩ := s_bind hf
        obtain ⟨q11, hh, hf⟩ := s_bind hf
        refine s_lz.tr (l_X0_staleIf hh) ?_
        obtain ⟨x12, -, hf⟩ := s_bind hf
        obtain ⟨q13, hh, hf⟩ := s_bind hf
        refine s_lz.tr (l_X0_staleIf hh) ?_
        cases hf
        exact s_le.rf
      · cases hf
        exact s_le.rf
    refine r_callV (Y := M_X7_needCustomer) (v := none) X I w_1115 my_X7_needCustomer (by omega) (t_X7_needCustomer (G := G) (d := d + 2) h1) (b_X7_needCustomer h1) (e_VX_l hq2) rfl hl.1 rfl (Nat.le_of_ble_eq_true rfl) hn le3 dX7_falls_2 (fun H locs cells slots I hn1 hn2 => ?_)
    have I : s_I G q1.2 s H locs := I
    have hn : cells + σ0.2.1 ≤ q1.2.2.1 ∧ slots + σ0.2.2.1 ≤ q1.2.2.2.1 := ⟨hn1, hn2⟩
    obtain ⟨q4, h4, hf⟩ := s_bind hf
    refine lv_aload_n hx hb dX7_falls_5 rfl (lv_at hl 0 rfl) ?_
    refine lv_iload_n hx hb dX7_falls_6 rfl (lv_at hl 2 rfl) ?_
    rcases s_sum_some hf with ⟨x5, hq5, hf⟩ | ⟨E6, hq5, hf⟩
    · have le6 : s_le q4.2 (e_JX r).2 := by
        refine s_lek hem_JX ?_ k
        obtain ⟨x7, -, hf⟩ := s_bind hf
        obtain ⟨x8, -, hf⟩ := s_bind hf
        obtain ⟨x9, -, hf⟩ := s_bind hf
        obtain ⟨x10, -, hf⟩ := s_bind hf
        obtain ⟨q11, hh, hf⟩ := s_bind hf
        refine s_lz.tr (l_X0_staleIf hh) ?_
        obtain ⟨x12, -, hf⟩ := s_bind hf
        obtain ⟨q13, hh, hf⟩ := s_bind hf
        refine s_lz.tr (l_X0_staleIf hh) ?_
        cases hf
        exact s_le.rf
      refine r_callV (Y := M_X7_needFormula) (v := none) X I w_1016 my_X7_needFormula (by omega) (t_X7_needFormula (G := G) (d := d + 2) h4) (b_X7_needFormula h4) (e_VX_l hq5) rfl hl.1 rfl (Nat.le_of_ble_eq_true rfl) hn le6 dX7_falls_7 (fun H locs cells slots I hn1 hn2 => ?_)
      have I : s_I G q4.2 s H locs := I
      have hn : cells + σ0.2.1 ≤ q4.2.2.1 ∧ slots + σ0.2.2.1 ≤ q4.2.2.2.1 := ⟨hn1, hn2⟩
      obtain ⟨x7, h7, hf⟩ := s_bind hf
      obtain ⟨x8, h8, hf⟩ := s_bind hf
      obtain ⟨x9, h9, hf⟩ := s_bind hf
      obtain ⟨x10, h10, hf⟩ := s_bind hf
      obtain ⟨q11, h11, hf⟩ := s_bind hf
      obtain ⟨x12, h12, hf⟩ := s_bind hf
      obtain ⟨q13, h13, hf⟩ := s_bind hf
      cases hf
      have k : _ = r := k
      subst k
      have le14 : s_le q13.2 q13.2 := s_le.rf
      have le15 := s_le.tr (l_X0_staleIf h13) le14
      refine lv_aload_n hx hb dX7_falls_10 rfl (lv_at hl 0 rfl) ?_
      refine r_gr X I fl_X7_19 h7 dX7_falls_11 ?_
      refine r_gr X I fl_X7_174 h8 dX7_falls_14 ?_
      refine lv_iload_n hx hb dX7_falls_17 rfl (lv_at hl 1 rfl) ?_
      refine r_iald X I h9 dX7_falls_18 ?_
      refine lv_iconst (v := 1) hx hb dX7_falls_19 (by decide) ?_
      refine lv_iload_n hx hb dX7_falls_20 rfl (lv_at hl 2 rfl) ?_
      refine lv_ishl hx hb dX7_falls_21 ?_
      refine lv_iconst (v := (-1)) hx hb dX7_falls_22 (by decide) ?_
      refine lv_ixor hx hb dX7_falls_23 ?_
      refine lv_iand hx hb dX7_falls_24 ?_
      refine lv_istore_n (lv' := [(3, .int (x9 &&& ((1 <<< (v2 &&& 31)) ^^^ (-1)))), (0, .ref v0), (1, .int v1), (2, .int v2)]) hx hb dX7_falls_25 rfl hl (by decide) rfl (fun ls hl => ?_)
      refine lv_aload_n hx hb dX7_falls_26 rfl (lv_at hl 1 rfl) ?_
      refine r_gr X I fl_X7_49 h10 dX7_falls_27 ?_
      refine lv_iload_n hx hb dX7_falls_30 rfl (lv_at hl 2 rfl) ?_
      refine lv_iload_n hx hb dX7_falls_31 rfl (lv_at hl 0 rfl) ?_
      refine r_callV (Y := M_X0_staleIf) (v := some (.long q11.1)) X I w_1229 my_X0_staleIf (by omega) (t_X0_staleIf (G := G) (d := d + 0) h11) (b_X0_staleIf h11) rfl rfl hl.1 rfl (Nat.le_of_ble_eq_true rfl) hn le15 dX7_falls_32 (fun H locs cells slots I hn1 hn2 => ?_)
      have I : s_I G q11.2 s H locs := I
      have hn : cells + σ0.2.1 ≤ q11.2.2.1 ∧ slots + σ0.2.2.1 ≤ q11.2.2.2.1 := ⟨hn1, hn2⟩
      refine lv_aload_n hx hb dX7_falls_35 rfl (lv_at hl 1 rfl) ?_
      refine r_gr X I fl_X7_49 h12 dX7_falls_36 ?_
      refine lv_iconst (v := (-1)) hx hb dX7_falls_39 (by decide) ?_
      refine lv_iconst (v := 0) hx hb dX7_falls_40 (by decide) ?_
      refine r_callV (Y := M_X0_staleIf) (v := some (.long q13.1)) X I w_1229 my_X0_staleIf (by omega) (t_X0_staleIf (G := G) (d := d + 0) h13) (b_X0_staleIf h13) rfl rfl hl.1 rfl (Nat.le_of_ble_eq_true rfl) hn le14 dX7_falls_41 (fun H locs cells slots I hn1 hn2 => ?_)
      have I : s_I G q13.2 s H locs := I
      have hn : cells + σ0.2.1 ≤ q13.2.2.1 ∧ slots + σ0.2.2.1 ≤ q13.2.2.2.1 := ⟨hn1, hn2⟩
      refine lv_ldc2 (own := RX7) hx hb hown (hts _ w_1230) dX7_falls_44 ?_
      refine lv_lxor hx hb dX7_falls_47 ?_
      refine lv_land hx hb dX7_falls_48 ?_
      exact r_lret X I rfl rfl hn dX7_falls_49
    · cases hf
      have k : _ = r := k
      subst k
      exact r_callVx (Y := M_X7_needFormula) X I rfl w_1016 my_X7_needFormula (by omega) (t_X7_needFormula (G := G) (d := d + 2) h4) (b_X7_needFormula h4) (e_VX_r hq5) rfl hl.1 rfl (Nat.le_of_ble_eq_true rfl) hn rfl dX7_falls_7
  · cases hf
    have k : _ = r := k
    subst k
    exact r_callVx (Y := M_X7_needCustomer) X I rfl w_1115 my_X7_needCustomer (by omega) (t_X7_needCustomer (G := G) (d := d + 2) h1) (b_X7_needCustomer h1) (e_VX_r hq2) rfl hl.1 rfl (Nat.le_of_ble_eq_true rfl) hn rfl dX7_falls_2
theorem v_X7_falls {G : sG} {d : Nat} {vs0 : List Value} {σ0 : sS} {x : sL} {z : sZ (Int64 ⊕ String)} {r : (Int64 ⊕ String) × sS} (hs : S_X7_falls x = some z) (k : s_K G (d + 4) M_X7_falls vs0 σ0 Y_X7_falls e_JX z r) : s_V G (d + 4) M_X7_falls vs0 σ0 Y_X7_falls x (e_JX r) := by
  obtain ⟨pc, vs, σ⟩ := x
  unfold S_X7_falls at hs
  dsimp only at hs
  rcases s_ite hs with ⟨c, hs⟩ | ⟨-, hs⟩
  · subst c
    unfold U_X7_falls_0 at hs
    obtain ⟨a0, g0, hs⟩ := s_bind hs
    obtain ⟨a1, g1, hs⟩ := s_bind hs
    obtain ⟨a2, g2, hs⟩ := s_bind hs
    obtain ⟨u9, ge, hs⟩ := s_bind hs
    rw [g_r_to g0, g_i_to g1, g_i_to g2, g_e_to ge]
    exact v_X7_falls_0 hs k
  cases hs
theorem t_X7_falls {G : sG} {d : Nat} {v0 : Nat} {v1 : Int32} {v2 : Int32} {σ : sS} {q : (Int64 ⊕ String) × sS} (h : F_X7_falls v0 v1 v2 σ = some q) : s_T G (d + 4) M_X7_falls [.ref v0, .int v1, .int v2] σ (e_JX q) := by
  unfold F_X7_falls at h
  obtain ⟨-, -, h⟩ := s_bind h
  exact s_ofV rfl (by decide) (Nat.le_of_ble_eq_true rfl) rfl rfl (s_run_ind (V := fun x r => s_V G (d + 4) M_X7_falls [.ref v0, .int v1, .int v2] σ Y_X7_falls x (e_JX r)) (fun x z r hs hk => v_X7_falls hs (by cases z <;> exact hk)) h)
