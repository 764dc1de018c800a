/-! the law's entry: one argument -/
set_option maxRecDepth 100000 in
set_option maxHeartbeats 4000000 in
theorem v_L_law_0s {G : sG} {d : Nat} {vs0 : List Value} {σ0 : sS} {v0 : Nat} {v1 : Nat} {σ : sS} {z : sZ Int32} {r : Int32 × sS} (hf : T_L_law_0 v0 v1 σ = some z) (k : s_K G (d + 139) M_L_law vs0 σ0 Y_L_law e_I z r) : s_V G (d + 139) M_L_law vs0 σ0 (fun _ => [0]) (0, [.ref v0], σ) (e_I r) := by
  have le0 : s_le σ (e_I r).2 := s_lek hem_I (l_L_law_0 hf) k
  refine ⟨le0, ?_⟩
  intro p e s m below meth c H locs cells slots ls X I hn1 hn2 hl
  have hn : cells + σ0.2.1 ≤ σ.2.1 ∧ slots + σ0.2.2.1 ≤ σ.2.2.1 := ⟨hn1, hn2⟩
  have hl : lv_has ls 8 [(0, .ref v0)] := hl
  have hx := X.1
  have hb : c.code = cL_law := X.2.1
  have hown : s.vm.findClass RL = some m.cls := X.2.2.2.2.2.1
  have hts := X.2.2.2.2.2.2.1
  refine W.eq (g2 := F0 m 0 ls []) rfl ?_
  unfold T_L_law_0 at hf
  obtain ⟨σ1, h1, hf⟩ := s_bind hf
  obtain ⟨q2, h2, hf⟩ := s_bind hf
  obtain ⟨σ3, h3, hf⟩ := s_bind hf
  obtain ⟨q4, h4, hf⟩ := s_bind hf
  obtain ⟨σ5, h5, hf⟩ := s_bind hf
  cases hf
  have k : s_V G (d + 139) M_L_law vs0 σ0 Y_L_law (23, [.ref v0, .ref σ.2.1, .ref q2.2.2.1, .ref q4.2.2.1, .int 0], σ5) (e_I r) := k
  have le6 : s_le σ5 (e_I r).2 := k.1
  have le7 := s_le.tr (s_na_le h5) le6
  have le8 := s_le.tr (l_X8_init h4) le7
  have le9 := s_le.tr (s_nws h3) le8
  have le10 := s_le.tr (l_X7_init h2) le9
  refine r_new X I nw_L_8 hn (Option.some.inj h1 ▸ le10) dL_law_0 (fun H I => ?_)
  have hn := s_knw (ci := 7) (N := 9) (fs := [.null, .null, .null, .null, .null, .null, .null, .null, .int 0]) hn
  rw [Option.some.inj h1] at I hn
  refine lv_dup hx hb dL_law_3 rfl ?_
  refine r_callI (Y := M_X7_init) X I w_198 my_X7_init (by omega) (t_X7_init (G := G) (d := d + 135) h2) rfl rfl hl.1 rfl (Nat.le_of_ble_eq_true rfl) hn le9 dL_law_4 (fun H locs cells slots I hn1 hn2 => ?_)
  have I : s_I G q2.2 s H locs := I
  have hn : cells + σ0.2.1 ≤ q2.2.2.1 ∧ slots + σ0.2.2.1 ≤ q2.2.2.2.1 := ⟨hn1, hn2⟩
  refine lv_astore_n (lv' := [(1, .ref σ.2.1), (0, .ref v0)]) hx hb dL_law_7 rfl hl (by decide) rfl (fun ls hl => ?_)
  refine r_new X I nw_L_143 hn (Option.some.inj h3 ▸ le8) dL_law_8 (fun H I => ?_)
  have hn := s_knw (ci := 8) (N := 39) (fs := [.int 0, .null, .null, .int 0, .null, .null, .null, .int 0, .int 0, .int 0, .int 0, .int 0, .int 0, .int 0, .int 0, .null, .null, .null, .null, .null, .null, .null, .null, .null, .null, .null, .null, .null, .null, .null, .null, .null, .null, .int 0, .int 0, .int 0, .null, .null, .int 0]) hn
  rw [Option.some.inj h3] at I hn
  refine lv_dup hx hb dL_law_11 rfl ?_
  refine r_callI (Y := M_X8_init) X I w_1677 my_X8_init (by omega) (t_X8_init (G := G) (d := d + 137) h4) rfl rfl hl.1 rfl (Nat.le_of_ble_eq_true rfl) hn le7 dL_law_12 (fun H locs cells slots I hn1 hn2 => ?_)
  have I : s_I G q4.2 s H locs := I
  have hn : cells + σ0.2.1 ≤ q4.2.2.1 ∧ slots + σ0.2.2.1 ≤ q4.2.2.2.1 := ⟨hn1, hn2⟩
  refine lv_astore_n (lv' := [(2, .ref q2.2.2.1), (1, .ref σ.2.1), (0, .ref v0)]) hx hb dL_law_15 rfl hl (by decide) rfl (fun ls hl => ?_)
  refine lv_iconst (v := 1) hx hb dL_law_16 (by decide) ?_
  refine r_newa X I at_long h5 hn le6 dL_law_17 (fun H I => ?_)
  have hn := s_kna h5 hn
  refine lv_astore_n (lv' := [(3, .ref q4.2.2.1), (2, .ref q2.2.2.1), (1, .ref σ.2.1), (0, .ref v0)]) hx hb dL_law_19 rfl hl (by decide) rfl (fun ls hl => ?_)
  refine lv_iconst (v := 0) hx hb dL_law_20 (by decide) ?_
  refine lv_istore (lv' := [(4, .int 0), (3, .ref q4.2.2.1), (2, .ref q2.2.2.1), (1, .ref σ.2.1), (0, .ref v0)]) hx hb dL_law_21 hl (by decide) rfl (fun ls hl => ?_)
  exact k.2 p e s m below meth c _ _ _ _ _ X I hn.1 hn.2 (lv_sub hl [4, 3, 2, 1, 0] rfl)
theorem t_law {G : sG} {d v0 v1 : Nat} {σ : sS} {q : Int32 × sS} (h : R_L_law_0 v0 v1 σ = some q) : s_T G (d + 139) M_L_law [.ref v0] σ (e_I q) := by
  refine s_ofV (lay := fun _ => [0]) rfl (by decide) (Nat.le_of_ble_eq_true rfl) rfl rfl ?_
  unfold R_L_law_0 at h
  have key := s_run_ind (V := fun x r => s_V G (d + 139) M_L_law [.ref v0] σ Y_L_law x (e_I r) ∧ ∀ a0 a1 σ', x = (0, [.ref a0, .ref a1], σ') → s_V G (d + 139) M_L_law [.ref v0] σ (fun _ => [0]) (0, [.ref a0], σ') (e_I r)) (fun x z r hs hk => by
    have hk' : s_K G (d + 139) M_L_law [.ref v0] σ Y_L_law e_I z r := by
      cases z with
      | inl y => exact hk.1
      | inr q => exact hk
    refine ⟨v_L_law hs hk', fun a0 a1 σ' hx => ?_⟩
    subst hx
    have e : S_L_law (0, [.ref a0, .ref a1], σ') = T_L_law_0 a0 a1 σ' := by
      unfold S_L_law
      exact if_pos rfl
    exact v_L_law_0s (e.symm.trans hs) hk') h
  exact key.2 v0 v1 σ rfl
