/-! an image is kept; copying -/
def cpA (w : sW) (k k' N : Nat) : sW := (w.1, w.2.1, fun q => if q = k' then va_cpy (w.2.2.1 k) (w.2.2.1 k') 0 0 N else w.2.2.1 q, w.2.2.2)
def cpL (w : sW) (k k' N : Nat) : sW := (w.1, w.2.1, w.2.2.1, fun q => if q = k' then va_cpy (w.2.2.2.1 k) (w.2.2.2.1 k') 0 0 N else w.2.2.2.1 q, w.2.2.2.2)
theorem cp0 {α : Type} {f g : Nat → α} {N i : Nat} (h : i < N) : va_cpy f g 0 0 N i = f i := by
  rw [pk_cpy_in (Nat.zero_le _) (by omega), Nat.zero_add, Nat.sub_zero]
theorem Fr.cpA {A B : List Nat} {w w' : sW} (h : Fr A B w w') {k k' N : Nat} (hk : k' ∈ A) : Fr A B w (cpA w' k k' N) :=
  ⟨fun q hq => ⟨(if_neg (fun z => hq (by rw [z]; exact hk))).trans (h.1 q hq).1, (h.1 q hq).2⟩, h.2.1, h.2.2⟩
theorem Fr.cpL {A B : List Nat} {w w' : sW} (h : Fr A B w w') {k k' N : Nat} (hk : k' ∈ A) : Fr A B w (cpL w' k k' N) :=
  ⟨fun q hq => ⟨(h.1 q hq).1, (if_neg (fun z => hq (by rw [z]; exact hk))).trans (h.1 q hq).2⟩, h.2.1, h.2.2⟩
section CPY
variable {P : sP} {w : sW} {ex : Nat → Option sC} {n sl : Nat}
theorem hp_cpA {k k' N : Nat} (h : s_lays[k]? = some (.inl (0, N))) (h' : s_lays[k']? = some (.inl (0, N))) (hk : k < 2 ∨ 8 ≤ k) (hk' : k' < 2 ∨ 8 ≤ k') (hne : k ≠ k') (hN : N < 2 ^ 31) : s_cpi (hp P w ex n sl) (P.2.1 + k) 0 (P.2.1 + k') 0 (Int32.ofNat N) = some (hp P (cpA w k k' N) ex n sl) := by
  unfold s_cpi
  rw [hp_at (s_lays_lt h) hk, hp_at (s_lays_lt h') hk', w_cl_a h, w_cl_a h']
  dsimp only
  rw [if_neg (by decide), if_neg (by decide)]
  dsimp only
  rw [show (Int32.ofNat N).toNatClampNeg = N from mI_nat hN, if_pos ⟨rfl, rfl, by omega, by decide, by decide, mI_0 hN, by show 0 + N ≤ N; omega, by show 0 + N ≤ N; omega⟩]
  refine congrArg some (hp_up (s_lays_lt h') hk' rfl (fun i hi => if_neg (by omega)) ?_ ?_)
  · rw [w_cl_a h']
    dsimp only
    rw [if_neg (by decide)]
    show some (Sum.inl (0, N, Sum.inl (if k' = k' then _ else _))) = _
    rw [if_pos rfl]
    rfl
  · intro q hq
    exact w_cl_ext rfl (fun _ => rfl) (fun _ => rfl) (if_neg hq) rfl
theorem hp_cpL {k k' N : Nat} (h : s_lays[k]? = some (.inl (1, N))) (h' : s_lays[k']? = some (.inl (1, N))) (hk : k < 2 ∨ 8 ≤ k) (hk' : k' < 2 ∨ 8 ≤ k') (hne : k ≠ k') (hN : N < 2 ^ 31) : s_cpi (hp P w ex n sl) (P.2.1 + k) 0 (P.2.1 + k') 0 (Int32.ofNat N) = some (hp P (cpL w k k' N) ex n sl) := by
  unfold s_cpi
  rw [hp_at (s_lays_lt h) hk, hp_at (s_lays_lt h') hk', w_cl_a h, w_cl_a h']
  dsimp only
  rw [if_pos rfl, if_pos rfl]
  dsimp only
  rw [show (Int32.ofNat N).toNatClampNeg = N from mI_nat hN, if_pos ⟨rfl, rfl, by omega, by decide, by decide, mI_0 hN, by show 0 + N ≤ N; omega, by show 0 + N ≤ N; omega⟩]
  refine congrArg some (hp_up (s_lays_lt h') hk' rfl (fun i hi => rfl) ?_ ?_)
  · rw [w_cl_a h']
    dsimp only
    rw [if_pos rfl]
    show some (Sum.inl (1, N, Sum.inr (Sum.inl (if k' = k' then _ else _)))) = _
    rw [if_pos rfl]
    rfl
  · intro q hq
    exact w_cl_ext rfl (fun _ => rfl) (fun _ => rfl) rfl (if_neg hq)
/-- books c are copied to books d -/
def TK (c d : Nat) (w w' : sW) : Prop := w'.1 d 0 = w.1 c 0 ∧ w'.1 d 1 = w.1 c 1 ∧ w'.1 d 2 = w.1 c 2 ∧ w'.1 d 6 = w.1 c 6 ∧ w'.1 d 9 = w.1 c 9 ∧ w'.1 d 10 = w.1 c 10 ∧ (∀ i, i < 3 → w'.2.2.1 (d + 2) i = w.2.2.1 (c + 2) i) ∧ (∀ i, i < 4 → w'.2.2.1 (d + 3) i = w.2.2.1 (c + 3) i) ∧ (∀ i, i < 30 → w'.2.2.1 (d + 6) i = w.2.2.1 (c + 6) i) ∧ (∀ i, i < 51 → w'.2.2.1 (d + 7) i = w.2.2.1 (c + 7) i) ∧ (∀ i, i < 240 → w'.2.2.1 (d + 8) i = w.2.2.1 (c + 8) i) ∧ (∀ i, i < 120 → w'.2.2.1 (d + 9) i = w.2.2.1 (c + 9) i) ∧ (∀ i, i < 480 → w'.2.2.2.1 (d + 1) i = w.2.2.2.1 (c + 1) i) ∧ (∀ i, i < 40 → w'.2.2.2.1 (d + 4) i = w.2.2.2.1 (c + 4) i) ∧ ∀ i, i < 40 → w'.2.2.2.1 (d + 5) i = w.2.2.2.1 (c + 5) i
theorem c_take1 : ∃ w', F_X1_take (P.2.1 + 19) (P.2.1 + 9) (hp P w ex n sl) = some ((), hp P w' ex n sl) ∧ Fr [20, 21, 22, 23, 24, 25, 26, 27, 28] [1900, 1901, 1902, 1906, 1909, 1910] w w' ∧ TK 9 19 w w' := by
  apply Exists.intro
  refine ⟨?_, ?_, ?_⟩
  · rw [E_X1_take, z_19, ob, E_X1_take_0, q_9_0, ob, p_19_0, ob, q_9_1, ob, p_19_1, ob, q_9_2, ob, p_19_2, ob, q_9_6, ob, p_19_6, ob, q_9_9, ob, p_19_9, ob, q_9_10, ob, p_19_10, ob, q_9_3, ob, q_19_3, ob, ob, n_20, ob, hp_cpL (k := 10) (k' := 20) (N := 480) rfl rfl (by decide) (by decide) (by decide) (by decide), ob, q_9_4, ob, q_19_4, ob, ob, n_21, ob, hp_cpA (k := 11) (k' := 21) (N := 3) rfl rfl (by decide) (by decide) (by decide) (by decide), ob, q_9_5, ob, q_19_5, ob, ob, n_22, ob, hp_cpA (k := 12) (k' := 22) (N := 4) rfl rfl (by decide) (by decide) (by decide) (by decide), ob, q_9_7, ob, q_19_7, ob, ob, n_23, ob, hp_cpL (k := 13) (k' := 23) (N := 40) rfl rfl (by decide) (by decide) (by decide) (by decide), ob, q_9_8, ob, q_19_8, ob, ob, n_24, ob, hp_cpL (k := 14) (k' := 24) (N := 40) rfl rfl (by decide) (by decide) (by decide) (by decide), ob, q_9_11, ob, q_19_11, ob, ob, n_25, ob, hp_cpA (k := 15) (k' := 25) (N := 30) rfl rfl (by decide) (by decide) (by decide) (by decide), ob, q_9_12, ob, q_19_12, ob, ob, n_26, ob, hp_cpA (k := 16) (k' := 26) (N := 51) rfl rfl (by decide) (by decide) (by decide) (by decide), ob, q_9_13, ob, q_19_13, ob, ob, n_27, ob, hp_cpA (k := 17) (k' := 27) (N := 240) rfl rfl (by decide) (by decide) (by decide) (by decide), ob, q_9_14, ob, q_19_14, ob, ob, n_28, ob, hp_cpA (k := 18) (k' := 28) (N := 120) rfl rfl (by decide) (by decide) (by decide) (by decide), ob]
  · exact (((((((((((((((Fr.rf.pI (k := 19) (j := 0) (by decide)).pI (k := 19) (j := 1) (by decide)).pI (k := 19) (j := 2) (by decide)).pI (k := 19) (j := 6) (by decide)).pI (k := 19) (j := 9) (by decide)).pI (k := 19) (j := 10) (by decide)).cpL (k := 10) (k' := 20) (N := 480) (by decide)).cpA (k := 11) (k' := 21) (N := 3) (by decide)).cpA (k := 12) (k' := 22) (N := 4) (by decide)).cpL (k := 13) (k' := 23) (N := 40) (by decide)).cpL (k := 14) (k' := 24) (N := 40) (by decide)).cpA (k := 15) (k' := 25) (N := 30) (by decide)).cpA (k := 16) (k' := 26) (N := 51) (by decide)).cpA (k := 17) (k' := 27) (N := 240) (by decide)).cpA (k := 18) (k' := 28) (N := 120) (by decide))
  · refine ⟨?_, ?_, ?_, ?_, ?_, ?_, fun i hi => ?_, fun i hi => ?_, fun i hi => ?_, fun i hi => ?_, fun i hi => ?_, fun i hi => ?_, fun i hi => ?_, fun i hi => ?_, fun i hi => ?_⟩
    · ((try dsimp only [wA, wI, wL, wJ, cpA, cpL]); (repeat first | rw [up2_n (by omega)] | rw [up2_e (by omega) (by omega)]))
    · ((try dsimp only [wA, wI, wL, wJ, cpA, cpL]); (repeat first | rw [up2_n (by omega)] | rw [up2_e (by omega) (by omega)]))
    · ((try dsimp only [wA, wI, wL, wJ, cpA, cpL]); (repeat first | rw [up2_n (by omega)] | rw [up2_e (by omega) (by omega)]))
    · ((try dsimp only [wA, wI, wL, wJ, cpA, cpL]); (repeat first | rw [up2_n (by omega)] | rw [up2_e (by omega) (by omega)]))
    · ((try dsimp only [wA, wI, wL, wJ, cpA, cpL]); (repeat first | rw [up2_n (by omega)] | rw [up2_e (by omega) (by omega)]))
    · ((try dsimp only [wA, wI, wL, wJ, cpA, cpL]); (repeat first | rw [up2_n (by omega)] | rw [up2_e (by omega) (by omega)]))
    · simp [cpA, cpL, cp0 hi]
    · simp [cpA, cpL, cp0 hi]
    · simp [cpA, cpL, cp0 hi]
    · simp [cpA, cpL, cp0 hi]
    · simp [cpA, cpL, cp0 hi]
    · simp [cpA, cpL, cp0 hi]
    · simp [cpA, cpL, cp0 hi]
    · simp [cpA, cpL, cp0 hi]
    · simp [cpA, cpL, cp0 hi]
theorem c_take2 : ∃ w', F_X1_take (P.2.1 + 9) (P.2.1 + 19) (hp P w ex n sl) = some ((), hp P w' ex n sl) ∧ Fr [10, 11, 12, 13, 14, 15, 16, 17, 18] [900, 901, 902, 906, 909, 910] w w' ∧ TK 19 9 w w' := by
  apply Exists.intro
  refine ⟨?_, ?_, ?_⟩
  · rw [E_X1_take, z_9, ob, E_X1_take_0, q_19_0, ob, p_9_0, ob, q_19_1, ob, p_9_1, ob, q_19_2, ob, p_9_2, ob, q_19_6, ob, p_9_6, ob, q_19_9, ob, p_9_9, ob, q_19_10, ob, p_9_10, ob, q_19_3, ob, q_9_3, ob, ob, n_10, ob, hp_cpL (k := 20) (k' := 10) (N := 480) rfl rfl (by decide) (by decide) (by decide) (by decide), ob, q_19_4, ob, q_9_4, ob, ob, n_11, ob, hp_cpA (k := 21) (k' := 11) (N := 3) rfl rfl (by decide) (by decide) (by decide) (by decide), ob, q_19_5, ob, q_9_5, ob, ob, n_12, ob, hp_cpA (k := 22) (k' := 12) (N := 4) rfl rfl (by decide) (by decide) (by decide) (by decide), ob, q_19_7, ob, q_9_7, ob, ob, n_13, ob, hp_cpL (k := 23) (k' := 13) (N := 40) rfl rfl (by decide) (by decide) (by decide) (by decide), ob, q_19_8, ob, q_9_8, ob, ob, n_14, ob, hp_cpL (k := 24) (k' := 14) (N := 40) rfl rfl (by decide) (by decide) (by decide) (by decide), ob, q_19_11, ob, q_9_11, ob, ob, n_15, ob, hp_cpA (k := 25) (k' := 15) (N := 30) rfl rfl (by decide) (by decide) (by decide) (by decide), ob, q_19_12, ob, q_9_12, ob, ob, n_16, ob, hp_cpA (k := 26) (k' := 16) (N := 51) rfl rfl (by decide) (by decide) (by decide) (by decide), ob, q_19_13, ob, q_9_13, ob, ob, n_17, ob, hp_cpA (k := 27) (k' := 17) (N := 240) rfl rfl (by decide) (by decide) (by decide) (by decide), ob, q_19_14, ob, q_9_14, ob, ob, n_18, ob, hp_cpA (k := 28) (k' := 18) (N := 120) rfl rfl (by decide) (by decide) (by decide) (by decide), ob]
  · exact (((((((((((((((Fr.rf.pI (k := 9) (j := 0) (by decide)).pI (k := 9) (j := 1) (by decide)).pI (k := 9) (j := 2) (by decide)).pI (k := 9) (j := 6) (by decide)).pI (k := 9) (j := 9) (by decide)).pI (k := 9) (j := 10) (by decide)).cpL (k := 20) (k' := 10) (N := 480) (by decide)).cpA (k := 21) (k' := 11) (N := 3) (by decide)).cpA (k := 22) (k' := 12) (N := 4) (by decide)).cpL (k := 23) (k' := 13) (N := 40) (by decide)).cpL (k := 24) (k' := 14) (N := 40) (by decide)).cpA (k := 25) (k' := 15) (N := 30) (by decide)).cpA (k := 26) (k' := 16) (N := 51) (by decide)).cpA (k := 27) (k' := 17) (N := 240) (by decide)).cpA (k := 28) (k' := 18) (N := 120) (by decide))
  · refine ⟨?_, ?_, ?_, ?_, ?_, ?_, fun i hi => ?_, fun i hi => ?_, fun i hi => ?_, fun i hi => ?_, fun i hi => ?_, fun i hi => ?_, fun i hi => ?_, fun i hi => ?_, fun i hi => ?_⟩
    · ((try dsimp only [wA, wI, wL, wJ, cpA, cpL]); (repeat first | rw [up2_n (by omega)] | rw [up2_e (by omega) (by omega)]))
    · ((try dsimp only [wA, wI, wL, wJ, cpA, cpL]); (repeat first | rw [up2_n (by omega)] | rw [up2_e (by omega) (by omega)]))
    · ((try dsimp only [wA, wI, wL, wJ, cpA, cpL]); (repeat first | rw [up2_n (by omega)] | rw [up2_e (by omega) (by omega)]))
    · ((try dsimp only [wA, wI, wL, wJ, cpA, cpL]); (repeat first | rw [up2_n (by omega)] | rw [up2_e (by omega) (by omega)]))
    · ((try dsimp only [wA, wI, wL, wJ, cpA, cpL]); (repeat first | rw [up2_n (by omega)] | rw [up2_e (by omega) (by omega)]))
    · ((try dsimp only [wA, wI, wL, wJ, cpA, cpL]); (repeat first | rw [up2_n (by omega)] | rw [up2_e (by omega) (by omega)]))
    · simp [cpA, cpL, cp0 hi]
    · simp [cpA, cpL, cp0 hi]
    · simp [cpA, cpL, cp0 hi]
    · simp [cpA, cpL, cp0 hi]
    · simp [cpA, cpL, cp0 hi]
    · simp [cpA, cpL, cp0 hi]
    · simp [cpA, cpL, cp0 hi]
    · simp [cpA, cpL, cp0 hi]
    · simp [cpA, cpL, cp0 hi]
end CPY
