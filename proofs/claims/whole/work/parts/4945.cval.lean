/-! steps and instances -/
def cZ (c : nN → Nat) (s : Nat) (o : Option Nat) : Nat := match o with
  | none => 0
  | some i => c (i, s)
/-- what a step costs -/
noncomputable def svZ (S : List (List Nat)) (A : List Nat) (H : Nat → Prop) (q : Nat → Nat) (p : Nat) (c : nN → Nat) (s : Nat) (z : zT) : Nat := @ite _ (H z.1) (Classical.propDecidable _) (if z.1 = 10 then @ite _ (H 1) (Classical.propDecidable _) (lmt (lcO S q p 10 z.2.1 + lcO S q p 1 (A.getD (z.2.2.2.1.getD 0) 0) + c (z.2.2.1.getD 0, s ||| 2 ^ (z.2.2.2.1.getD 0)))) 268435456 else lmt (lcO S q p z.1 z.2.1 + cZ c s z.2.2.1 + cZ c s z.2.2.2.1 + cZ c s z.2.2.2.2)) 268435456
section SVS
variable {D k s p r b : Nat} {S : List (List Nat)} {A : List Nat} {tl H : Nat → Prop} {q : Nat → Nat} {c : nN → Nat} {z : zT}
theorem sv_o (hr : z.1 ≠ 10) (hH : H z.1) : svZ S A H q p c s z = lmt (lcO S q p z.1 z.2.1 + cZ c s z.2.2.1 + cZ c s z.2.2.2.1 + cZ c s z.2.2.2.2) := by
  unfold svZ
  rw [if_pos hH, if_neg hr]
theorem sv_n (hH : ¬ H z.1) : svZ S A H q p c s z = 268435456 := by
  unfold svZ
  rw [if_neg hH]
theorem okS_op (hS : okS S) {i : Nat} (hi : i < S.length) (h : ar (opO S i) = 2) : ∃ a b', at0 S i = opO S i :: (a ++ b') ∧ wff a ∧ wff b' := by
  have hok := hS.2.1 _ (mem_at0.mpr ⟨i, hi, rfl⟩)
  obtain ⟨t, r, e, hc⟩ := wff_cases hok.1
  rw [op_c e] at h ⊢
  rcases hc with ⟨h0, -⟩ | ⟨h1, -⟩ | ⟨-, a, b', rfl, ha, hb⟩
  · omega
  · omega
  · exact ⟨a, b', e, ha, hb⟩
theorem gz_ins (hS : okS S) (hD : 1 ≤ D ∧ D ≤ 3) (hA : A.Nodup) (hs : s < 2 ^ A.length) (hk : k < S.length) (h : GZ D S A k z) (hH : H z.1) (h1 : z.1 = 10 → H 1) : ∃ ps b, INS D S A tl H q p z.1 (z.2.1, s) ps b ∧ svZ S A H q p c s z = lmt (b + sumC c ps) := by
  have st : ∀ l, z.1 ≠ 10 → ST D S z.1 z.2.1 l → cZ c s z.2.2.1 + cZ c s z.2.2.2.1 + cZ c s z.2.2.2.2 = sumC c (sgm s l) → ∃ ps b, INS D S A tl H q p z.1 (z.2.1, s) ps b ∧ svZ S A H q p c s z = lmt (b + sumC c ps) := by
    intro l h10 hst hsum
    refine ⟨sgm s l, lcO S q p z.1 z.2.1, ⟨hst.lt.1, hs, hH, Or.inr (Or.inr (Or.inr (Or.inr ⟨l, hst, rfl, rfl⟩)))⟩, ?_⟩
    rw [sv_o h10 hH, ← hsum]
    congr 1
    omega
  rcases h with ⟨t, t1, t2, rfl⟩ | ⟨ho, h⟩ | ⟨ho, h⟩ | ⟨ho, i, j, e1, e2, h⟩ | ⟨ho, h⟩ | ⟨ho, i, t, t1, t2, rfl⟩
  · exact st [k] (Nat.ne_of_beq_eq_false rfl) ⟨t1, k, hk, t2, rfl⟩ (by rw [sum_1]; rfl)
  · rcases h with ⟨i, j, e1, e2, rfl⟩ | ⟨t, e1, rfl⟩ | ⟨t, e1, rfl⟩
    · exact st [i, j] (Nat.ne_of_beq_eq_false rfl) ⟨hk, ho, i, j, e1, e2, rfl⟩ (by rw [sum_2]; rfl)
    · exact st [k] (Nat.ne_of_beq_eq_false rfl) ⟨lf_lt e1, k, hk, ho, e1, rfl⟩ (by rw [sum_1]; rfl)
    · exact st [k] (Nat.ne_of_beq_eq_false rfl) ⟨rt_lt e1, k, hk, ho, e1, rfl⟩ (by rw [sum_1]; rfl)
  · rcases h with ⟨i, e1, rfl⟩ | ⟨i, e1, rfl⟩ | ⟨t, j, m, t1, e1, e2, rfl⟩
    · exact st [i] (Nat.ne_of_beq_eq_false rfl) ⟨hk, ho, i, e1, rfl⟩ (by rw [sum_1]; rfl)
    · exact st [i] (Nat.ne_of_beq_eq_false rfl) ⟨hk, ho, i, e1, rfl⟩ (by rw [sum_1]; rfl)
    · obtain ⟨a, b', e, ha, hb⟩ := okS_op hS hk (by rw [ho]; rfl)
      rw [ho] at e
      rw [(cF_2 e ha).1] at e1
      rw [(cF_2 e ha).2] at e2
      refine st [k, j, m] (Nat.ne_of_beq_eq_false rfl) ⟨t1, k, j, m, a, b', hk, e, ha, hb, e1, e2, rfl⟩ ?_
      rw [sum_3]
      show c (k, s) + c (j, s) + c (m, s) = _
      omega
  · rcases h with rfl | ⟨m, e3, rfl⟩
    · exact st [i, k] (Nat.ne_of_beq_eq_false rfl) ⟨rt_lt e2, k, i, hk, ho, e2, e1, rfl⟩ (by rw [sum_2]; rfl)
    · obtain ⟨m1, m2⟩ := slO_some e3
      refine ⟨[(j, s ||| 2 ^ m)], lcO S q p 10 k + lcO S q p 1 i, ⟨hk, hs, hH, Or.inr (Or.inr (Or.inl ⟨rfl, h1 rfl, ho, i, j, m, e1, m1, m2, e2, rfl, rfl⟩))⟩, ?_⟩
      unfold svZ
      rw [if_pos hH, if_pos rfl, if_pos (h1 rfl)]
      show lmt (lcO S q p 10 k + lcO S q p 1 (A.getD m 0) + c (j, s ||| 2 ^ m)) = _
      rw [m2]
      simp [sumC]
  · rcases h with ⟨t, j, t1, e1, rfl⟩ | ⟨f, e1, rfl⟩
    · exact st [k] (Nat.ne_of_beq_eq_false rfl) ⟨pl_lt e1, k, t, hk, ho, t1, e1, rfl⟩ (by rw [sum_1]; rfl)
    · refine st ((List.range D).map f) (Nat.ne_of_beq_eq_false rfl) ⟨hk, ho, f, e1, rfl⟩ ?_
      have : D = 1 ∨ D = 2 ∨ D = 3 := by omega
      rcases this with rfl | rfl | rfl
      · show c (f 0, s) + 0 + 0 = sumC c (sgm s [f 0])
        rw [sum_1]; omega
      · show c (f 0, s) + c (f 1, s) + 0 = sumC c (sgm s [f 0, f 1])
        rw [sum_2]; omega
      · show c (f 0, s) + c (f 1, s) + c (f 2, s) = sumC c (sgm s [f 0, f 1, f 2])
        rw [sum_3]; omega
  · exact st [i] (Nat.ne_of_beq_eq_false rfl) ⟨hk, ho, i, t, t1, t2, rfl⟩ (by rw [sum_1]; rfl)
theorem ins_gz (hD : 1 ≤ D ∧ D ≤ 3) (hA : A.Nodup) {ps : List nN} (h : INS D S A tl H q p r (k, s) ps b) (h0 : 2 ≤ r) (h14 : r ≠ 14) : ∃ k0 z, k0 < S.length ∧ GZ D S A k0 z ∧ z.1 = r ∧ z.2.1 = k ∧ svZ S A H q p c s z = lmt (b + sumC c ps) := by
  obtain ⟨hk, hs, hH, ⟨g4, -⟩ | ⟨g4, -⟩ | ⟨rfl, g1, g2, i, j, m, g3, g4, g5, g6, rfl, rfl⟩ | ⟨g4, -⟩ | ⟨l, g4, rfl, rfl⟩⟩ := h
  · omega
  · omega
  · refine ⟨k, (10, k, some j, some m, none), hk, Or.inr (Or.inr (Or.inr (Or.inl ⟨g2, i, j, g3, g6, Or.inr ⟨m, slO_of hA g4 g5, rfl⟩⟩))), rfl, rfl, ?_⟩
    unfold svZ
    rw [if_pos hH, if_pos rfl, if_pos g1]
    show lmt (lcO S q p 10 k + lcO S q p 1 (A.getD m 0) + c (j, s ||| 2 ^ m)) = _
    rw [g5]
    simp [sumC]
  · omega
  · have fin : ∀ k0 (z : zT), k0 < S.length → GZ D S A k0 z → z.1 = r → z.2.1 = k → cZ c s z.2.2.1 + cZ c s z.2.2.2.1 + cZ c s z.2.2.2.2 = sumC c (sgm s l) → ∃ k0 z, k0 < S.length ∧ GZ D S A k0 z ∧ z.1 = r ∧ z.2.1 = k ∧ svZ S A H q p c s z = lmt (lcO S q p r (k, s).1 + sumC c (l.map (fun i => (i, (k, s).2)))) := by
      intro k0 z a1 a2 a3 a4 a5
      refine ⟨k0, z, a1, a2, a3, a4, ?_⟩
      rw [sv_o (by rw [a3]; exact g4.r.2.2) (by rw [a3]; exact hH), a3, a4]
      show _ = lmt (lcO S q p r k + sumC c (sgm s l))
      rw [← a5]
      congr 1
      omega
    rcases g4.c with rfl | rfl | rfl | rfl | rfl | rfl | rfl | rfl | rfl | rfl | rfl
    · obtain ⟨ho, i, j, e1, e2, rfl⟩ := g4.2
      exact fin k (2, k, some i, some j, none) hk (Or.inr (Or.inl ⟨ho, Or.inl ⟨i, j, e1, e2, rfl⟩⟩)) rfl rfl (by rw [sum_2]; rfl)
    · obtain ⟨i, i1, ho, e1, rfl⟩ := g4.2
      exact fin i (3, k, some i, none, none) i1 (Or.inr (Or.inl ⟨ho, Or.inr (Or.inl ⟨k, e1, rfl⟩)⟩)) rfl rfl (by rw [sum_1]; rfl)
    · obtain ⟨i, i1, ho, e1, rfl⟩ := g4.2
      exact fin i (4, k, some i, none, none) i1 (Or.inr (Or.inl ⟨ho, Or.inr (Or.inr ⟨k, e1, rfl⟩)⟩)) rfl rfl (by rw [sum_1]; rfl)
    · obtain ⟨ho, i, e1, rfl⟩ := g4.2
      exact fin k (5, k, some i, none, none) hk (Or.inr (Or.inr (Or.inl ⟨ho, Or.inl ⟨i, e1, rfl⟩⟩))) rfl rfl (by rw [sum_1]; rfl)
    · obtain ⟨ho, i, e1, rfl⟩ := g4.2
      exact fin k (6, k, some i, none, none) hk (Or.inr (Or.inr (Or.inl ⟨ho, Or.inr (Or.inl ⟨i, e1, rfl⟩)⟩))) rfl rfl (by rw [sum_1]; rfl)
    · obtain ⟨i, j, i1, ho, e1, e2, rfl⟩ := g4.2
      exact fin i (7, k, some j, some i, none) i1 (Or.inr (Or.inr (Or.inr (Or.inl ⟨ho, j, k, e2, e1, Or.inl rfl⟩)))) rfl rfl (by rw [sum_2]; rfl)
    · obtain ⟨i, i1, e1, rfl⟩ := g4.2
      exact fin i (8, k, some i, none, none) i1 (Or.inl ⟨k, hk, e1, rfl⟩) rfl rfl (by rw [sum_1]; rfl)
    · obtain ⟨i, j, m, a, b', i1, e, ha, hb, e1, e2, rfl⟩ := g4.2
      refine fin i (9, k, some i, some j, some m) i1 (Or.inr (Or.inr (Or.inl ⟨op_c e, Or.inr (Or.inr ⟨k, j, m, hk, by rw [(cF_2 e ha).1]; exact e1, by rw [(cF_2 e ha).2]; exact e2, rfl⟩)⟩))) rfl rfl ?_
      rw [sum_3]
      show c (i, s) + c (j, s) + c (m, s) = _
      omega
    · obtain ⟨i, t, i1, ho, t1, e1, rfl⟩ := g4.2
      exact fin i (11, k, some i, none, none) i1 (Or.inr (Or.inr (Or.inr (Or.inr (Or.inl ⟨ho, Or.inl ⟨t, k, t1, e1, rfl⟩⟩))))) rfl rfl (by rw [sum_1]; rfl)
    · obtain ⟨ho, f, e1, rfl⟩ := g4.2
      refine fin k (12, k, some (f 0), (if 1 < D then some (f 1) else none), (if 2 < D then some (f 2) else none)) hk (Or.inr (Or.inr (Or.inr (Or.inr (Or.inl ⟨ho, Or.inr ⟨f, e1, rfl⟩⟩))))) rfl rfl ?_
      have : D = 1 ∨ D = 2 ∨ D = 3 := by omega
      rcases this with rfl | rfl | rfl
      · show c (f 0, s) + 0 + 0 = sumC c (sgm s [f 0])
        rw [sum_1]; omega
      · show c (f 0, s) + c (f 1, s) + 0 = sumC c (sgm s [f 0, f 1])
        rw [sum_2]; omega
      · show c (f 0, s) + c (f 1, s) + c (f 2, s) = sumC c (sgm s [f 0, f 1, f 2])
        rw [sum_3]; omega
    · obtain ⟨ho, i, t, t1, e1, rfl⟩ := g4.2
      exact fin k (13, k, some i, none, none) hk (Or.inr (Or.inr (Or.inr (Or.inr (Or.inr ⟨ho, i, t, t1, e1, rfl⟩))))) rfl rfl (by rw [sum_1]; rfl)
end SVS
