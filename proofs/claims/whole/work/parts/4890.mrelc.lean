/-! how the model relates what it has looked at: pairs, and all of it -/
section MRC
variable {P : sP} {S0 e : Nat} {w w' w1 w2 u u' u'' v : sW} {ex : Nat → Option sC} {n sl D F L R U : Nat} {y : sLn} {φ : Nat → List Nat} {nf : Nat → Nat} {ρ : sRc} {nd : Nat → List Nat} {S T : List (List Nat)} {A : List Nat} {tl : Nat → Prop}
def RLb (u : sW) (D : Nat) (S : List (List Nat)) (k j : Nat) : Prop := u.2.2.1 65 (40 * k + j) = b2 (∃ t, t < D ∧ opO S k = 16 ∧ plO S k t = some j) ∧ u.2.2.1 66 (40 * k + j) = b2 (at0 S k = 12 :: 12 :: at0 S j) ∧ u.2.2.1 67 (40 * k + j) = thOf (cFO S k j) ∧ u.2.2.1 68 (40 * k + j) = thOf (cSO S k j)
theorem FQ.of {A : List Nat} {B : List Nat} (h : Fr A B u u') (h1 : 49 ∉ A) (h2 : 50 ∉ A) (hA : ∀ k ∈ A, k ∈ qA) (hB : ∀ k ∈ B, k ∈ [4634]) : FQ u u' := ⟨h.mo hA hB, fun i _ => by rw [h.a h1], fun i _ => by rw [h.a h2]⟩
theorem RLa.fr {A B : List Nat} {k : Nat} (h : RLa u D S tl k) (f : Fr A B u u') (h0 : 60 ∉ A) (h1 : 61 ∉ A) (h2 : 62 ∉ A) (h3 : 63 ∉ A) (h4 : 64 ∉ A) : RLa u' D S tl k := by
  unfold RLa
  rw [f.a h0, f.a h1, f.a h2, f.a h3, f.a h4]
  exact h
abbrev pA4 : List Nat := [65, 66, 67, 68]
theorem m_relC1 {k j : Nat} (hL : LMo v S) (hM : MW v D F L y φ) (hR : ∀ j, j < S.length → RLa v D S tl j) (hk : k < S.length) (hj : j < S.length) : R_X8_relates_313 (P.2.1 + 46) (mI k) (mI j) (hp P v ex n sl) = R_X8_relates_313 (P.2.1 + 46) (mI k) (mI (j + 1)) (hp P (wA (wA (wA (wA v 65 (40 * k + j) (b2 (∃ t, t < D ∧ opO S k = 16 ∧ plO S k t = some j))) 66 (40 * k + j) (b2 (at0 S k = 12 :: 12 :: at0 S j))) 67 (40 * k + j) (thOf (cFO S k j))) 68 (40 * k + j) (thOf (cSO S k j))) ex n sl) := by
  have h40 := hL.2.1.1
  have hnd := hL.2.1.2.2
  have c30 : ∀ v, 30 + mI v = mI (30 + v) := fun v => mI_add 30 v
  have cix : 40 * mI k + mI j = mI (40 * k + j) := by
    show mI 40 * mI k + mI j = _
    rw [mI_mul, mI_add]
  have hok := at0_ok hL hk
  obtain ⟨s, r, e, hc⟩ := wff_cases hok.1
  have hs18 : s < 18 := hok.2.2 s (by rw [e]; exact List.mem_cons_self)
  have eP : (∃ t, t < D ∧ ∃ r, at0 S k = 16 :: r ∧ r.map (ins (some t)) = at0 S j) ↔ ∃ t, t < D ∧ opO S k = 16 ∧ plO S k t = some j := by
    constructor
    · rintro ⟨t, h1, r', h2, h3⟩
      refine ⟨t, h1, op_c h2, ?_⟩
      rw [pl_q h2 (Or.inl rfl), h3]
      exact pos_at hnd hj
    · rintro ⟨t, h1, h2, h3⟩
      rw [op_c e] at h2
      subst h2
      rw [pl_q e (Or.inl rfl)] at h3
      exact ⟨t, h1, r, e, ((pos_iff hnd).mp h3).2.symm⟩
  generalize hv1 : wA v 65 (40 * k + j) (b2 (∃ t, t < D ∧ opO S k = 16 ∧ plO S k t = some j)) = v1
  have f1 : Fr pA4 [] v v1 := by rw [← hv1]; exact Fr.rf.pA (by decide)
  have hL1 := hL.fq (FQ.of f1 (by decide) (by decide) (by decide) (by decide))
  generalize hv2 : wA v1 66 (40 * k + j) (b2 (at0 S k = 12 :: 12 :: at0 S j)) = v2
  have f2 : Fr pA4 [] v v2 := by rw [← hv2]; exact f1.pA (by decide)
  have hL2 := hL.fq (FQ.of f2 (by decide) (by decide) (by decide) (by decide))
  have hR2 : ∀ j, j < S.length → RLa v2 D S tl j := fun j hj => (hR j hj).fr f2 (by decide) (by decide) (by decide) (by decide) (by decide)
  generalize hv3 : wA v2 67 (40 * k + j) (thOf (cFO S k j)) = v3
  have f3 : Fr pA4 [] v v3 := by rw [← hv3]; exact f2.pA (by decide)
  have hL3 := hL.fq (FQ.of f3 (by decide) (by decide) (by decide) (by decide))
  have hR3 : ∀ j, j < S.length → RLa v3 D S tl j := fun j hj => (hR j hj).fr f3 (by decide) (by decide) (by decide) (by decide) (by decide)
  rw [E_X8_relates_313, q_46_33, ob, hL.1, if_neg (show ¬ mI S.length ≤ mI j by rw [nle (by omega) (by omega)]; omega), q_46_28, ob, c30, c30, m_isOfSome (v := 16) (s := 16) rfl rfl rfl hM.2.2.2.2.1 hM.2.1 (by omega) (by omega) (by decide) (hL.2.2 k hk) (hL.2.2 j hj) hok.1, ob, b2_congr eP]
  try dsimp only
  rw [cix, wa_65 (by omega), ob, nar_b2, hv1, q_46_29, ob, m_isTwice rfl rfl (by omega) (by omega) (hL1.2.2 k hk) (hL1.2.2 j hj) hok.1, ob]
  try dsimp only
  rw [wa_66 (by omega), ob, nar_b2, hv2, q_46_30, ob, q_46_23, ob, ra_60 (by omega), ob, (hR2 k hk).1, op_c e]
  by_cases g : s = 14
  · subst g
    rcases hc with ⟨h0, -⟩ | ⟨h1, -⟩ | ⟨-, b, c, rfl, hb, hcc⟩
    · cases h0
    · cases h1
    · have hl2 := hL2.2.2 k hk
      have hl3 := hL3.2.2 k hk
      rw [e] at hl2 hl3
      have hlen := hl2.2.1
      simp only [List.length_cons, List.length_append] at hlen
      have hlk : (at0 S k).length = b.length + c.length + 1 := by rw [e]; simp
      have cF := (cF_2 (j := j) e hb)
      rw [cF.1] at hv3
      rw [if_pos (show mI 14 = 14 from rfl), m_endOf (y := 1) (i := 1) (b := c) rfl rfl (by omega) hl2 rfl hb, ob]
      try dsimp only
      rw [m_caseOf (k := k) (i := 1) (x2 := 1) (i' := 1 + b.length) (j := j) (a := b) rfl rfl rfl rfl hL2 hR2 hk hj (by omega) (by omega) (by rw [e, seg_a]) hb, ob, E_X8_relates_409]
      try dsimp only
      rw [wa_67 (by omega), ob, hv3, q_46_31, ob, q_46_23, ob, ra_60 (by omega), ob, (hR3 k hk).1, op_c e, if_pos (show mI 14 = 14 from rfl), c30, m_endOf (y := 1) (i := 1) (b := c) rfl rfl (by omega) hl3 rfl hb, ob]
      try dsimp only
      rw [q_46_4, ob, m_len rfl (by omega) hl3, ob, m_caseOf (k := k) (i := 1 + b.length) (i' := (14 :: (b ++ c)).length) (j := j) (a := c) rfl rfl rfl rfl hL3 hR3 hk hj (by simp; omega) (by rw [e]; exact Nat.le_refl _) (by rw [e, seg_b]) hcc, ob, E_X8_relates_458]
      try dsimp only
      rw [wa_68 (by omega), ob, mI_s, cF.2]
  · have g' : ¬ mI s = 14 := by rw [show (14 : Int32) = mI 14 from rfl, mI_inj (by omega) (by decide)]; exact g
    have cF := cF_o (j := j) e g
    rw [cF.1] at hv3
    rw [if_neg g', E_X8_relates_409, wa_67 (by omega), ob, show wA v2 67 (40 * k + j) (-1) = v3 from hv3, q_46_31, ob, q_46_23, ob, ra_60 (by omega), ob, (hR3 k hk).1, op_c e, if_neg g', E_X8_relates_458, wa_68 (by omega), ob, mI_s, cF.2]
    rfl
theorem RLb.wr {k j k' j' : Nat} {a b c d : Int32} (h : RLb v D S k' j') (hn : 40 * k' + j' ≠ 40 * k + j) : RLb (wA (wA (wA (wA v 65 (40 * k + j) a) 66 (40 * k + j) b) 67 (40 * k + j) c) 68 (40 * k + j) d) D S k' j' := by
  obtain ⟨h1, h2, h3, h4⟩ := h
  refine ⟨?_, ?_, ?_, ?_⟩ <;> ((try dsimp only [wA, wI, wL, wJ]); (repeat first | rw [up2_n (by omega)] | rw [up2_e (by omega) (by omega)]))
  · exact h1
  · exact h2
  · exact h3
  · exact h4
theorem RLb.at {k j : Nat} : RLb (wA (wA (wA (wA v 65 (40 * k + j) (b2 (∃ t, t < D ∧ opO S k = 16 ∧ plO S k t = some j))) 66 (40 * k + j) (b2 (at0 S k = 12 :: 12 :: at0 S j))) 67 (40 * k + j) (thOf (cFO S k j))) 68 (40 * k + j) (thOf (cSO S k j))) D S k j := by
  refine ⟨?_, ?_, ?_, ?_⟩ <;> ((try dsimp only [wA, wI, wL, wJ]); (repeat first | rw [up2_n (by omega)] | rw [up2_e (by omega) (by omega)]))
theorem m_relC (hL : LMo u S) (hM : MW u D F L y φ) (hR : ∀ j, j < S.length → RLa u D S tl j) : ∃ u', R_X8_relates_303 (P.2.1 + 46) 0 (hp P u ex n sl) = some ((), hp P u' ex n sl) ∧ Fr pA4 [] u u' ∧ ∀ k, k < S.length → ∀ j, j < S.length → RLb u' D S k j := by
  have h40 := hL.2.1.1
  have inner : ∀ k, k < S.length → ∀ d j (v : sW), j + d = S.length → Fr pA4 [] u v → (∀ k', k' < k → ∀ j', j' < S.length → RLb v D S k' j') → (∀ j', j' < j → RLb v D S k j') → ∃ v', R_X8_relates_313 (P.2.1 + 46) (mI k) (mI j) (hp P v ex n sl) = R_X8_relates_303 (P.2.1 + 46) (mI (k + 1)) (hp P v' ex n sl) ∧ Fr pA4 [] u v' ∧ ∀ k', k' < k + 1 → ∀ j', j' < S.length → RLb v' D S k' j' := by
    intro k hk d
    induction d with
    | zero =>
      intro j v hj hv h1 h2
      have hj' : j = S.length := by omega
      subst hj'
      refine ⟨v, ?_, hv, fun k' hk' j' hj' => ?_⟩
      · rw [E_X8_relates_313, q_46_33, ob, hv.i (k := 46) (j := 33) (by decide), hL.1, if_pos (by rw [nle (by omega) (by omega)]; exact Nat.le_refl _), mI_s]
      · by_cases q : k' = k
        · rw [q]; exact h2 j' hj'
        · exact h1 k' (by omega) j' hj'
    | succ d ih =>
      intro j v hj hv h1 h2
      have fq := FQ.of hv (by decide) (by decide) (by decide) (by decide)
      rw [m_relC1 (hL.fq fq) (hM.fv' fq.fv) (fun j hj => (hR j hj).fr hv (by decide) (by decide) (by decide) (by decide) (by decide)) hk (by omega)]
      refine ih (j + 1) _ (by omega) ((((hv.pA (by decide)).pA (by decide)).pA (by decide)).pA (by decide)) (fun k' hk' j' hj' => (h1 k' hk' j' hj').wr (by omega)) (fun j' hj' => ?_)
      by_cases q : j' = j
      · rw [q]; exact RLb.at
      · exact (h2 j' (by omega)).wr (by omega)
  have outer : ∀ d k (v : sW), k + d = S.length → Fr pA4 [] u v → (∀ k', k' < k → ∀ j', j' < S.length → RLb v D S k' j') → ∃ u', R_X8_relates_303 (P.2.1 + 46) (mI k) (hp P v ex n sl) = some ((), hp P u' ex n sl) ∧ Fr pA4 [] u u' ∧ ∀ k, k < S.length → ∀ j, j < S.length → RLb u' D S k j := by
    intro d
    induction d with
    | zero =>
      intro k v hk hv h1
      have hk' : k = S.length := by omega
      subst hk'
      refine ⟨v, ?_, hv, h1⟩
      rw [E_X8_relates_303, q_46_33, ob, hv.i (k := 46) (j := 33) (by decide), hL.1, if_pos (by rw [nle (by omega) (by omega)]; exact Nat.le_refl _)]
    | succ d ih =>
      intro k v hk hv h1
      obtain ⟨v', a1, a2, a3⟩ := inner k (by omega) S.length 0 v (by omega) hv h1 (fun j' hj' => absurd hj' (Nat.not_lt_zero _))
      obtain ⟨u', b1, b2', b3⟩ := ih (k + 1) v' (by omega) a2 a3
      refine ⟨u', ?_, b2', b3⟩
      rw [E_X8_relates_303, q_46_33, ob, hv.i (k := 46) (j := 33) (by decide), hL.1, if_neg (show ¬ mI S.length ≤ mI k by rw [nle (by omega) (by omega)]; omega)]
      exact a1.trans b1
  exact outer S.length 0 u (by omega) Fr.rf (fun k' hk' => absurd hk' (Nat.not_lt_zero _))
/-- all that the model knows of the places -/
def RLt (u : sW) (D : Nat) (S : List (List Nat)) (tl : Nat → Prop) : Prop := LMo u S ∧ ASm u (asm S S.length) ∧ (∀ j, j < S.length → RLa u D S tl j) ∧ ∀ k, k < S.length → ∀ j, j < S.length → RLb u D S k j
theorem m_relates {told : Int32} (hL : LMo u S) (hM : MW u D F L y φ) : ∃ u', F_X8_relates (P.2.1 + 46) told (hp P u ex n sl) = some ((), hp P u' ex n sl) ∧ FQ u u' ∧ RLt u' D S (fun j => tol F φ told (at0 S j)) := by
  have h40 := hL.2.1.1
  have f0 : Fr qA [4634] u (wI u 46 34 0) := Fr.rf.pI (k := 46) (j := 34) (by decide)
  have q0 : FQ u (wI u 46 34 0) := ⟨f0, fun _ _ => rfl, fun _ _ => rfl⟩
  have h34 : (wI u 46 34 0).1 46 34 = mI 0 := wI_s
  have lp : ∀ d k (v : sW), k + d = S.length → FQ u v → v.1 46 34 = mI 0 → (∀ j, j < k → RLa v D S (fun j => tol F φ told (at0 S j)) j) → ∃ v', R_X8_relates_7 (P.2.1 + 46) told (mI k) (hp P v ex n sl) = R_X8_relates_221 (P.2.1 + 46) 0 (hp P v' ex n sl) ∧ FQ u v' ∧ v'.1 46 34 = mI 0 ∧ ∀ j, j < S.length → RLa v' D S (fun j => tol F φ told (at0 S j)) j := by
    intro d
    induction d with
    | zero =>
      intro k v hk hv h34 hI
      have hk' : k = S.length := by omega
      subst hk'
      refine ⟨v, ?_, hv, h34, hI⟩
      rw [E_X8_relates_7, q_46_33, ob, (hL.fq hv).1, if_pos (by rw [nle (by omega) (by omega)]; exact Nat.le_refl _)]
    | succ d ih =>
      intro k v hk hv h34 hI
      obtain ⟨v1, a1, a2, a3, a4⟩ := m_relP (P := P) (ex := ex) (n := n) (sl := sl) (told := told) (hL.fq hv) (hM.fv' hv.fv) (by omega) hI
      rw [a1]
      exact ih (k + 1) v1 (by omega) (hv.tr a2) (by rw [a3]; exact h34) a4
  obtain ⟨v1, a1, a2, a3, a4⟩ := lp S.length 0 _ (by omega) q0 h34 (fun j hj => absurd hj (Nat.not_lt_zero _))
  have hL1 := hL.fq a2
  obtain ⟨v2, b1, b2', b3⟩ := m_relA (P := P) (ex := ex) (n := n) (sl := sl) hL1 a4 S.length 0 v1 (by omega) Fr.rf ⟨a3, Nat.zero_le _, (fun i hi => absurd hi List.not_mem_nil), (fun m hm => absurd hm (Nat.not_lt_zero _))⟩
  have q2 := a2.tr (FQ.of b2' (by decide) (by decide) (by decide) (by decide))
  have hL2 := hL.fq q2
  have r2 : ∀ j, j < S.length → RLa v2 D S (fun j => tol F φ told (at0 S j)) j := fun j hj => (a4 j hj).fr b2' (by decide) (by decide) (by decide) (by decide) (by decide)
  obtain ⟨v3, c1, c2, c3⟩ := m_relC (P := P) (ex := ex) (n := n) (sl := sl) hL2 (hM.fv' q2.fv) r2
  have q3 := q2.tr (FQ.of c2 (by decide) (by decide) (by decide) (by decide))
  refine ⟨v3, ?_, q3, hL.fq q3, ?_, fun j hj => (r2 j hj).fr c2 (by decide) (by decide) (by decide) (by decide) (by decide), c3⟩
  · rw [E_X8_relates, z_46, ob, E_X8_relates_0, p_46_34, ob]
    refine a1.trans (b1.trans ?_)
    rw [E_X8_relates_301]
    exact c1
  · show AS _ _ _
    rw [c2.i (k := 46) (j := 34) (by decide), c2.a (k := 69) (by decide)]
    exact b3
end MRC
