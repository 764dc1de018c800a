/-! how the model relates what it has looked at: each place -/
section MRA
variable {P : sP} {S0 e : Nat} {w w' w1 w2 u u' u'' : sW} {ex : Nat → Option sC} {n sl D F L R U : Nat} {y : sLn} {φ : Nat → List Nat} {nf : Nat → Nat} {ρ : sRc} {nd : Nat → List Nat} {S T : List (List Nat)}
/-- but place 71 of the store, nothing is written -/
def S7 (u u' : sW) : Prop := Fr [49, 50] [] u u' ∧ (∀ i, i < 71 → u'.2.2.1 49 i = u.2.2.1 49 i) ∧ ∀ i, i < 2840 → u'.2.2.1 50 i = u.2.2.1 50 i
theorem S7.rf : S7 u u := ⟨Fr.rf, fun _ _ => rfl, fun _ _ => rfl⟩
theorem St.s7 (h : St 71 u u') : S7 u u' := ⟨h.1, fun i hi => h.2.1 i (by omega), fun i hi => h.2.2 i (by omega)⟩
abbrev qA : List Nat := [49, 50, 60, 61, 62, 63, 64, 65, 66, 67, 68, 69]
def FQ (u u' : sW) : Prop := Fr qA [4634] u u' ∧ (∀ i, i < 71 → u'.2.2.1 49 i = u.2.2.1 49 i) ∧ ∀ i, i < 2840 → u'.2.2.1 50 i = u.2.2.1 50 i
theorem FQ.rf : FQ u u := ⟨Fr.rf, fun _ _ => rfl, fun _ _ => rfl⟩
theorem FQ.tr (h : FQ u u') (g : FQ u' u'') : FQ u u'' := ⟨h.1.tr g.1, fun i hi => (g.2.1 i hi).trans (h.2.1 i hi), fun i hi => (g.2.2 i hi).trans (h.2.2 i hi)⟩
theorem S7.fq (h : S7 u u') : FQ u u' := ⟨h.1.mo (by decide) (by decide), h.2⟩
theorem FQ.wA {k j : Nat} {v : Int32} (hk : k ∈ [60, 61, 62, 63, 64, 65, 66, 67, 68, 69]) : FQ u (wA u k j v) := by
  have h2 : k ≠ 49 ∧ k ≠ 50 := by
    constructor <;> (intro z; rw [z] at hk; exact absurd hk (by decide))
  refine ⟨Fr.rf.pA (List.mem_cons_of_mem _ (List.mem_cons_of_mem _ hk)), fun i _ => ?_, fun i _ => ?_⟩
  · exact wA_n (Or.inl (Ne.symm h2.1))
  · exact wA_n (Or.inl (Ne.symm h2.2))
theorem FQ.fv (h : FQ u u') : FV u u' := ⟨fun k hk => h.1.1 k (fun z => hk ((show ∀ k ∈ qA, k ∈ scA by decide) k z)), fun i hi => h.2.1 i (by omega), fun i hi => h.2.2 i (by omega), fun k j hk => h.1.2.1 k j (fun z => hk (by simp at z; rw [z]; decide)), h.1.2.2⟩
theorem hasL.fq {f : Nat} {l : List Nat} (hL : hasL u f l) (h : FQ u u') (hf : f < 71) : hasL u' f l := by
  obtain ⟨h1, h2, h3, h4⟩ := hL
  exact ⟨(h.2.1 f hf).trans h1, h2, h3, fun k hk => (h.2.2 _ (by omega)).trans (h4 k hk)⟩
theorem LMo.fq (hL : LMo u S) (h : FQ u u') : LMo u' S := by
  have := hL.2.1.1
  exact ⟨(h.1.i (k := 46) (j := 33) (by decide)).trans hL.1, hL.2.1, fun i hi => (hL.2.2 i hi).fq h (by omega)⟩
/-- what is written of one place -/
def RLa (u : sW) (D : Nat) (S : List (List Nat)) (tl : Nat → Prop) (k : Nat) : Prop := u.2.2.1 60 k = mI (opO S k) ∧ u.2.2.1 61 k = thOf (lfO S k) ∧ u.2.2.1 62 k = thOf (rtO S k) ∧ (∀ t, t < D → u.2.2.1 63 (3 * k + t) = thOf (plO S k t)) ∧ u.2.2.1 64 k = b2 (tl k)
theorem at0_ok (hL : LMo u S) {k : Nat} (hk : k < S.length) : okF (at0 S k) := hL.2.1.2.1 _ (mem_at0.mpr ⟨k, hk, rfl⟩)
theorem m_relL {k : Nat} {tl2 x8 : Int32} (hL : LMo u S) (hk : k < S.length) (h60 : u.2.2.1 60 k = mI (opO S k)) : ∃ u', ((F_X8_isJoining (mI (opO S k)) (hp P u ex n sl)).bind fun q7 => (s_fr q7.2 (P.2.1 + 46) 8 24).bind fun x8 =>
  if q7.1 = 0 then ((s_fr q7.2 (P.2.1 + 46) 8 23).bind fun x9 =>
  (s_ai q7.2 x9 (mI k)).bind fun x10 =>
  if x10 = 12 then ((s_fr q7.2 (P.2.1 + 46) 8 4).bind fun x11 =>
  (s_ai q7.2 x11 (mI (30 + k))).bind fun x12 =>
  (F_X8_partAt (P.2.1 + 46) (mI (30 + k)) 1 x12 (-1) q7.2).bind fun q13 =>
  R_X8_relates_97 (P.2.1 + 46) tl2 (mI k) (mI (30 + k)) q7.1 q13.1 (mI k) x8 q13.2)
  else (R_X8_relates_97 (P.2.1 + 46) tl2 (mI k) (mI (30 + k)) q7.1 (-1) (mI k) x8 q7.2))
  else ((F_X8_endOf (P.2.1 + 46) (mI (30 + k)) 1 q7.2).bind fun q14 =>
  (F_X8_partAt (P.2.1 + 46) (mI (30 + k)) 1 q14.1 (-1) q14.2).bind fun q15 =>
  R_X8_relates_97 (P.2.1 + 46) tl2 (mI k) (mI (30 + k)) q7.1 q15.1 (mI k) x8 q15.2)) = R_X8_relates_97 (P.2.1 + 46) tl2 (mI k) (mI (30 + k)) (b2 (ar (opO S k) = 2)) (thOf (lfO S k)) (mI k) (P.2.1 + 61) (hp P u' ex n sl) ∧ S7 u u' := by
  have h40 := hL.2.1.1
  have hok := at0_ok hL hk
  have hl := hL.2.2 k hk
  obtain ⟨s, r, e, hc⟩ := wff_cases hok.1
  have hs18 : s < 18 := hok.2.2 s (by rw [e]; exact List.mem_cons_self)
  rw [e] at hl
  have e12 : (mI s = 12) = (s = 12) := m_eqN (b := 12) (by omega) (by decide)
  rw [op_c e, m_isJoining hs18, ob]
  rw [op_c e] at h60
  try dsimp only
  rw [q_46_24, ob, q_46_23, ob, ra_60 (by omega), h60, ob]
  rcases hc with ⟨h0, rfl⟩ | ⟨h1, hr⟩ | ⟨h2, b, c, rfl, hb, hcc⟩
  · rw [if_pos (b2_0.mpr (by omega)), if_neg (by rw [e12]; intro z; rw [z] at h0; cases h0), lf_o e (by omega) (fun z => by rw [z] at h0; cases h0)]
    exact ⟨u, rfl, S7.rf⟩
  · rw [if_pos (b2_0.mpr (by omega))]
    by_cases q : s = 12
    · subst q
      obtain ⟨u1, a1, a2, a3, a4⟩ := m_partAt (P := P) (ex := ex) (n := n) (sl := sl) (f := 30 + k) (i := 1) (j := (12 :: r).length) (t := none) (x1 := mI (30 + k)) (x2 := 1) (x3 := mI (12 :: r).length) (x4 := -1) rfl rfl rfl rfl (by omega) hl (by simp) (Nat.le_refl _) (fun v hv => by cases hv) hL
      rw [seg_c, ins_none] at a1
      rw [if_pos (show mI 12 = 12 from rfl), q_46_4, ob, m_len rfl (by omega) hl, ob, a1, ob, lf_n e]
      exact ⟨u1, rfl, a3.s7⟩
    · rw [if_neg (by rw [e12]; exact q), lf_o e (by omega) q]
      exact ⟨u, rfl, S7.rf⟩
  · have hlen := hl.2.1
    simp only [List.length_cons, List.length_append] at hlen
    obtain ⟨u1, a1, a2, a3, a4⟩ := m_partAt (P := P) (ex := ex) (n := n) (sl := sl) (f := 30 + k) (i := 1) (j := 1 + b.length) (t := none) (x1 := mI (30 + k)) (x2 := 1) (x3 := mI (1 + b.length)) (x4 := -1) rfl rfl rfl rfl (by omega) hl (by omega) (by simp; omega) (fun v hv => by cases hv) hL
    rw [seg_a, ins_none] at a1
    rw [if_neg (fun z => b2_0.mp z h2), m_endOf (y := 1) (i := 1) (b := c) rfl rfl (by omega) hl rfl hb, ob]
    try dsimp only
    rw [a1, ob, lf_2 e h2 hb]
    exact ⟨u1, rfl, a3.s7⟩
theorem m_relR {k : Nat} {tl2 : Int32} {v : Int32} (hL : LMo u S) (hk : k < S.length) : ∃ u', R_X8_relates_97 (P.2.1 + 46) tl2 (mI k) (mI (30 + k)) (b2 (ar (opO S k) = 2)) v (mI k) (P.2.1 + 61) (hp P u ex n sl) = R_X8_relates_134 (P.2.1 + 46) tl2 (mI k) (mI (30 + k)) 0 (hp P (wA u' 62 k (thOf (rtO S k))) ex n sl) ∧ S7 (wA u 61 k v) u' := by
  have h40 := hL.2.1.1
  have hok := at0_ok hL hk
  obtain ⟨s, r, e, hc⟩ := wff_cases hok.1
  have hs18 : s < 18 := hok.2.2 s (by rw [e]; exact List.mem_cons_self)
  have hL1 : LMo (wA u 61 k v) S := hL.fq (FQ.wA (by decide))
  have hl := hL1.2.2 k hk
  rw [e] at hl
  rw [E_X8_relates_97, wa_61 (by omega), ob, q_46_25, ob, op_c e]
  by_cases h2 : ar s = 2
  · rcases hc with ⟨h0, rfl⟩ | ⟨h1, hr⟩ | ⟨-, b, c, rfl, hb, hcc⟩
    · omega
    · omega
    · have hlen := hl.2.1
      simp only [List.length_cons, List.length_append] at hlen
      obtain ⟨u1, a1, a2, a3, a4⟩ := m_partAt (P := P) (ex := ex) (n := n) (sl := sl) (f := 30 + k) (i := 1 + b.length) (j := (s :: (b ++ c)).length) (t := none) (x1 := mI (30 + k)) (x2 := mI (1 + b.length)) (x3 := mI (s :: (b ++ c)).length) (x4 := -1) rfl rfl rfl rfl (by omega) hl (by simp; omega) (Nat.le_refl _) (fun v hv => by cases hv) hL1
      rw [seg_b, ins_none] at a1
      rw [if_neg (fun z => b2_0.mp z h2), m_endOf (y := 1) (i := 1) (b := c) rfl rfl (by omega) hl rfl hb, ob]
      try dsimp only
      rw [q_46_4, ob, m_len rfl (by omega) hl, ob, a1, ob, E_X8_relates_130]
      try dsimp only
      rw [wa_62 (by omega), ob, rt_2 e h2 hb]
      exact ⟨u1, rfl, a3.s7⟩
  · rw [if_pos (b2_0.mpr h2), E_X8_relates_130, wa_62 (by omega), ob, rt_o e h2]
    exact ⟨_, rfl, S7.rf⟩
theorem m_relI {k : Nat} {tl2 : Int32} (hL : LMo u S) (hM : MW u D F L y φ) (hk : k < S.length) (h60 : u.2.2.1 60 k = mI (opO S k)) : ∃ u', R_X8_relates_134 (P.2.1 + 46) tl2 (mI k) (mI (30 + k)) 0 (hp P u ex n sl) = R_X8_relates_134 (P.2.1 + 46) tl2 (mI k) (mI (30 + k)) (mI D) (hp P u' ex n sl) ∧ FQ u u' ∧ Fr [49, 50, 63] [] u u' ∧ (∀ t, t < D → u'.2.2.1 63 (3 * k + t) = thOf (plO S k t)) ∧ ∀ i, i < 3 * k → u'.2.2.1 63 i = u.2.2.1 63 i := by
  have h40 := hL.2.1.1
  have hD3 := hM.2.1
  have key : ∀ m, m ≤ D → ∃ u', R_X8_relates_134 (P.2.1 + 46) tl2 (mI k) (mI (30 + k)) 0 (hp P u ex n sl) = R_X8_relates_134 (P.2.1 + 46) tl2 (mI k) (mI (30 + k)) (mI m) (hp P u' ex n sl) ∧ FQ u u' ∧ Fr [49, 50, 63] [] u u' ∧ (∀ t, t < m → u'.2.2.1 63 (3 * k + t) = thOf (plO S k t)) ∧ ∀ i, i < 3 * k → u'.2.2.1 63 i = u.2.2.1 63 i := by
    intro m
    induction m with
    | zero => intro _; exact ⟨u, rfl, FQ.rf, Fr.rf, fun t ht => absurd ht (Nat.not_lt_zero _), fun _ _ => rfl⟩
    | succ m ih =>
      intro hm
      obtain ⟨u1, b1, b2', b3, b4, b5⟩ := ih (by omega)
      have hL1 := hL.fq b2'
      have hM1 := hM.fv' b2'.fv
      have hok := at0_ok hL1 hk
      obtain ⟨s, r, e, hc⟩ := wff_cases hok.1
      have hs18 : s < 18 := hok.2.2 s (by rw [e]; exact List.mem_cons_self)
      have hl := hL1.2.2 k hk
      rw [e] at hl
      have e12 : (mI s = 12) = (s = 12) := m_eqN (b := 12) (by omega) (by decide)
      have h601 : u1.2.2.1 60 k = mI s := by rw [b3.a (k := 60) (by decide), h60, op_c e]
      have c1 : 3 * mI k + mI m = mI (3 * k + m) := by
        show mI 3 * mI k + mI m = _
        rw [mI_mul, mI_add]
      have go : ∀ u2, S7 u1 u2 → R_X8_relates_134 (P.2.1 + 46) tl2 (mI k) (mI (30 + k)) (mI m) (hp P u1 ex n sl) = R_X8_relates_194 (P.2.1 + 46) tl2 (mI k) (mI (30 + k)) (mI m) (thOf (plO S k m)) (mI (3 * k + m)) (P.2.1 + 63) (hp P u2 ex n sl) → ∃ u', R_X8_relates_134 (P.2.1 + 46) tl2 (mI k) (mI (30 + k)) 0 (hp P u ex n sl) = R_X8_relates_134 (P.2.1 + 46) tl2 (mI k) (mI (30 + k)) (mI (m + 1)) (hp P u' ex n sl) ∧ FQ u u' ∧ Fr [49, 50, 63] [] u u' ∧ (∀ t, t < m + 1 → u'.2.2.1 63 (3 * k + t) = thOf (plO S k t)) ∧ ∀ i, i < 3 * k → u'.2.2.1 63 i = u.2.2.1 63 i := by
        intro u2 s7 h
        refine ⟨wA u2 63 (3 * k + m) (thOf (plO S k m)), ?_, b2'.tr (s7.fq.tr (FQ.wA (by decide))), (b3.tr (s7.1.mo (by decide) (by decide))).pA (by decide), fun t ht => ?_, fun i hi => ?_⟩
        · rw [b1, h, E_X8_relates_194, wa_63 (by omega), ob, mI_s]
        · by_cases q : t = m
          · rw [q]; exact wA_s
          · rw [wA_n (by omega), s7.1.a (k := 63) (by decide)]; exact b4 t (by omega)
        · rw [wA_n (by omega), s7.1.a (k := 63) (by decide)]; exact b5 i hi
      have e134 : R_X8_relates_134 (P.2.1 + 46) tl2 (mI k) (mI (30 + k)) (mI m) (hp P u1 ex n sl) = ((F_X8_isLone (mI s) (hp P u1 ex n sl)).bind fun q8 => if q8.1 = 0 then (R_X8_relates_193 (P.2.1 + 46) tl2 (mI k) (mI (30 + k)) (mI m) (mI (3 * k + m)) (P.2.1 + 63) q8.2) else ((s_fr q8.2 (P.2.1 + 46) 8 23).bind fun x9 => (s_ai q8.2 x9 (mI k)).bind fun x10 => if x10 = 12 then (R_X8_relates_193 (P.2.1 + 46) tl2 (mI k) (mI (30 + k)) (mI m) (mI (3 * k + m)) (P.2.1 + 63) q8.2) else ((s_fr q8.2 (P.2.1 + 46) 8 4).bind fun x11 => (s_ai q8.2 x11 (mI (30 + k))).bind fun x12 => (F_X8_partAt (P.2.1 + 46) (mI (30 + k)) 1 x12 (mI m) q8.2).bind fun q13 => R_X8_relates_194 (P.2.1 + 46) tl2 (mI k) (mI (30 + k)) (mI m) q13.1 (mI (3 * k + m)) (P.2.1 + 63) q13.2))) := by
        rw [E_X8_relates_134, m_d, ob, hM1.2.2.2.2.1]
        try dsimp only
        rw [if_neg (show ¬ mI D ≤ mI m by rw [nle (by omega) (by omega)]; omega), q_46_26, ob, q_46_23, ob, ra_60 (by omega), ob, h601, c1]
      rw [m_isLone hs18, ob] at e134
      try dsimp only at e134
      by_cases h1 : ar s = 1
      · rw [if_neg (fun z => b2_0.mp z h1), q_46_23, ob, ra_60 (by omega), ob, h601] at e134
        rcases ar1_cases h1 with q | q
        · rw [if_pos (by rw [e12]; exact q), E_X8_relates_193] at e134
          refine go u1 S7.rf ?_
          rw [e134, pl_o e (by omega)]
          rfl
        · obtain ⟨u2, a1, a2, a3, a4⟩ := m_partAt (P := P) (ex := ex) (n := n) (sl := sl) (f := 30 + k) (i := 1) (j := (s :: r).length) (t := some m) (x1 := mI (30 + k)) (x2 := 1) (x3 := mI (s :: r).length) (x4 := mI m) rfl rfl rfl rfl (by omega) hl (by simp) (Nat.le_refl _) (fun v hv => by cases hv; omega) hL1
          rw [seg_c] at a1
          rw [if_neg (by rw [e12]; omega), q_46_4, ob, m_len rfl (by omega) hl, ob, a1, ob] at e134
          refine go u2 a3.s7 ?_
          rw [e134, pl_q e q]
      · rw [if_pos (b2_0.mpr h1), E_X8_relates_193] at e134
        refine go u1 S7.rf ?_
        rw [e134, pl_o e (fun z => h1 (by rcases z with rfl | rfl <;> rfl))]
        rfl
  exact key D (Nat.le_refl _)
/-- the place as a whole -/
theorem m_relP {k : Nat} {told : Int32} (hL : LMo u S) (hM : MW u D F L y φ) (hk : k < S.length) (hI : ∀ j, j < k → RLa u D S (fun j => tol F φ told (at0 S j)) j) : ∃ u', R_X8_relates_7 (P.2.1 + 46) told (mI k) (hp P u ex n sl) = R_X8_relates_7 (P.2.1 + 46) told (mI (k + 1)) (hp P u' ex n sl) ∧ FQ u u' ∧ u'.1 = u.1 ∧ ∀ j, j < k + 1 → RLa u' D S (fun j => tol F φ told (at0 S j)) j := by
  have h40 := hL.2.1.1
  have hok := at0_ok hL hk
  obtain ⟨s, r, e, -⟩ := wff_cases hok.1
  have hl := hL.2.2 k hk
  rw [e] at hl
  have c1 : 30 + mI k = mI (30 + k) := mI_add 30 k
  have hD3 := hM.2.1
  have f1 : FQ u (wA u 60 k (mI s)) := FQ.wA (by decide)
  have hL1 := hL.fq f1
  obtain ⟨u2, a1, a2⟩ := m_relL (P := P) (ex := ex) (n := n) (sl := sl) (tl2 := told) (x8 := 0) hL1 hk (by rw [op_c e]; exact wA_s)
  have f2 := f1.tr a2.fq
  have hL2 := hL.fq f2
  obtain ⟨u3, b1, b2'⟩ := m_relR (P := P) (ex := ex) (n := n) (sl := sl) (tl2 := told) (v := thOf (lfO S k)) hL2 hk
  have f3 : FQ u (wA u3 62 k (thOf (rtO S k))) := f2.tr ((FQ.wA (by decide)).tr (b2'.fq.tr (FQ.wA (by decide))))
  generalize hu4 : wA u3 62 k (thOf (rtO S k)) = u4 at *
  have hL4 := hL.fq f3
  have hM4 := hM.fv' f3.fv
  have a60 : u4.2.2.1 60 = fun j => if j = k then mI s else u.2.2.1 60 j := by
    rw [← hu4]
    show up2 u3.2.2.1 62 k (thOf (rtO S k)) 60 = _
    rw [up2_k (by decide), b2'.1.a (k := 60) (by decide)]
    show up2 u2.2.2.1 61 k (thOf (lfO S k)) 60 = _
    rw [up2_k (by decide), a2.1.a (k := 60) (by decide)]
    exact up2_v
  have a61 : u4.2.2.1 61 = fun j => if j = k then thOf (lfO S k) else u.2.2.1 61 j := by
    rw [← hu4]
    show up2 u3.2.2.1 62 k (thOf (rtO S k)) 61 = _
    rw [up2_k (by decide), b2'.1.a (k := 61) (by decide)]
    show up2 u2.2.2.1 61 k (thOf (lfO S k)) 61 = _
    rw [up2_v, a2.1.a (k := 61) (by decide)]
    rfl
  have a62 : u4.2.2.1 62 = fun j => if j = k then thOf (rtO S k) else u.2.2.1 62 j := by
    rw [← hu4]
    show up2 u3.2.2.1 62 k (thOf (rtO S k)) 62 = _
    rw [up2_v, b2'.1.a (k := 62) (by decide)]
    show (fun j => if j = k then thOf (rtO S k) else up2 u2.2.2.1 61 k (thOf (lfO S k)) 62 j) = _
    rw [up2_k (by decide), a2.1.a (k := 62) (by decide)]
    rfl
  have a63 : u4.2.2.1 63 = u.2.2.1 63 := by
    rw [← hu4]
    show up2 u3.2.2.1 62 k (thOf (rtO S k)) 63 = _
    rw [up2_k (by decide), b2'.1.a (k := 63) (by decide)]
    show up2 u2.2.2.1 61 k (thOf (lfO S k)) 63 = _
    rw [up2_k (by decide), a2.1.a (k := 63) (by decide)]
    rfl
  have a64 : u4.2.2.1 64 = u.2.2.1 64 := by
    rw [← hu4]
    show up2 u3.2.2.1 62 k (thOf (rtO S k)) 64 = _
    rw [up2_k (by decide), b2'.1.a (k := 64) (by decide)]
    show up2 u2.2.2.1 61 k (thOf (lfO S k)) 64 = _
    rw [up2_k (by decide), a2.1.a (k := 64) (by decide)]
    rfl
  have i4 : u4.1 = u.1 := by
    rw [← hu4]
    show u3.1 = _
    have q1 : u3.1 = u2.1 := by funext k j; exact b2'.1.i (by simp)
    have q2 : u2.1 = u.1 := by funext k j; exact a2.1.i (by simp)
    rw [q1, q2]
  obtain ⟨u5, d1, d2, d3, d4, d5⟩ := m_relI (P := P) (ex := ex) (n := n) (sl := sl) (tl2 := told) hL4 hM4 hk (by rw [a60, op_c e]; exact if_pos rfl)
  have f5 := f3.tr d2
  have hL5 := hL.fq f5
  have hM5 := hM.fv' f5.fv
  refine ⟨wA u5 64 k (b2 (tol F φ told (at0 S k))), ?_, f5.tr (FQ.wA (by decide)), ?_, fun j hj => ?_⟩
  · rw [E_X8_relates_7, q_46_33, ob, hL.1, if_neg (show ¬ mI S.length ≤ mI k by rw [nle (by omega) (by omega)]; omega), q_46_23, ob, c1, m_at0 rfl (by omega) hl, ob]
    try dsimp only
    rw [wa_60 (by omega), ob, q_46_23, ob, ra_60 (by omega), ob, wA_s]
    rw [op_c e] at a1 b1
    refine (a1.trans (b1.trans (d1.trans ?_)))
    rw [E_X8_relates_134, m_d, ob, hM5.2.2.2.2.1]
    try dsimp only
    rw [if_pos (by rw [nle (by omega) (by omega)]; exact Nat.le_refl _), q_46_27, ob, m_isAmong rfl (by omega) hM5.2.2.2.2.2.1 hM5.2.2.1 (fun k hk => (hM5.2.2.2.2.2.2.2.2.2 k hk).1) (hL5.2.2 k hk), ob]
    try dsimp only
    rw [wa_64 (by omega), ob, mI_s, nar_b2]
    rfl
  · show u5.1 = _
    rw [← i4]
    funext k j
    exact d3.i (by simp)
  · by_cases q : j = k
    · subst q
      refine ⟨?_, ?_, ?_, fun t ht => ?_, wA_s⟩
      · rw [wA_n (by omega), d3.a (k := 60) (by decide), a60, op_c e]; exact if_pos rfl
      · rw [wA_n (by omega), d3.a (k := 61) (by decide), a61]; exact if_pos rfl
      · rw [wA_n (by omega), d3.a (k := 62) (by decide), a62]; exact if_pos rfl
      · rw [wA_n (by omega)]; exact d4 t ht
    · obtain ⟨z1, z2, z3, z4, z5⟩ := hI j (by omega)
      refine ⟨?_, ?_, ?_, fun t ht => ?_, ?_⟩
      · rw [wA_n (by omega), d3.a (k := 60) (by decide), a60]; exact (if_neg q).trans z1
      · rw [wA_n (by omega), d3.a (k := 61) (by decide), a61]; exact (if_neg q).trans z2
      · rw [wA_n (by omega), d3.a (k := 62) (by decide), a62]; exact (if_neg q).trans z3
      · rw [wA_n (by omega), d5 _ (by omega), a63]; exact z4 t ht
      · rw [wA_n (by omega), d3.a (k := 64) (by decide), a64]; exact z5
end MRA
