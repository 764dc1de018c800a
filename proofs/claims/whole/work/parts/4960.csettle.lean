/-! a round of the class as a whole, and rounds -/
section CSE
variable {P : sP} {S0 e : Nat} {w w' u u' v : sW} {ex : Nat → Option sC} {n sl D F L R U k s f cu : Nat} {y : sLn} {φ : Nat → List Nat} {nf ν : Nat → Nat} {nd : Nat → List Nat} {S : List (List Nat)} {A : List Nat} {Z : List zT} {told : Int32} {H : Nat → Prop} {q : Nat → Nat} {c c0 : nN → Nat} {kn : Nat → Prop} {z : zT}
noncomputable def abG (S : List (List Nat)) (c : nN → Nat) (s i : Nat) : Nat := if opO S i = 12 then (match lfO S i with | none => 268435456 | some j => c (i, s) + c (j, s)) else 268435456
theorem c_absurd (h : CE u D F L U y φ nd nf S ν told H q Z) (hA : CA u S.length kn c) (hc : ∀ x, c x ≤ 268435456) (hs : s < 8) (hkn : kn s) : F_X4_costOfAbsurd (P.2.1 + 38) (mI s) (hp P u ex n sl) = some (mI (mnO (abG S c s) S.length), hp P u ex n sl) := by
  have h40 := h.K
  have hN := h.2.1.1
  rw [E_X4_costOfAbsurd, z_38, ob, E_X4_costOfAbsurd_0]
  refine loopM (f := fun i v => R_X4_costOfAbsurd_5 (P.2.1 + 38) (mI s) v (mI i) (hp P u ex n sl)) (g := abG S c s) (N := S.length) (r := fun v => (mI v, hp P u ex n sl)) (fun i hi v hv => ?_) (fun v hv => ?_)
  · try dsimp only
    obtain ⟨l1, l2, l3, -⟩ := h.ln.2.2 i hi
    have skip : abG S c s i = 268435456 → R_X4_costOfAbsurd_74 (P.2.1 + 38) (mI s) (mI v) (mI i) (hp P u ex n sl) = R_X4_costOfAbsurd_5 (P.2.1 + 38) (mI s) (mI (if abG S c s i < v then abG S c s i else v)) (mI (i + 1)) (hp P u ex n sl) := fun g => by
      rw [E_X4_costOfAbsurd_74, mI_s, g, if_neg (Nat.not_lt.mpr hv)]
    rw [E_X4_costOfAbsurd_5, q_38_8, ob, h.ln.1, if_neg (show ¬ mI S.length ≤ mI i by rw [nle (by omega) (by omega)]; omega), q_38_0, ob, q_38_2, ob, ra_39 (by omega), ob, l1, c_kindOf hN rfl l2, ob]
    try dsimp only
    have key : ∀ j, j < 7 → j ≠ 1 → ¬ mI j = 1 := fun j h1 h2 => neqN (m := 1) (by omega) (by decide) h2
    rcases nf_k hN h.ln hi with ⟨e2, e3, -⟩ | ⟨a, e2, e3, ha, en, -⟩ | ⟨j, a, b, hj, e2, e3, e4, ha, hb, en⟩ | ⟨j, a, hj, e2, ha, en, -⟩
    · rw [e2, if_neg (key 0 (by decide) (by decide))]
      exact skip (if_neg (by omega))
    · rw [e2, if_pos (show mI 1 = 1 from rfl), q_38_0, ob, q_38_2, ob, ra_39 (by omega), ob, l1, c_firstOf hN rfl l2, ob, e3]
      try dsimp only
      rw [c_placeOf hN h.ln.lc ha, ob, ← lf_n en]
      try dsimp only
      have ho : opO S i = 12 := op_c en
      cases el : lfO S i with
      | none =>
        rw [if_pos (show thOf none = -1 from rfl)]
        exact skip (by unfold abG; rw [if_pos ho, el])
      | some j =>
        have hj := lf_lt el
        have eg : abG S c s i = c (i, s) + c (j, s) := by unfold abG; rw [if_pos ho, el]
        have b1 := hc (i, s)
        have b2' := hc (j, s)
        rw [if_neg (show ¬ thOf (some j) = -1 from mI_m1 (by omega)), c_costAt hA h40 rfl rfl hs hi hkn, ob]
        try dsimp only
        rw [thOf_some, c_costAt hA h40 rfl rfl hs hj hkn, ob]
        try dsimp only
        rw [mI_add, ite_mI (by omega) (by omega), E_X4_costOfAbsurd_74, mI_s, eg]
    · rw [e2, if_neg (key j (by omega) (by omega))]
      exact skip (if_neg (by rw [op_c en]; omega))
    · rw [e2, if_neg (key j (by omega) (by omega))]
      exact skip (if_neg (by rw [op_c en]; omega))
  · try dsimp only
    rw [E_X4_costOfAbsurd_5, q_38_8, ob, h.ln.1, if_pos (by rw [nle (by omega) (by omega)]; exact Nat.le_refl _)]
/-- a round -/
theorem c_round (h : CE u D F L U y φ nd nf S ν told H q Z) (hA : CA u S.length kn c0) (hc0 : snd (IIc D F φ S told H q) c0) (hs : s < 2 ^ (asm S S.length).length) (hkn : kn s) (hkn2 : H 10 → H 1 → ∀ s', s ≤ s' → s' < 2 ^ (asm S S.length).length → kn s') {t : Nat} : ∃ u' c fl, R_X4_settle_52 (P.2.1 + 38) (mI s) 0 (mI t) 0 (hp P u ex n sl) = R_X4_settle_37 (P.2.1 + 38) (mI s) fl (mI (t + 1)) (hp P u' ex n sl) ∧ Fr [44] [] u u' ∧ CA u' S.length kn c ∧ RI (IIc D F φ S told H q) s c0 c fl ∧ ∀ r k ps b, 2 ≤ r → IIc D F φ S told H q r (k, s) ps b → c (k, s) ≤ lmt (b + sumC c0 ps) := by
  have h40 := h.K
  have hs8 := s_8 hs
  have hZl := h.2.2.2.1.2.1
  obtain ⟨u1, c1, fl1, a1, a2, a3, a4, a5⟩ := c_steps (P := P) (ex := ex) (n := n) (sl := sl) h hA hc0 hs hkn hkn2 (mI t)
  have h1 := h.fr a2
  have hab := c_absurd (P := P) (ex := ex) (n := n) (sl := sl) h1 a3 (fun x => (a4.1 x).2) hs8 hkn
  have ab1 := (mnO_le (g := abG S c1 s) S.length)
  generalize hab' : mnO (abG S c1 s) S.length = ab at hab ab1
  have st : R_X4_settle_52 (P.2.1 + 38) (mI s) 0 (mI t) 0 (hp P u ex n sl) = R_X4_settle_105 (P.2.1 + 38) (mI s) fl1 (mI t) (mI ab) 0 (hp P u1 ex n sl) := by
    rw [a1, E_X4_settle_52, q_38_10, ob, h1.2.2.2.1.1, if_pos (by rw [nle (by omega) (by omega)]; exact Nat.le_refl _), hab, ob]
  have snd14 : ∀ k, k < S.length → mu (IIc D F φ S told H q) (k, s) ≤ lmt (lH S H q 14 k + ab) := by
    intro k hk
    by_cases gH : H 14
    · have e14 : lH S H q 14 k = lcO S q (q 16) 14 k := if_pos gH
      by_cases g : ab < 268435456
      · rw [← hab'] at g
        obtain ⟨i, i1, i2⟩ := mnO_at _ g
        rw [hab'] at i2 g
        unfold abG at i2
        by_cases ho : opO S i = 12
        · rw [if_pos ho] at i2
          cases el : lfO S i with
          | none => rw [el] at i2; dsimp only at i2; omega
          | some j =>
            rw [el] at i2
            dsimp only at i2
            have hI : IIc D F φ S told H q 14 (k, s) [(j, s), (i, s)] (lcO S q (q 16) 14 k) := ⟨hk, hs, gH, Or.inr (Or.inr (Or.inr (Or.inl ⟨rfl, ⟨i, j, i1, ho, el, rfl⟩, rfl⟩)))⟩
            have := snd_step a4.1 hI
            have e2 : sumC c1 [(j, s), (i, s)] = c1 (j, s) + c1 (i, s) := by simp [sumC]
            rw [e2] at this
            rw [e14, i2, Nat.add_comm (c1 (i, s))]
            exact this
        · rw [if_neg ho] at i2; omega
      · have : lmt (lH S H q 14 k + ab) = 268435456 := if_neg (by omega)
        rw [this]; exact mu_far
    · have e14 : lH S H q 14 k = 268435456 := if_neg gH
      have : lmt (lH S H q 14 k + ab) = 268435456 := if_neg (by omega)
      rw [this]; exact mu_far
  have key : ∀ m, m ≤ S.length → ∃ u' c fl, R_X4_settle_105 (P.2.1 + 38) (mI s) fl1 (mI t) (mI ab) 0 (hp P u1 ex n sl) = R_X4_settle_105 (P.2.1 + 38) (mI s) fl (mI t) (mI ab) (mI m) (hp P u' ex n sl) ∧ Fr [44] [] u u' ∧ CA u' S.length kn c ∧ RI (IIc D F φ S told H q) s c0 c fl ∧ (∀ x, c x ≤ c1 x) ∧ ∀ k, k < m → c (k, s) ≤ lmt (lH S H q 14 k + ab) := by
    intro m
    induction m with
    | zero => intro _; exact ⟨u1, c1, fl1, rfl, a2, a3, a4, fun _ => Nat.le_refl _, fun i hi => absurd hi (Nat.not_lt_zero _)⟩
    | succ m ih =>
      intro hm
      obtain ⟨u2, c, fl, b1, b2', b3, b4, b5, b6⟩ := ih (by omega)
      have h2 := h.fr b2'
      have l14 := lH_le h (r := 14) (k := m) (by decide) (by omega)
      obtain ⟨u3, c', fl', d1, d2, d3, d4, d5, d6, d7, d8⟩ := c_improve (P := P) (ex := ex) (n := n) (sl := sl) b3 h40 (a := lmt (lH S H q 14 m + ab)) (x1 := mI s) (x2 := mI m) rfl rfl rfl hs8 (by omega) hkn lmt_far (b4.1 _).2
      refine ⟨u3, c', fl ||| fl', ?_, b2'.tr d2, d3, b4.st (snd14 m (by omega)) lmt_far d5 d6 d7 d8, fun x => Nat.le_trans (d6 x) (b5 x), fun k hk => ?_⟩
      · rw [b1, E_X4_settle_105, q_38_8, ob, h2.ln.1, if_neg (show ¬ mI S.length ≤ mI m by rw [nle (by omega) (by omega)]; omega), c_lineCost h2 (r := 14) (x1 := 14) (k := m) rfl rfl (by decide) (by omega), ob]
        try dsimp only
        rw [mI_add, c_limited (by omega), ob]
        try dsimp only
        rw [d1, ob, E_X4_settle_140, E_X4_settle_140, mI_s]
        exact or_fl (fun z => R_X4_settle_105 (P.2.1 + 38) (mI s) z (mI t) (mI ab) (mI (m + 1)) (hp P u3 ex n sl)) b4.2.2.2.1 (d8.imp And.left id)
      · by_cases g : k = m
        · rw [g]; exact d4
        · exact Nat.le_trans (d6 _) (b6 k (by omega))
  obtain ⟨u2, c, fl, b1, b2', b3, b4, b5, b6⟩ := key S.length (Nat.le_refl _)
  refine ⟨u2, c, fl, ?_, b2', b3, b4, fun r k ps b hr hI => ?_⟩
  · rw [st, b1, E_X4_settle_105, q_38_8, ob, (h.fr b2').ln.1, if_pos (by rw [nle (by omega) (by omega)]; exact Nat.le_refl _), mI_s]
  · have hk := hI.1
    by_cases g14 : r = 14
    · subst g14
      have gH : H 14 := hI.2.2.1
      have e14 : lH S H q 14 k = lcO S q (q 16) 14 k := if_pos gH
      have hb := b6 k hk
      obtain ⟨-, -, -, ⟨g4, -⟩ | ⟨g4, -⟩ | ⟨g4, -⟩ | ⟨-, ⟨i, j, i1, ho, el, rfl⟩, rfl⟩ | ⟨l, g4, -⟩⟩ := hI
      · cases g4
      · cases g4
      · cases g4
      · refine Nat.le_trans hb (lmt_mono ?_)
        have e1 := ab1.2 i i1
        have e2 : abG S c1 s i = c1 (i, s) + c1 (j, s) := by unfold abG; rw [if_pos ho, el]
        have e3 := a4.2.1 (i, s)
        have e4 := a4.2.1 (j, s)
        have e5 : sumC c0 [(j, s), (i, s)] = c0 (j, s) + c0 (i, s) := by simp [sumC]
        show _ ≤ lcO S q (q 16) 14 k + sumC c0 [(j, s), (i, s)]
        rw [e5]
        omega
      · exact absurd g4.r.2.1 (by decide)
    · obtain ⟨k0, z, z1, z2, z3, z4, z5⟩ := ins_gz (c := c0) ⟨h.1.1, h.1.2.1⟩ (asm_ok S.length).2.1 hI hr g14
      have hz := (h.2.2.2.2.1 z).mpr ⟨k0, z1, z2⟩
      obtain ⟨i, i1, i2⟩ := List.mem_iff_getElem.mp hz
      have ei : Z.getD i (0, 0, none, none, none) = z := by
        rw [List.getD_eq_getElem?_getD, List.getElem?_eq_getElem i1]
        exact i2
      have := a5 i i1
      rw [ei, z4, z5] at this
      exact Nat.le_trans (b5 _) this
end CSE
