/-! a round of the class over its steps -/
section CRO
variable {P : sP} {S0 e : Nat} {w w' u u' v : sW} {ex : Nat → Option sC} {n sl D F L R U k s f cu : Nat} {y : sLn} {φ : Nat → List Nat} {nf ν : Nat → Nat} {nd : Nat → List Nat} {S : List (List Nat)} {A : List Nat} {Z : List zT} {told : Int32} {H : Nat → Prop} {q : Nat → Nat} {c c0 : nN → Nat} {kn : Nat → Prop} {z : zT}
theorem gz_f (hD : 0 < D) (hk : k < S.length) (h : GZ D S A k z) : 2 ≤ z.1 ∧ z.1 ≤ 13 ∧ z.2.1 < S.length ∧ (z.1 ≠ 10 → (∀ i, z.2.2.1 = some i → i < S.length) ∧ (∀ i, z.2.2.2.1 = some i → i < S.length) ∧ ∀ i, z.2.2.2.2 = some i → i < S.length) ∧ (z.1 = 10 → ∃ j m, z.2.2.1 = some j ∧ z.2.2.2.1 = some m ∧ j < S.length ∧ m < A.length ∧ A.getD m 0 < S.length) := by
  rcases h with ⟨t, t1, t2, rfl⟩ | ⟨ho, h⟩ | ⟨ho, h⟩ | ⟨ho, i, j, e1, e2, h⟩ | ⟨ho, h⟩ | ⟨ho, i, t, t1, t2, rfl⟩
  · exact ⟨Nat.le_of_ble_eq_true rfl, Nat.le_of_ble_eq_true rfl, t1, fun _ => ⟨(fun i h => by cases h; exact hk), (fun i h => by cases h), (fun i h => by cases h)⟩, fun z => by cases z⟩
  · rcases h with ⟨i, j, e1, e2, rfl⟩ | ⟨t, e1, rfl⟩ | ⟨t, e1, rfl⟩
    · exact ⟨Nat.le_of_ble_eq_true rfl, Nat.le_of_ble_eq_true rfl, hk, fun _ => ⟨(fun i h => by cases h; exact lf_lt e1), (fun i h => by cases h; exact rt_lt e2), (fun i h => by cases h)⟩, fun z => by cases z⟩
    · exact ⟨Nat.le_of_ble_eq_true rfl, Nat.le_of_ble_eq_true rfl, lf_lt e1, fun _ => ⟨(fun i h => by cases h; exact hk), (fun i h => by cases h), (fun i h => by cases h)⟩, fun z => by cases z⟩
    · exact ⟨Nat.le_of_ble_eq_true rfl, Nat.le_of_ble_eq_true rfl, rt_lt e1, fun _ => ⟨(fun i h => by cases h; exact hk), (fun i h => by cases h), (fun i h => by cases h)⟩, fun z => by cases z⟩
  · rcases h with ⟨i, e1, rfl⟩ | ⟨i, e1, rfl⟩ | ⟨t, j, m, t1, e1, e2, rfl⟩
    · exact ⟨Nat.le_of_ble_eq_true rfl, Nat.le_of_ble_eq_true rfl, hk, fun _ => ⟨(fun i h => by cases h; exact lf_lt e1), (fun i h => by cases h), (fun i h => by cases h)⟩, fun z => by cases z⟩
    · exact ⟨Nat.le_of_ble_eq_true rfl, Nat.le_of_ble_eq_true rfl, hk, fun _ => ⟨(fun i h => by cases h; exact rt_lt e1), (fun i h => by cases h), (fun i h => by cases h)⟩, fun z => by cases z⟩
    · exact ⟨Nat.le_of_ble_eq_true rfl, Nat.le_of_ble_eq_true rfl, t1, fun _ => ⟨(fun i h => by cases h; exact hk), (fun i h => by cases h; exact cF_lt e1), (fun i h => by cases h; exact cS_lt e2)⟩, fun z => by cases z⟩
  · rcases h with rfl | ⟨m, e3, rfl⟩
    · exact ⟨Nat.le_of_ble_eq_true rfl, Nat.le_of_ble_eq_true rfl, rt_lt e2, fun _ => ⟨(fun i' h => by cases h; exact lf_lt e1), (fun i h => by cases h; exact hk), (fun i h => by cases h)⟩, fun z => by cases z⟩
    · obtain ⟨m1, m2⟩ := slO_some e3
      exact ⟨Nat.le_of_ble_eq_true rfl, Nat.le_of_ble_eq_true rfl, hk, fun z => absurd rfl z, fun _ => ⟨j, m, rfl, rfl, rt_lt e2, m1, by rw [m2]; exact lf_lt e1⟩⟩
  · rcases h with ⟨t, j, t1, e1, rfl⟩ | ⟨f, e1, rfl⟩
    · exact ⟨Nat.le_of_ble_eq_true rfl, Nat.le_of_ble_eq_true rfl, pl_lt e1, fun _ => ⟨(fun i h => by cases h; exact hk), (fun i h => by cases h), (fun i h => by cases h)⟩, fun z => by cases z⟩
    · refine ⟨Nat.le_of_ble_eq_true rfl, Nat.le_of_ble_eq_true rfl, hk, fun _ => ⟨(fun i h => ?_), (fun i h => ?_), (fun i h => ?_)⟩, fun z => by cases z⟩
      · cases h; exact pl_lt (e1 0 hD)
      · dsimp only at h
        by_cases g : 1 < D
        · rw [if_pos g] at h; cases h; exact pl_lt (e1 1 g)
        · rw [if_neg g] at h; cases h
      · dsimp only at h
        by_cases g : 2 < D
        · rw [if_pos g] at h; cases h; exact pl_lt (e1 2 g)
        · rw [if_neg g] at h; cases h
  · exact ⟨Nat.le_of_ble_eq_true rfl, Nat.le_of_ble_eq_true rfl, hk, fun _ => ⟨(fun i h => by cases h; exact pl_lt t2), (fun i h => by cases h), (fun i h => by cases h)⟩, fun z => by cases z⟩
theorem cZ_le {o : Option Nat} (hc : ∀ x, c x ≤ c0 x) : cZ c s o ≤ cZ c0 s o := by
  cases o with
  | none => exact Nat.le_refl _
  | some i => exact hc _
theorem sv_mono {p : Nat} (hc : ∀ x, c x ≤ c0 x) : svZ S A H q p c s z ≤ svZ S A H q p c0 s z := by
  unfold svZ
  by_cases g : H z.1
  · rw [if_pos g, if_pos g]
    by_cases g1 : z.1 = 10
    · rw [if_pos g1, if_pos g1]
      by_cases g2 : H 1
      · rw [if_pos g2, if_pos g2]
        exact lmt_mono (Nat.add_le_add_left (hc _) _)
      · rw [if_neg g2, if_neg g2]; exact Nat.le_refl _
    · rw [if_neg g1, if_neg g1]
      exact lmt_mono (Nat.add_le_add (Nat.add_le_add (Nat.add_le_add_left (cZ_le hc) _) (cZ_le hc)) (cZ_le hc))
  · rw [if_neg g, if_neg g]; exact Nat.le_refl _
theorem sv_far {p : Nat} : svZ S A H q p c s z ≤ 268435456 := by
  unfold svZ
  by_cases g : H z.1
  · rw [if_pos g]
    by_cases g1 : z.1 = 10
    · rw [if_pos g1]
      by_cases g2 : H 1
      · rw [if_pos g2]; exact lmt_far
      · rw [if_neg g2]; exact Nat.le_refl _
    · rw [if_neg g1]; exact lmt_far
  · rw [if_neg g]; exact Nat.le_refl _
theorem cZ_far (hc : ∀ x, c x ≤ 268435456) {o : Option Nat} : cZ c s o ≤ 268435456 := by
  cases o with
  | none => exact Nat.zero_le _
  | some i => exact hc _
theorem c_costOfStep (h : CE u D F L U y φ nd nf S ν told H q Z) (hA : CA u S.length kn c) (hc : ∀ x, c x ≤ 268435456) (hs : s < 2 ^ (asm S S.length).length) (hkn : kn s) (hkn2 : H 10 → H 1 → ∀ s', s ≤ s' → s' < 2 ^ (asm S S.length).length → kn s') {i : Nat} (hi : i < Z.length) {x1 x2 : Int32} (hx1 : x1 = mI s) (hx2 : x2 = mI i) : F_X4_costOfStep (P.2.1 + 38) x1 x2 (hp P u ex n sl) = some (mI (svZ S (asm S S.length) H q (q 16) c s (Z.getD i (0, 0, none, none, none))), hp P u ex n sl) := by
  subst hx1 hx2
  have h40 := h.K
  have hs8 := s_8 hs
  have hZ := h.2.2.2.1
  have hZl := hZ.2.1
  obtain ⟨z1, z2, z3, z4, z5⟩ := hZ.2.2 i hi
  have hz : Z.getD i (0, 0, none, none, none) ∈ Z := by
    rw [List.getD_eq_getElem?_getD, List.getElem?_eq_getElem hi]
    exact List.getElem_mem hi
  generalize Z.getD i (0, 0, none, none, none) = z at *
  obtain ⟨k0, hk0, hg⟩ := (h.2.2.2.2.1 z).mp hz
  obtain ⟨g1, g2, g3, g4, g5⟩ := gz_f (by have := h.1.1; omega) hk0 hg
  have c0' : mI i * 5 = mI (i * 5) := mI_mul _ 5
  have c1 : mI (i * 5) + 1 = mI (i * 5 + 1) := mI_add _ 1
  have c2 : mI (i * 5) + 2 = mI (i * 5 + 2) := mI_add _ 2
  have c3 : mI (i * 5) + 3 = mI (i * 5 + 3) := mI_add _ 3
  have lcr := lcC h (r := z.1) (by omega) g3
  rw [E_X4_costOfStep, z_38, ob, E_X4_costOfStep_0, c0', q_38_6, ob, ra_43 (by omega), ob, z1, ob, c1, ra_43 (by omega), ob, z2, c_lineCost h (r := z.1) (k := z.2.1) rfl rfl (by omega) g3, ob]
  try dsimp only
  by_cases gH : H z.1
  · have eH : lH S H q z.1 z.2.1 = lcO S q (q 16) z.1 z.2.1 := if_pos gH
    rw [eH, if_neg (show ¬ mI (lcO S q (q 16) z.1 z.2.1) = 268435456 from neqN (m := 268435456) (by omega) (by decide) (by omega))]
    by_cases g10 : z.1 = 10
    · obtain ⟨j, m, p1, p2, p3, p4, p5⟩ := g5 g10
      have hA3 := (asm_ok (S := S) S.length).1
      have hm3 : m < 3 := by omega
      have e1 := h.2.2.2.2.2.1 1 (by decide)
      rw [if_pos (by rw [g10]; rfl), q_38_6, ob, c2, ra_43 (by omega), ob, ob, c3, ra_43 (by omega), ob, z3, z4, p1, p2, E_X4_costOfGiven, z_38, ob, E_X4_costOfGiven_0, thOf_some, thOf_some, if_neg (mI_0 (by omega)), q_38_9, ob, h.as.1, if_neg (show ¬ mI (asm S S.length).length ≤ mI m by rw [nle (by omega) (by omega)]; omega), q_38_4, ob, show s_ai (hp P u ex n sl) (P.2.1 + 41) 1 = some (u.2.2.1 41 1) from ra_41 (i := 1) (by decide), ob, e1]
      unfold svZ
      rw [if_pos gH, if_pos g10]
      by_cases gH1 : H 1
      · have lc1 := lcC h (r := 1) (by decide) p5
        have eH1 : lH S H q 1 ((asm S S.length).getD m 0) = lcO S q (q 16) 1 ((asm S S.length).getD m 0) := if_pos gH1
        have hq1 := h.2.2.2.2.2.2.1 1 (by decide)
        have hs2 : s ||| 2 ^ m < 2 ^ (asm S S.length).length := Nat.or_lt_two_pow hs (Nat.pow_lt_pow_right (by decide) p4)
        have hcj := hc (j, s ||| 2 ^ m)
        rw [if_pos gH1, if_pos gH1, if_neg (show ¬ mI (q 1) = 268435456 from neqN (m := 268435456) (by omega) (by decide) (by omega)), q_38_5, ob, ra_42 (by omega), ob, h.as.2.2.2 m p4, c_lineCost h (r := 1) (x1 := 1) (k := (asm S S.length).getD m 0) rfl rfl (by decide) p5, ob, eH1]
        try dsimp only
        rw [or_s s hs8 m hm3, c_costAt hA h40 rfl rfl (s_8 hs2) p3 (hkn2 (by rw [← g10]; exact gH) gH1 _ Nat.left_le_or hs2), ob]
        try dsimp only
        rw [mI_add, mI_add, c_limited (by omega), ob, ob, p1, p2, g10]
        rfl
      · rw [if_neg gH1, if_neg gH1, if_pos (show mI 268435456 = 268435456 from rfl), E_X4_costOfGiven_25, ob]
        rfl
    · obtain ⟨o1, o2, o3⟩ := g4 g10
      have one : ∀ (o : Option Nat) a j, (∀ i, o = some i → i < S.length) → u.2.2.1 43 (i * 5 + j) = thOf o → 2 ≤ j → j < 5 → R_X4_costOfStep_76 (P.2.1 + 38) (mI s) (mI (i * 5)) (mI a) (mI j) (hp P u ex n sl) = R_X4_costOfStep_76 (P.2.1 + 38) (mI s) (mI (i * 5)) (mI (a + cZ c s o)) (mI (j + 1)) (hp P u ex n sl) := by
        intro o a j ho hz' hj2 hj5
        rw [E_X4_costOfStep_76, if_neg (show ¬ (5 : Int32) ≤ mI j by rw [nleR (by omega) (by decide)]; exact Nat.not_le.mpr hj5), q_38_6, ob, mI_add, ra_43 (by omega), ob, hz']
        cases o with
        | none => rw [if_pos (show thOf none = -1 from rfl), E_X4_costOfStep_114, mI_s]; rfl
        | some i' =>
          have hi' := ho i' rfl
          rw [if_neg (show ¬ thOf (some i') = -1 from mI_m1 (by omega)), ob, ra_43 (by omega), ob, hz', thOf_some, c_costAt hA h40 rfl rfl hs8 hi' hkn, ob]
          try dsimp only
          rw [mI_add, E_X4_costOfStep_114, mI_s]
          rfl
      have b1 := cZ_far (s := s) hc (o := z.2.2.1)
      have b2' := cZ_far (s := s) hc (o := z.2.2.2.1)
      have b3 := cZ_far (s := s) hc (o := z.2.2.2.2)
      rw [if_neg (show ¬ mI z.1 = 10 from neqN (m := 10) (by omega) (by decide) g10), show (2 : Int32) = mI 2 from rfl, one z.2.2.1 _ 2 o1 z3 (by decide) (by decide), one z.2.2.2.1 _ 3 o2 z4 (by decide) (by decide), one z.2.2.2.2 _ 4 o3 z5 (by decide) (by decide), E_X4_costOfStep_76, if_pos (show (5 : Int32) ≤ mI (4 + 1) by decide), c_limited (by omega), ob, sv_o g10 gH]
  · have eN : lH S H q z.1 z.2.1 = 268435456 := if_neg gH
    rw [eN, if_pos (show mI 268435456 = 268435456 from rfl), sv_n gH]
    rfl
/-- the flag of a round: a new cost sets it -/
theorem or_fl {α : Type} {fl fl' : Int32} (f : Int32 → α) (h : fl = 0 ∨ fl = 1) (h' : fl' = 0 ∨ fl' = 1) : (if fl' = 0 then f fl else f 1) = f (fl ||| fl') := by
  rcases h' with rfl | rfl
  · rw [if_pos rfl]
    exact congrArg f (by rcases h with rfl | rfl <;> decide)
  · rw [if_neg (by decide)]
    exact congrArg f (by rcases h with rfl | rfl <;> decide)
/-- how far a round is -/
def RI (I : Nat → nN → List nN → Nat → Prop) (s : Nat) (c0 c : nN → Nat) (fl : Int32) : Prop := snd I c ∧ (∀ x, c x ≤ c0 x) ∧ (∀ x, x.2 ≠ s → c x = c0 x) ∧ (fl = 0 ∨ fl = 1) ∧ (fl = 0 → c = c0)
theorem RI.st {I : Nat → nN → List nN → Nat → Prop} {c' : nN → Nat} {fl fl' : Int32} {a : Nat} (h : RI I s c0 c fl) (hmu : mu I (k, s) ≤ a) (ha : a ≤ 268435456) (h1 : c' (k, s) = a ∨ c' (k, s) = c (k, s)) (h2 : ∀ x, c' x ≤ c x) (h3 : ∀ x, x ≠ (k, s) → c' x = c x) (h4 : (fl' = 0 ∧ c' = c) ∨ fl' = 1) : RI I s c0 c' (fl ||| fl') := by
  obtain ⟨r1, r2, r3, r4, r5⟩ := h
  refine ⟨fun x => ?_, fun x => Nat.le_trans (h2 x) (r2 x), fun x hx => ?_, ?_, fun hz => ?_⟩
  · by_cases g : x = (k, s)
    · rw [g]
      rcases h1 with e | e
      · rw [e]; exact ⟨hmu, ha⟩
      · rw [e]; exact r1 _
    · rw [h3 x g]; exact r1 x
  · rw [h3 x (fun z => hx (by rw [z]))]; exact r3 x hx
  · rcases r4 with e | e <;> rcases h4 with ⟨e', -⟩ | e' <;> rw [e, e'] <;> decide
  · rcases r4 with e | e <;> rcases h4 with ⟨e', e2⟩ | e'
    · rw [e2]; exact r5 e
    · rw [e, e'] at hz; exact absurd hz (by decide)
    · rw [e, e'] at hz; exact absurd hz (by decide)
    · rw [e, e'] at hz; exact absurd hz (by decide)
theorem c_steps (h : CE u D F L U y φ nd nf S ν told H q Z) (hA : CA u S.length kn c0) (hc0 : snd (IIc D F φ S told H q) c0) (hs : s < 2 ^ (asm S S.length).length) (hkn : kn s) (hkn2 : H 10 → H 1 → ∀ s', s ≤ s' → s' < 2 ^ (asm S S.length).length → kn s') (t : Int32) : ∃ u' c fl, R_X4_settle_52 (P.2.1 + 38) (mI s) 0 t 0 (hp P u ex n sl) = R_X4_settle_52 (P.2.1 + 38) (mI s) fl t (mI Z.length) (hp P u' ex n sl) ∧ Fr [44] [] u u' ∧ CA u' S.length kn c ∧ RI (IIc D F φ S told H q) s c0 c fl ∧ ∀ i, i < Z.length → c ((Z.getD i (0, 0, none, none, none)).2.1, s) ≤ svZ S (asm S S.length) H q (q 16) c0 s (Z.getD i (0, 0, none, none, none)) := by
  have h40 := h.K
  have hs8 := s_8 hs
  have hZl := h.2.2.2.1.2.1
  have key : ∀ m, m ≤ Z.length → ∃ u' c fl, R_X4_settle_52 (P.2.1 + 38) (mI s) 0 t 0 (hp P u ex n sl) = R_X4_settle_52 (P.2.1 + 38) (mI s) fl t (mI m) (hp P u' ex n sl) ∧ Fr [44] [] u u' ∧ CA u' S.length kn c ∧ RI (IIc D F φ S told H q) s c0 c fl ∧ ∀ i, i < m → c ((Z.getD i (0, 0, none, none, none)).2.1, s) ≤ svZ S (asm S S.length) H q (q 16) c0 s (Z.getD i (0, 0, none, none, none)) := by
    intro m
    induction m with
    | zero => intro _; exact ⟨u, c0, 0, rfl, Fr.rf, hA, ⟨hc0, fun _ => Nat.le_refl _, fun _ _ => rfl, Or.inl rfl, fun _ => rfl⟩, fun i hi => absurd hi (Nat.not_lt_zero _)⟩
    | succ m ih =>
      intro hm
      obtain ⟨u1, c, fl, a1, a2, a3, a4, a5⟩ := ih (by omega)
      have h1 := h.fr a2
      have hst := c_costOfStep (P := P) (ex := ex) (n := n) (sl := sl) h1 a3 (fun x => (a4.1 x).2) hs hkn hkn2 (i := m) (by omega) rfl rfl
      have hz : Z.getD m (0, 0, none, none, none) ∈ Z := by
        rw [List.getD_eq_getElem?_getD, List.getElem?_eq_getElem (by omega)]
        exact List.getElem_mem _
      obtain ⟨k0, hk0, hg⟩ := (h.2.2.2.2.1 _).mp hz
      obtain ⟨g1, g2, g3, -, -⟩ := gz_f (by have := h.1.1; omega) hk0 hg
      have e2 := (h1.2.2.2.1.2.2 m (by omega)).2.1
      have hmu : mu (IIc D F φ S told H q) ((Z.getD m (0, 0, none, none, none)).2.1, s) ≤ svZ S (asm S S.length) H q (q 16) c s (Z.getD m (0, 0, none, none, none)) := by
        by_cases gH : H (Z.getD m (0, 0, none, none, none)).1
        · by_cases g10 : (Z.getD m (0, 0, none, none, none)).1 = 10 ∧ ¬ H 1
          · unfold svZ
            rw [if_pos gH, if_pos g10.1, if_neg g10.2]
            exact mu_far
          · obtain ⟨ps, b, i1, i2⟩ := gz_ins (tl := fun j => tol F φ told (at0 S j)) (q := q) (p := q 16) (c := c) h.ln.2.1 ⟨h.1.1, h.1.2.1⟩ (asm_ok S.length).2.1 hs hk0 hg gH (fun z => Classical.byContradiction fun g => g10 ⟨z, g⟩)
            rw [i2]
            exact snd_step a4.1 i1
        · rw [sv_n gH]; exact mu_far
      obtain ⟨u2, c', fl', b1, b2', b3, b4, b5, b6, b7, b8⟩ := c_improve (P := P) (ex := ex) (n := n) (sl := sl) a3 h40 (a := svZ S (asm S S.length) H q (q 16) c s (Z.getD m (0, 0, none, none, none))) (x1 := mI s) (x2 := mI (Z.getD m (0, 0, none, none, none)).2.1) rfl rfl rfl hs8 g3 hkn sv_far (a4.1 _).2
      refine ⟨u2, c', fl ||| fl', ?_, a2.tr b2', b3, a4.st hmu sv_far b5 b6 b7 b8, fun i hi => ?_⟩
      · rw [a1, E_X4_settle_52, q_38_10, ob, h1.2.2.2.1.1, if_neg (show ¬ mI Z.length ≤ mI m by rw [nle (by omega) (by omega)]; omega), q_38_6, ob, show mI m * 5 + 1 = mI (m * 5 + 1) by
          show mI m * mI 5 + mI 1 = _
          rw [mI_mul, mI_add], ra_43 (by omega), ob, e2, hst, ob]
        try dsimp only
        rw [b1, ob, E_X4_settle_89, E_X4_settle_89, mI_s]
        exact or_fl (fun z => R_X4_settle_52 (P.2.1 + 38) (mI s) z t (mI (m + 1)) (hp P u2 ex n sl)) a4.2.2.2.1 (b8.imp And.left id)
      · by_cases e : i = m
        · subst e
          exact Nat.le_trans b4 (sv_mono a4.2.1)
        · exact Nat.le_trans (b6 _) (a5 i (by omega))
  exact key Z.length (Nat.le_refl _)
end CRO
