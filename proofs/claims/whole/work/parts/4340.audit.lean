/-! the class's audit -/
def aU (w : sW) (a b c d : Int64) : sW := wJ (wJ (wJ (wJ w 37 0 a) 37 1 b) 37 2 c) 37 3 d
section AUU
variable {w : sW} {a b c d e : Int64}
theorem aU_0 : (aU w a b c d).2.1 37 0 = a := by show up2 (up2 (up2 (up2 w.2.1 37 0 a) 37 1 b) 37 2 c) 37 3 d 37 0 = a; rw [up2_j (by decide), up2_j (by decide), up2_j (by decide), up2_s]
theorem aU_1 : (aU w a b c d).2.1 37 1 = b := by show up2 (up2 (up2 (up2 w.2.1 37 0 a) 37 1 b) 37 2 c) 37 3 d 37 1 = b; rw [up2_j (by decide), up2_j (by decide), up2_s]
theorem aU_2 : (aU w a b c d).2.1 37 2 = c := by show up2 (up2 (up2 (up2 w.2.1 37 0 a) 37 1 b) 37 2 c) 37 3 d 37 2 = c; rw [up2_j (by decide), up2_s]
theorem aU_3 : (aU w a b c d).2.1 37 3 = d := by show up2 (up2 (up2 (up2 w.2.1 37 0 a) 37 1 b) 37 2 c) 37 3 d 37 3 = d; rw [up2_s]
theorem up2_cj {α : Type} {f : Nat → Nat → α} {k j k' j' : Nat} {x x' : α} (h : j ≠ j') : up2 (up2 f k j x) k' j' x' = up2 (up2 f k' j' x') k j x := by
  funext a b
  unfold up2
  by_cases h1 : a = k ∧ b = j
  · rw [if_neg (fun z => h (h1.2.symm.trans z.2)), if_pos h1, if_pos h1]
  · rw [if_neg h1]
    by_cases h2 : a = k' ∧ b = j'
    · rw [if_pos h2, if_neg h1]
    · rw [if_neg h2, if_neg h1]
theorem aU_w0 : wJ (aU w a b c d) 37 0 e = aU w e b c d := by
  show (w.1, up2 (up2 (up2 (up2 (up2 w.2.1 37 0 a) 37 1 b) 37 2 c) 37 3 d) 37 0 e, w.2.2) = _
  rw [up2_cj (j := 3) (j' := 0) (by decide), up2_cj (j := 2) (j' := 0) (by decide), up2_cj (j := 1) (j' := 0) (by decide), up2_up]
  rfl
theorem aU_w1 : wJ (aU w a b c d) 37 1 e = aU w a e c d := by
  show (w.1, up2 (up2 (up2 (up2 (up2 w.2.1 37 0 a) 37 1 b) 37 2 c) 37 3 d) 37 1 e, w.2.2) = _
  rw [up2_cj (j := 3) (j' := 1) (by decide), up2_cj (j := 2) (j' := 1) (by decide), up2_up]
  rfl
theorem aU_w2 : wJ (aU w a b c d) 37 2 e = aU w a b e d := by
  show (w.1, up2 (up2 (up2 (up2 (up2 w.2.1 37 0 a) 37 1 b) 37 2 c) 37 3 d) 37 2 e, w.2.2) = _
  rw [up2_cj (j := 3) (j' := 2) (by decide), up2_up]
  rfl
theorem aU_fr : Fr [] [3700, 3701, 3702, 3703] w (aU w a b c d) := (((Fr.rf.pJ (by decide)).pJ (by decide)).pJ (by decide)).pJ (by decide)
end AUU
def honC (w : sW) (D F : Nat) (φ : Nat → List Nat) (y : sLn) (l : Nat) : Prop := honP D F φ y (fun h => w.2.2.1 11 h) (fun u => w.2.2.1 12 u) l
section AU2
variable {P : sP} {w : sW} {ex : Nat → Option sC} {n sl : Nat} {D F L U : Nat} {y : sLn} {φ nd : Nat → List Nat} {nf : Nat → Nat}
theorem aU_C {a b c d : Int64} (hC : CW w D F L U y φ nd nf) : CW (aU w a b c d) D F L U y φ nd nf := hC.fr aU_fr (by decide) (by decide) (by decide) (by decide) (by decide) (by decide) (by decide) (by decide) (by decide) (by decide) (by decide)
theorem c_audit (hA : KA P) (hC : CW w D F L U y φ nd nf) : F_X0_audit (P.2.1 + 37) (hp P w ex n sl) = some ((), hp P (aU w (mk64 (honC w D F φ y) L) (mk64 (sndP (honC w D F φ y) y) L) (mk64 (opnP L (w.2.2.2.1 13) y) L) (mk64 (stlP L (w.2.2.2.1 13) (unbP F φ (w.2.2.1 12) y)) L)) ex n sl) := by
  have h40 := hC.2.2.2.1
  have hL := hC.2.2.2.2.2.2.1
  have ho := hC.2.2.2.2.2.2.2.2.1
  generalize hst : mk64 (stlP L (w.2.2.2.1 13) (unbP F φ (w.2.2.1 12) y)) L = st
  have hC3 : CW (wJ (wJ (wJ w 37 0 0) 37 1 0) 37 2 0) D F L U y φ nd nf := hC.fr (((Fr.rf (A := []) (B := [3700, 3701, 3702]).pJ (by decide)).pJ (by decide)).pJ (by decide)) (by decide) (by decide) (by decide) (by decide) (by decide) (by decide) (by decide) (by decide) (by decide) (by decide) (by decide)
  rw [E_X0_audit, z_37, ob, E_X0_audit_0, p_37_0, ob, p_37_1, ob, p_37_2, ob, c_staleIf hC3, ob]
  have e1 : mk64 (stlP L ((wJ (wJ (wJ w 37 0 0) 37 1 0) 37 2 0).2.2.2.1 13) (unbP F φ (fun u => if mI u = -1 then 0 else (wJ (wJ (wJ w 37 0 0) 37 1 0) 37 2 0).2.2.1 12 u) y)) L = st := by
    rw [← hst]
    refine mk64_congr fun i hi => ⟨fun ⟨k, h1, h2, h3, h4⟩ => ⟨k, h1, h2, h3, fun z => h4 ?_⟩, fun ⟨k, h1, h2, h3, h4⟩ => ⟨k, h1, h2, h3, fun z => h4 ?_⟩⟩
    all_goals
      obtain ⟨⟨u, hu, eu⟩, -, -⟩ := (ho k h1).2.2.2.1 h3
      unfold amP at z ⊢
      rw [eu, Option.getD_some] at z ⊢
      have eq : (fun u => if mI u = -1 then 0 else (wJ (wJ (wJ w 37 0 0) 37 1 0) 37 2 0).2.2.1 12 u) u = w.2.2.1 12 u := if_neg (mI_m1 (by omega))
      first
        | (rw [eq]; exact z)
        | (rw [eq] at z; exact z)
  rw [e1, p_37_3, ob]
  show ((F_X0_linesOf (P.2.1 + 37) 1 (hp P (aU w 0 0 0 st) ex n sl)).bind fun q6 => R_X0_audit_33 (P.2.1 + 37) q6.1 0 q6.2) = _
  rw [c_linesOf (x := 1) (r := 1) (aU_C (a := 0) (b := 0) (c := 0) (d := st) hC) rfl (by decide), ob]
  refine loopE (f := fun k => R_X0_audit_33 (P.2.1 + 37) (mk64 (fun k => y.2.2.1 k = 1) L) (mI k) (hp P (aU w (mk64 (honC w D F φ y) k) (mk64 (sndP (honC w D F φ y) y) k) (mk64 (opnP L (w.2.2.2.1 13) y) k) st) ex n sl)) (N := L) (fun k hk => ?_) ?_
  · have tail : ∀ a b c : Int64, R_X0_audit_91 (P.2.1 + 37) (mk64 (fun k => y.2.2.1 k = 1) L) (mI k) (on64 k) (hp P (aU w a b (mk64 (opnP L (w.2.2.2.1 13) y) k) st) ex n sl) = R_X0_audit_33 (P.2.1 + 37) (mk64 (fun k => y.2.2.1 k = 1) L) (mI (k + 1)) (hp P (aU w a b (mk64 (opnP L (w.2.2.2.1 13) y) (k + 1)) st) ex n sl) := by
      intro a b c
      rw [E_X0_audit_91, q_37_5, ob, q_9_7, ob, ra_13 (show k < 40 by omega), ob]
      show (if (lg_cmp (w.2.2.2.1 13 k &&& mk64 (fun k => y.2.2.1 k = 1) L) 0) = 0 then _ else _) = _
      have ez : (lg_cmp (w.2.2.2.1 13 k &&& mk64 (fun k => y.2.2.1 k = 1) L) 0 = 0) = ¬ opnP L (w.2.2.2.1 13) y k := by rw [z64, and_mk (by omega)]; rfl
      by_cases g : opnP L (w.2.2.2.1 13) y k
      · rw [if_neg (show ¬ (lg_cmp (w.2.2.2.1 13 k &&& mk64 (fun k => y.2.2.1 k = 1) L) 0 = 0) by rw [ez]; exact fun z => z g), mk64_t (p := opnP L (w.2.2.2.1 13) y) g, q_37_2, ob, aU_2, p_37_2, ob, aU_w2, E_X0_audit_118, naddL]
      · rw [if_pos (show (lg_cmp (w.2.2.2.1 13 k &&& mk64 (fun k => y.2.2.1 k = 1) L) 0 = 0) by rw [ez]; exact g), mk64_f (p := opnP L (w.2.2.2.1 13) y) g, E_X0_audit_118, naddL]
    have hC' := fun (a b c : Int64) => aU_C (a := a) (b := b) (c := c) (d := st) hC
    rw [E_X0_audit_33, q_37_5, ob, q_9_6, ob, (hC' _ _ _).2.2.2.2.2.2.1, if_neg (show ¬ mI L ≤ mI k by rw [nle (by omega) (by omega)]; omega), c_isHonest (x := mI k) hA (hC' _ _ _) rfl hk, ob]
    show (if b2 (honC w D F φ y k) = 0 then _ else _) = _
    by_cases g : honC w D F φ y k
    · rw [if_neg (show ¬ b2 _ = 0 from fun z => b2_0.mp z g), q_37_0, ob, aU_0, p_37_0, ob, aU_w0, q_37_1, ob, aU_1, c_standsOnSound (x := mI k) (S := sndP (honC w D F φ y) y) (hC' _ _ _) rfl hk aU_1, ob]
      try dsimp only
      rw [mk64_t (p := honC w D F φ y) g]
      by_cases g2 : allP y k (sndP (honC w D F φ y) y)
      · rw [if_neg (show ¬ b2 _ = 0 from fun z => b2_0.mp z g2), E_X0_audit_87, p_37_1, ob, aU_w1, mk64_t (p := sndP (honC w D F φ y) y) ((snd_eq ho hk).mpr ⟨g, g2⟩)]
        exact tail _ _ 0
      · rw [if_pos (b2_0.mpr g2), E_X0_audit_87, p_37_1, ob, aU_w1, Int64.or_zero, mk64_f (p := sndP (honC w D F φ y) y) (fun z => g2 ((snd_eq ho hk).mp z).2)]
        exact tail _ _ 0
    · rw [if_pos (b2_0.mpr g), mk64_f (p := honC w D F φ y) g, mk64_f (p := sndP (honC w D F φ y) y) (fun z => g ((snd_eq ho hk).mp z).1)]
      exact tail _ _ 0
  · rw [E_X0_audit_33, q_37_5, ob, q_9_6, ob, (aU_C hC).2.2.2.2.2.2.1, if_pos (show mI L ≤ mI L by rw [nle (by omega) (by omega)]; omega)]
theorem c_isSaved {l : Nat} {x : Int32} {S O T : Nat → Prop} (hC : CW w D F L U y φ nd nf) (hx : x = mI l) (hl : l < L) (h1 : w.2.1 37 1 = mk64 S L) (h2 : w.2.1 37 2 = mk64 O L) (h3 : w.2.1 37 3 = mk64 T L) : F_X0_isSaved (P.2.1 + 37) x (hp P w ex n sl) = some (b2 (∃ k, k < L ∧ φ (y.2.1 k) = φ (y.2.1 l) ∧ S k ∧ ¬ O k ∧ ¬ T k), hp P w ex n sl) := by
  subst hx
  have h40 := hC.2.2.2.1
  have hL := hC.2.2.2.2.2.2.1
  have ho := hC.2.2.2.2.2.2.2.2.1
  have hN := hC.2.2.2.2.2.2.2.2.2.1
  have hU : U ≤ 2 ^ 17 := Nat.le_trans hN.2.1 hN.2.2.1
  rw [E_X0_isSaved, z_37, ob, E_X0_isSaved_0, q_37_1, ob, q_37_2, ob, q_37_3, ob, h1, h2, h3]
  generalize hz : (mk64 S L &&& (mk64 O L ^^^ (-1))) &&& (mk64 T L ^^^ (-1)) = z
  have hb : ∀ k, k < L → (bl z k = true ↔ S k ∧ ¬ O k ∧ ¬ T k) := by
    intro k hk
    have b1 := bl_mk (p := S) (k := L) (i := k) (by omega) (by omega)
    have b2 := bl_mk (p := O) (k := L) (i := k) (by omega) (by omega)
    have b3 := bl_mk (p := T) (k := L) (i := k) (by omega) (by omega)
    rw [← hz, bl_and, bl_and, bl_not _ (by omega), bl_not _ (by omega), Bool.and_eq_true, Bool.and_eq_true, b1, Bool.not_eq_true', Bool.not_eq_true', ← Bool.not_eq_true, ← Bool.not_eq_true, b2, b3]
    constructor
    · rintro ⟨⟨⟨_, q1⟩, q2⟩, q3⟩
      exact ⟨q1, fun m => q2 ⟨hk, m⟩, fun m => q3 ⟨hk, m⟩⟩
    · rintro ⟨q1, q2, q3⟩
      exact ⟨⟨⟨hk, q1⟩, fun m => q2 m.2⟩, fun m => q3 m.2⟩
  have en : ∀ k, k < L → ((mI (nf (y.2.1 k)) = mI (nf (y.2.1 l))) = (φ (y.2.1 k) = φ (y.2.1 l))) := by
    intro k hk
    have f1 := hC.2.2.2.2.2.2.2.2.2.2 _ (ho k hk).2.1
    have f2 := hC.2.2.2.2.2.2.2.2.2.2 _ (ho l hl).2.1
    exact propext ⟨fun e => by
      have e := (mI_inj (by omega) (by omega)).mp e
      rw [← f1.2.2, e, f2.2.2], fun e => by
      rw [← f1.2.2, ← f2.2.2] at e
      exact congrArg mI (hN.2.2.2.2 _ _ f1.1 f2.1 e)⟩
  refine loopB (f := fun k => R_X0_isSaved_26 (P.2.1 + 37) (mI l) z (mI k) (hp P w ex n sl)) (N := L) (p := fun k => φ (y.2.1 k) = φ (y.2.1 l) ∧ S k ∧ ¬ O k ∧ ¬ T k) (fun k hk hn => ?_) (fun k hk hy => ?_) ?_
  · rw [E_X0_isSaved_26, q_37_5, ob, q_9_6, ob, hL, if_neg (show ¬ mI L ≤ mI k by rw [nle (by omega) (by omega)]; omega)]
    by_cases g : bl z k = true
    · rw [if_neg (by rw [t64u (by omega), g]; decide), ob, c_nodeOfLine (x := mI k) hC rfl hk, ob, q_37_5, ob, c_nodeOfLine (x := mI l) hC rfl hl, ob]
      try dsimp only
      rw [if_neg (by rw [en k hk]; exact fun m => hn ⟨m, (hb k hk).mp g⟩), E_X0_isSaved_71, naddL]
    · rw [if_pos (by rw [t64u (by omega)]; exact Bool.not_eq_true _ ▸ g), E_X0_isSaved_71, naddL]
  · rw [E_X0_isSaved_26, q_37_5, ob, q_9_6, ob, hL, if_neg (show ¬ mI L ≤ mI k by rw [nle (by omega) (by omega)]; omega), if_neg (by rw [t64u (by omega), (hb k hk).mpr hy.2]; decide), ob, c_nodeOfLine (x := mI k) hC rfl hk, ob, q_37_5, ob, c_nodeOfLine (x := mI l) hC rfl hl, ob]
    try dsimp only
    rw [if_pos (by rw [en k hk]; exact hy.1)]
  · rw [E_X0_isSaved_26, q_37_5, ob, q_9_6, ob, hL, if_pos (show mI L ≤ mI L by rw [nle (by omega) (by omega)]; omega)]
theorem c_tells {l : Nat} {x v : Int32} {H S O T : Nat → Prop} {j : Nat} (hC : CW w D F L U y φ nd nf) (hx : x = mI l) (hv : v = mI j) (hj : j < 5) (hl : l < L) (h0 : w.2.1 37 0 = mk64 H L) (h1 : w.2.1 37 1 = mk64 S L) (h2 : w.2.1 37 2 = mk64 O L) (h3 : w.2.1 37 3 = mk64 T L) : F_X0_tells (P.2.1 + 37) x v (hp P w ex n sl) = some (b2 (if j = 0 then H l else if j = 1 then S l else if j = 2 then O l else if j = 3 then T l else savP L φ y S O T l), hp P w ex n sl) := by
  subst hx hv
  have h40 := hC.2.2.2.1
  have te : ∀ (p : Nat → Prop), (lg_cmp (((mk64 p L).toUInt64 >>> ((mI l).toInt64.toUInt64 &&& Int64.toUInt64 63)).toInt64 &&& 1) 0 = 0) = ¬ p l := by
    intro p
    rw [t64u (by omega)]
    apply propext
    rw [← Bool.not_eq_true, bl_mk (by omega) (by omega)]
    exact ⟨fun z m => z ⟨hl, m⟩, fun z m => z m.2⟩
  have tb : ∀ (p : Nat → Prop), (if lg_cmp (((mk64 p L).toUInt64 >>> ((mI l).toInt64.toUInt64 &&& Int64.toUInt64 63)).toInt64 &&& 1) 0 = 0 then some ((0 : Int32), hp P w ex n sl) else some (1, hp P w ex n sl)) = some (b2 (p l), hp P w ex n sl) := by
    intro p
    by_cases g : p l
    · rw [if_neg (by rw [te]; exact fun z => z g), b2_t g]
    · rw [if_pos (by rw [te]; exact g), b2_f g]
  rw [E_X0_tells, z_37, ob, E_X0_tells_0]
  rcases (show j = 0 ∨ j = 1 ∨ j = 2 ∨ j = 3 ∨ j = 4 by omega) with rfl | rfl | rfl | rfl | rfl
  · rw [if_pos (by decide), q_37_0, ob, h0, tb, if_pos rfl]
  · rw [if_neg (by decide), if_pos (by decide), q_37_1, ob, h1, tb, if_neg (by decide), if_pos rfl]
  · rw [if_neg (by decide), if_neg (by decide), if_pos (by decide), q_37_2, ob, h2, tb, if_neg (by decide), if_neg (by decide), if_pos rfl]
  · rw [if_neg (by decide), if_neg (by decide), if_neg (by decide), if_pos (by decide), q_37_3, ob, h3, tb, if_neg (by decide), if_neg (by decide), if_neg (by decide), if_pos rfl]
  · rw [if_neg (by decide), if_neg (by decide), if_neg (by decide), if_neg (by decide), q_37_3, ob, h3, if_neg (show ¬ (4 : Nat) = 0 by decide), if_neg (show ¬ (4 : Nat) = 1 by decide), if_neg (show ¬ (4 : Nat) = 2 by decide), if_neg (show ¬ (4 : Nat) = 3 by decide)]
    unfold savP
    by_cases g : T l
    · rw [if_neg (by rw [te]; exact fun z => z g), c_isSaved (x := mI l) hC rfl hl h1 h2 h3, ob, m_bool]
      exact congrArg (fun z => some (z, hp P w ex n sl)) (b2_congr ⟨fun z => ⟨g, z⟩, fun z => z.2⟩)
    · rw [if_pos (by rw [te]; exact g), b2_f (fun z => g z.1)]
theorem c_firstWrong {H : Nat → Prop} (hC : CW w D F L U y φ nd nf) (h0 : w.2.1 37 0 = mk64 H L) : (∃ k, k < L ∧ ¬ H k ∧ (∀ i, i < k → H i) ∧ F_X0_firstWrong (P.2.1 + 37) (hp P w ex n sl) = some (mI k, hp P w ex n sl)) ∨ ((∀ k, k < L → H k) ∧ F_X0_firstWrong (P.2.1 + 37) (hp P w ex n sl) = some (-1, hp P w ex n sl)) := by
  have h40 := hC.2.2.2.1
  have hL := hC.2.2.2.2.2.2.1
  have te : ∀ l, l < L → ((lg_cmp (((mk64 H L).toUInt64 >>> ((mI l).toInt64.toUInt64 &&& Int64.toUInt64 63)).toInt64 &&& 1) 0 = 0) = ¬ H l) := by
    intro l hl
    rw [t64u (by omega)]
    apply propext
    rw [← Bool.not_eq_true, bl_mk (by omega) (by omega)]
    exact ⟨fun z m => z ⟨hl, m⟩, fun z m => z m.2⟩
  rw [E_X0_firstWrong, z_37, ob, E_X0_firstWrong_0]
  have := loopX (f := fun k => R_X0_firstWrong_2 (P.2.1 + 37) (mI k) (hp P w ex n sl)) (N := L) (p := fun k => ¬ H k) (r0 := ((-1 : Int32), hp P w ex n sl)) (r1 := fun k => (mI k, hp P w ex n sl)) (fun k hk hn => by
    rw [E_X0_firstWrong_2, q_37_5, ob, q_9_6, ob, hL, if_neg (show ¬ mI L ≤ mI k by rw [nle (by omega) (by omega)]; omega), q_37_0, ob, h0, if_neg (by rw [te k hk]; exact hn), naddL]) (fun k hk hn => by
    rw [E_X0_firstWrong_2, q_37_5, ob, q_9_6, ob, hL, if_neg (show ¬ mI L ≤ mI k by rw [nle (by omega) (by omega)]; omega), q_37_0, ob, h0, if_pos (by rw [te k hk]; exact hn)]) (by
    rw [E_X0_firstWrong_2, q_37_5, ob, q_9_6, ob, hL, if_pos (show mI L ≤ mI L by rw [nle (by omega) (by omega)]; omega)])
  rcases this with ⟨k, g1, g2, g3, g4⟩ | ⟨g1, g2⟩
  · exact Or.inl ⟨k, g1, g2, fun i hi => Classical.not_not.mp (g3 i hi), g4⟩
  · exact Or.inr ⟨fun k hk => Classical.not_not.mp (g1 k hk), g2⟩
/-- what a line costs -/
def lcost (R : Nat → Nat → Int32) (φ : Nat → List Nat) (y : sLn) (l : Nat) : Int32 := R (y.1 l) (y.2.2.1 l) + mI (φ (y.2.1 l)).length * R (y.1 l) 16
theorem c_costOfB {h r : Nat} {x v s : Int32} (hx : x = mI h) (hv : v = mI r) (hh : h < 3) (hr : r < 17) : F_X1_costOf (P.2.1 + 9) x v s (hp P w ex n sl) = some (w.2.2.1 16 (h * 17 + r) + s * w.2.2.1 16 (h * 17 + 16), hp P w ex n sl) := by
  subst hx hv
  rw [E_X1_costOf, z_9, ob, E_X1_costOf_0, c_priceOf (x := mI h) (v := mI r) rfl rfl hh hr, ob, c_priceOf (x := mI h) (v := 16) (r := 16) rfl rfl hh (by decide), ob]
theorem c_costOf {l : Nat} {x : Int32} (hC : CW w D F L U y φ nd nf) (hx : x = mI l) (hl : l < L) : F_X0_costOf (P.2.1 + 37) x (hp P w ex n sl) = some (lcost (fun h r => w.2.2.1 16 (h * 17 + r)) φ y l, hp P w ex n sl) := by
  have ho := hC.2.2.2.2.2.2.2.2.1
  have hN := hC.2.2.2.2.2.2.2.2.2.1
  have f3 := hC.2.2.2.2.2.2.2.2.2.2 _ (ho l hl).2.1
  have hr := (ho l hl).2.2.1
  rw [E_X0_costOf, z_37, ob, E_X0_costOf_0, q_37_4, ob, q_37_5, ob, c_nodeOfLine hC hx hl, ob, c_signsOf (x := mI (nf (y.2.1 l))) hN rfl f3.1, ob, q_37_5, ob, ob, c_house hC hx hl, ob, q_37_5, ob, c_rule hC hx hl, ob, c_costOfB (x := mI (y.1 l)) (v := mI (y.2.2.1 l)) rfl rfl (ho l hl).1 (by omega), ob, f3.2.2]
  rfl
theorem c_costOfAll {l : Nat} {x : Int32} (hC : CW w D F L U y φ nd nf) (hx : x = mI l) (hl : l < L) : F_X0_costOfAll (P.2.1 + 37) x (hp P w ex n sl) = some (sumI (fun k => if bl (w.2.2.2.1 14 l) k = true then lcost (fun h r => w.2.2.1 16 (h * 17 + r)) φ y k else 0) L, hp P w ex n sl) := by
  subst hx
  have h40 := hC.2.2.2.1
  have hL := hC.2.2.2.2.2.2.1
  rw [E_X0_costOfAll, z_37, ob, E_X0_costOfAll_0, if_neg (mI_0 (by omega)), q_37_5, ob, q_9_6, ob, hL, if_neg (show ¬ mI L ≤ mI l by rw [nle (by omega) (by omega)]; omega), ob, q_9_8, ob, ra_14 (show l < 40 by omega), ob, E_X0_costOfAll_28]
  refine loopE (f := fun k => R_X0_costOfAll_35 (P.2.1 + 37) (w.2.2.2.1 14 l) (sumI (fun k => if bl (w.2.2.2.1 14 l) k = true then lcost (fun h r => w.2.2.1 16 (h * 17 + r)) φ y k else 0) k) (mI k) (hp P w ex n sl)) (N := L) (fun k hk => ?_) ?_
  · rw [E_X0_costOfAll_35, q_37_5, ob, q_9_6, ob, hL, if_neg (show ¬ mI L ≤ mI k by rw [nle (by omega) (by omega)]; omega)]
    by_cases g : bl (w.2.2.2.1 14 l) k = true
    · rw [if_neg (by rw [t64u (by omega), g]; decide), c_costOf (x := mI k) hC rfl hk, ob, E_X0_costOfAll_69, naddL]
      try dsimp only
      rw [show sumI (fun k => if bl (w.2.2.2.1 14 l) k = true then lcost (fun h r => w.2.2.1 16 (h * 17 + r)) φ y k else 0) (k + 1) = sumI (fun k => if bl (w.2.2.2.1 14 l) k = true then lcost (fun h r => w.2.2.1 16 (h * 17 + r)) φ y k else 0) k + (if bl (w.2.2.2.1 14 l) k = true then lcost (fun h r => w.2.2.1 16 (h * 17 + r)) φ y k else 0) from rfl, if_pos g]
    · rw [if_pos (by rw [t64u (by omega)]; exact Bool.not_eq_true _ ▸ g), E_X0_costOfAll_69, naddL]
      rw [show sumI (fun k => if bl (w.2.2.2.1 14 l) k = true then lcost (fun h r => w.2.2.1 16 (h * 17 + r)) φ y k else 0) (k + 1) = sumI (fun k => if bl (w.2.2.2.1 14 l) k = true then lcost (fun h r => w.2.2.1 16 (h * 17 + r)) φ y k else 0) k + (if bl (w.2.2.2.1 14 l) k = true then lcost (fun h r => w.2.2.1 16 (h * 17 + r)) φ y k else 0) from rfl, if_neg g, Int32.add_zero]
  · rw [E_X0_costOfAll_35, q_37_5, ob, q_9_6, ob, hL, if_pos (show mI L ≤ mI L by rw [nle (by omega) (by omega)]; omega)]
end AU2
