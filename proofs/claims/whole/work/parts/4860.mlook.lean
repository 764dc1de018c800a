/-! the model looks at formulas -/
section MLK
variable {P : sP} {S0 e : Nat} {w w' w1 w2 u u' : sW} {ex : Nat → Option sC} {n sl D F L R U : Nat} {y : sLn} {φ : Nat → List Nat} {nf : Nat → Nat} {ρ : sRc} {nd : Nat → List Nat} {S T : List (List Nat)}
/-- one place of the store is written -/
def St (g : Nat) (w w' : sW) : Prop := Fr [49, 50] [] w w' ∧ (∀ h, h ≠ g → w'.2.2.1 49 h = w.2.2.1 49 h) ∧ ∀ k, ¬ (40 * g ≤ k ∧ k < 40 * g + 40) → w'.2.2.1 50 k = w.2.2.1 50 k
theorem St.hl {g h : Nat} {l : List Nat} (s : St g w w') (hL : hasL w h l) (hh : h ≠ g) : hasL w' h l := by
  obtain ⟨h1, h2, h3, h4⟩ := hL
  exact ⟨(s.2.1 h hh).trans h1, h2, h3, fun k hk => (s.2.2 _ (by omega)).trans (h4 k hk)⟩
theorem St.fv {g : Nat} (s : St g w w') (hg : 30 ≤ g) : FV w w' :=
  ⟨fun k hk => s.1.1 k (fun z => hk (by rcases List.mem_cons.mp z with q | q; · rw [q]; decide
                                        · rcases List.mem_cons.mp q with q | q; · rw [q]; decide
                                          · cases q)), fun i hi => s.2.1 i (by omega), fun i hi => s.2.2 i (by omega), fun k j _ => s.1.2.1 k j (by simp), s.1.2.2⟩
theorem m_copies {f g i j : Nat} {l : List Nat} {t : Option Nat} {x1 x2 x3 x4 x5 : Int32} (hx1 : x1 = mI f) (hx2 : x2 = mI i) (hx3 : x3 = mI j) (hx4 : x4 = thOf t) (hx5 : x5 = mI g) (hf : f < 72) (hg : g < 72) (hfg : f ≠ g) (hl : hasL w f l) (hij : i ≤ j) (hj : j ≤ l.length) (ht : ∀ v, t = some v → v < 3) : ∃ w', F_X8_copies (P.2.1 + 46) x1 x2 x3 x4 x5 (hp P w ex n sl) = some ((), hp P w' ex n sl) ∧ hasL w' g ((seg l i j).map (ins t)) ∧ St g w w' := by
  subst hx1 hx2 hx3 hx4 hx5
  have h40 := hl.2.1
  have gd : ∀ k, k < l.length → l.getD k 0 < 18 := fun k hk => by
    rw [List.getD_eq_getElem?_getD, List.getElem?_eq_getElem hk]
    exact hl.2.2.1 _ (List.getElem_mem hk)
  have lp := loopN (run := fun k (u : sW) => R_X8_copies_13 (P.2.1 + 46) (mI f) (mI i) (mI j) (thOf t) (mI g) (mI (i + k)) (hp P u ex n sl)) (N := j - i) (I := fun k u => St g w u ∧ u.2.2.1 49 g = mI (j - i) ∧ ∀ m, m < k → u.2.2.1 50 (40 * g + m) = mI (ins t (l.getD (i + m) 0))) (Q := fun r => ∃ u, r = ((), hp P u ex n sl) ∧ St g w u ∧ u.2.2.1 49 g = mI (j - i) ∧ ∀ m, m < j - i → u.2.2.1 50 (40 * g + m) = mI (ins t (l.getD (i + m) 0))) (fun k u hk hI => by
      obtain ⟨i1, i2, i3⟩ := hI
      have hL := i1.hl hl hfg
      refine Or.inl ⟨wA u 50 (40 * g + k) (mI (ins t (l.getD (i + k) 0))), ⟨⟨i1.1.pA (by decide), fun h hh => (i1.2.1 h hh), fun q hq => ?_⟩, i2, fun m hm => ?_⟩, ?_⟩
      · rw [wA_n (by omega)]; exact i1.2.2 q hq
      · by_cases e : m = k
        · subst e; exact wA_s
        · rw [wA_n (by omega)]; exact i3 m (by omega)
      · have e2 : 40 * mI g + mI (i + k) - mI i = mI (40 * g + k) := by
          show mI 40 * mI g + mI (i + k) - mI i = _
          rw [mI_mul, mI_add, mI_sub (by omega)]
          congr 1
          omega
        rw [E_X8_copies_13, if_neg (show ¬ mI j ≤ mI (i + k) by rw [nle (by omega) (by omega)]; omega), q_46_5, ob, m_at rfl rfl hf (by omega), ob, hL.2.2.2 (i + k) (by omega)]
        try dsimp only
        rw [m_set ht (gd _ (by omega)), ob]
        try dsimp only
        rw [e2, wa_50 (by omega), ob, mI_s]
        rfl) (fun u hI => by
      obtain ⟨i1, i2, i3⟩ := hI
      refine ⟨_, ?_, u, rfl, i1, i2, i3⟩
      try dsimp only
      rw [E_X8_copies_13, if_pos (by rw [nle (by omega) (by omega)]; omega)]) 0 (wA w 49 g (mI (j - i))) (Nat.zero_le _) ⟨⟨(Fr.rf).pA (by decide), fun h hh => wA_n (by omega), fun k _ => wA_n (by omega)⟩, wA_s, fun m hm => absurd hm (Nat.not_lt_zero _)⟩
  obtain ⟨r, h1, u, rfl, i1, i2, i3⟩ := lp
  refine ⟨u, ?_, ⟨?_, ?_, ?_, ?_⟩, i1⟩
  · rw [E_X8_copies, z_46, ob, E_X8_copies_0, q_46_4, ob, mI_sub hij, wa_49 hg, ob]
    exact h1
  · rw [List.length_map, seg_len hj]; exact i2
  · rw [List.length_map, seg_len hj]; omega
  · intro s hs
    obtain ⟨s', h', rfl⟩ := List.mem_map.mp hs
    exact ins_lt ht (hl.2.2.1 s' (List.mem_of_mem_drop (List.mem_of_mem_take h')))
  · intro k hk
    rw [List.length_map, seg_len hj] at hk
    rw [i3 k hk]
    have e1 : (seg l i j)[k]? = l[i + k]? := seg_get hk
    have hk2 : i + k < l.length := by omega
    rw [List.getD_eq_getElem?_getD, List.getD_eq_getElem?_getD, List.getElem?_map, e1, List.getElem?_eq_getElem hk2]
    rfl
/-- what the model has looked at -/
def LMo (u : sW) (S : List (List Nat)) : Prop := u.1 46 33 = mI S.length ∧ okS S ∧ ∀ i, i < S.length → hasL u (30 + i) (at0 S i)
theorem m_seenAt {g : Nat} {a : List Nat} {x : Int32} (hx : x = mI g) (hg : g < 72) (hL : LMo w S) (ha : hasL w g a) : F_X8_seenAt (P.2.1 + 46) x (hp P w ex n sl) = some (thOf (pos S a), hp P w ex n sl) := by
  obtain ⟨h33, hS, hi⟩ := hL
  have hk40 := hS.1
  rw [E_X8_seenAt, z_46, ob, E_X8_seenAt_0]
  have e30 : ∀ k, 30 + mI k = mI (30 + k) := fun k => mI_add 30 k
  rcases loopX (f := fun k => R_X8_seenAt_2 (P.2.1 + 46) x (mI k) (hp P w ex n sl)) (N := S.length) (p := fun k => at0 S k = a) (r0 := ((-1 : Int32), hp P w ex n sl)) (r1 := fun k => (mI k, hp P w ex n sl)) (fun k hk h => by
      try dsimp only
      rw [E_X8_seenAt_2, q_46_33, ob, h33, if_neg (show ¬ mI S.length ≤ mI k by rw [nle (by omega) (by omega)]; omega), m_isSame (e30 k) hx (by omega) hg (hi k hk) ha, ob, if_pos (b2_0.mpr h), mI_s]) (fun k hk h => by
      try dsimp only
      rw [E_X8_seenAt_2, q_46_33, ob, h33, if_neg (show ¬ mI S.length ≤ mI k by rw [nle (by omega) (by omega)]; omega), m_isSame (e30 k) hx (by omega) hg (hi k hk) ha, ob, if_neg (fun z => b2_0.mp z h)]) (by
      try dsimp only
      rw [E_X8_seenAt_2, q_46_33, ob, h33, if_pos (by rw [nle (by omega) (by omega)]; exact Nat.le_refl _)]) with ⟨k, h1, h2, h3, h4⟩ | ⟨h1, h2⟩
  · rw [pos_of h1 h2 h3]; exact h4
  · rw [pos_none.mpr (fun z => by obtain ⟨i, i1, i2⟩ := mem_at0.mp z; exact h1 i i1 i2)]; exact h2
theorem LMo.st {g : Nat} (h : LMo w S) (s : St g w w') (hg : 30 + S.length ≤ g) : LMo w' S :=
  ⟨(s.1.i (k := 46) (j := 33) (by decide)).trans h.1, h.2.1, fun i hi => s.hl (h.2.2 i hi) (by omega)⟩
theorem m_partAt {f i j : Nat} {l : List Nat} {t : Option Nat} {x1 x2 x3 x4 : Int32} (hx1 : x1 = mI f) (hx2 : x2 = mI i) (hx3 : x3 = mI j) (hx4 : x4 = thOf t) (hf : f < 71) (hl : hasL w f l) (hij : i ≤ j) (hj : j ≤ l.length) (ht : ∀ v, t = some v → v < 3) (hL : LMo w S) : ∃ w', F_X8_partAt (P.2.1 + 46) x1 x2 x3 x4 (hp P w ex n sl) = some (thOf (pos S ((seg l i j).map (ins t))), hp P w' ex n sl) ∧ hasL w' 71 ((seg l i j).map (ins t)) ∧ St 71 w w' ∧ LMo w' S := by
  have h40 := hL.2.1.1
  obtain ⟨w', h1, h2, h3⟩ := m_copies (P := P) (ex := ex) (n := n) (sl := sl) (g := 71) (x5 := 71) hx1 hx2 hx3 hx4 rfl (by omega) (by decide) (by omega) hl hij hj ht
  have h4 := hL.st h3 (by omega)
  refine ⟨w', ?_, h2, h3, h4⟩
  rw [E_X8_partAt, z_46, ob, E_X8_partAt_0, h1, ob]
  try dsimp only
  rw [m_seenAt (g := 71) (x := 71) rfl (by decide) h4 h2, ob]
/-- what is still to be looked at: the top first -/
def EN (u : sW) (s k : Nat) (a : List Nat) : Prop := ∃ f i j t l, f < 30 + s ∧ hasL u f l ∧ i ≤ j ∧ j ≤ l.length ∧ (∀ v, t = some v → v < 3) ∧ (seg l i j).map (ins t) = a ∧ u.2.2.1 71 (4 * k) = mI f ∧ u.2.2.1 71 (4 * k + 1) = mI i ∧ u.2.2.1 71 (4 * k + 2) = mI j ∧ u.2.2.1 71 (4 * k + 3) = thOf t
def TS (u : sW) (s : Nat) : List (List Nat) → Prop
  | [] => True
  | a :: T => EN u s T.length a ∧ TS u s T
theorem TS.mo {s s' : Nat} (hs : s ≤ s') : ∀ T, (∀ k, k < 4 * T.length → u'.2.2.1 71 k = u.2.2.1 71 k) → (∀ f l, f < 30 + s → hasL u f l → hasL u' f l) → TS u s T → TS u' s' T := by
  intro T
  induction T with
  | nil => intro _ _ _; trivial
  | cons a T ih =>
    intro h1 h2 h
    obtain ⟨⟨f, i, j, t, l, g1, g2, g3, g4, g5, g6, g7, g8, g9, g10⟩, h3⟩ := h
    have hl : (a :: T).length = T.length + 1 := rfl
    refine ⟨⟨f, i, j, t, l, by omega, h2 f l g1 g2, g3, g4, g5, g6, ?_, ?_, ?_, ?_⟩, ih (fun k hk => h1 k (by omega)) h2 h3⟩
    · rw [h1 _ (by omega)]; exact g7
    · rw [h1 _ (by omega)]; exact g8
    · rw [h1 _ (by omega)]; exact g9
    · rw [h1 _ (by omega)]; exact g10
theorem m_adds {s f i j : Nat} {l a : List Nat} {t : Option Nat} {x1 x2 x3 x4 : Int32} (hx1 : x1 = mI f) (hx2 : x2 = mI i) (hx3 : x3 = mI j) (hx4 : x4 = thOf t) (hf : f < 30 + s) (hl : hasL w f l) (hij : i ≤ j) (hj : j ≤ l.length) (ht : ∀ v, t = some v → v < 3) (ha : (seg l i j).map (ins t) = a) (h38 : w.1 46 38 = mI T.length) (hT : TS w s T) (hlen : T.length < 152) : ∃ w', F_X8_adds (P.2.1 + 46) x1 x2 x3 x4 (hp P w ex n sl) = some ((), hp P w' ex n sl) ∧ Fr [71] [4638] w w' ∧ w'.1 46 38 = mI (a :: T).length ∧ TS w' s (a :: T) := by
  subst hx1 hx2 hx3 hx4
  generalize hw : wI (wA (wA (wA (wA w 71 (4 * T.length) (mI f)) 71 (4 * T.length + 1) (mI i)) 71 (4 * T.length + 2) (mI j)) 71 (4 * T.length + 3) (thOf t)) 46 38 (mI (T.length + 1)) = w'
  have fr : Fr [71] [4638] w w' := by
    rw [← hw]
    exact (((((Fr.rf).pA (k := 71) (by decide)).pA (k := 71) (by decide)).pA (k := 71) (by decide)).pA (k := 71) (by decide)).pI (k := 46) (j := 38) (by decide)
  have e0 : 4 * mI T.length = mI (4 * T.length) := mI_mul 4 _
  have e1 : mI (4 * T.length) + 1 = mI (4 * T.length + 1) := mI_add _ 1
  have e2 : mI (4 * T.length) + 2 = mI (4 * T.length + 2) := mI_add _ 2
  have e3 : mI (4 * T.length) + 3 = mI (4 * T.length + 3) := mI_add _ 3
  refine ⟨w', ?_, fr, ?_, ⟨f, i, j, t, l, hf, hl.fr fr (by decide) (by decide), hij, hj, ht, ha, ?_, ?_, ?_, ?_⟩, TS.mo (Nat.le_refl _) T (fun k hk => ?_) (fun f l _ h => h.fr fr (by decide) (by decide)) hT⟩
  · rw [E_X8_adds, z_46, ob, E_X8_adds_0, q_46_38, ob, q_46_37, ob, h38, e0, wa_71 (by omega), ob, q_46_37, ob, e1, wa_71 (by omega), ob, q_46_37, ob, e2, wa_71 (by omega), ob, q_46_37, ob, e3, wa_71 (by omega), ob, q_46_38, ob, p_46_38, ob]
    rw [show (wA (wA (wA (wA w 71 (4 * T.length) (mI f)) 71 (4 * T.length + 1) (mI i)) 71 (4 * T.length + 2) (mI j)) 71 (4 * T.length + 3) (thOf t)).1 46 38 = w.1 46 38 from rfl, h38, mI_s, hw]
  · rw [← hw]; exact wI_s
  · rw [← hw]; ((try dsimp only [wA, wI, wL, wJ]); (repeat first | rw [up2_n (by omega)] | rw [up2_e (by omega) (by omega)]))
  · rw [← hw]; ((try dsimp only [wA, wI, wL, wJ]); (repeat first | rw [up2_n (by omega)] | rw [up2_e (by omega) (by omega)]))
  · rw [← hw]; ((try dsimp only [wA, wI, wL, wJ]); (repeat first | rw [up2_n (by omega)] | rw [up2_e (by omega) (by omega)]))
  · rw [← hw]; ((try dsimp only [wA, wI, wL, wJ]); (repeat first | rw [up2_n (by omega)] | rw [up2_e (by omega) (by omega)]))
  · rw [← hw]; ((try dsimp only [wA, wI, wL, wJ]); (repeat first | rw [up2_n (by omega)] | rw [up2_e (by omega) (by omega)]))
end MLK
