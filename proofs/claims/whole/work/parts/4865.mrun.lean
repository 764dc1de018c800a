/-! the model looks at all of them -/
section MRN
variable {P : sP} {S0 e : Nat} {w w' w1 w2 u u' : sW} {ex : Nat → Option sC} {n sl D F L R U : Nat} {y : sLn} {φ : Nat → List Nat} {nf : Nat → Nat} {ρ : sRc} {nd : Nat → List Nat} {S T : List (List Nat)}
/-- the frame of looking -/
def FK (w u : sW) : Prop := Fr [49, 50, 71] [4633, 4638] w u ∧ FV w u
theorem FK.tr (h : FK w u) (g : FK u u') : FK w u' := ⟨h.1.tr g.1, h.2.tr g.2⟩
theorem FK.rf : FK w w := ⟨Fr.rf, FV.rf⟩
theorem St.fk {g : Nat} (s : St g w w') (hg : 30 ≤ g) : FK w w' := ⟨s.1.mo (by decide) (by decide), s.fv hg⟩
theorem FK.of (f : Fr [71] [4633, 4638] w w') : FK w w' := ⟨f.mo (by decide) (by decide), f.fv (by decide) (by decide)⟩
theorem LMo.fr {B : List Nat} (h : LMo w S) (f : Fr [71] B w u) (hB : 4633 ∉ B) : LMo u S :=
  ⟨(f.i (k := 46) (j := 33) hB).trans h.1, h.2.1, fun i hi => (h.2.2 i hi).fr f (by decide) (by decide)⟩
theorem MW.fv' (h : MW w D F L y φ) (f : FV w u) : MW u D F L y φ := by
  obtain ⟨g1, g2, g3, g4, g5, g6, g7, g8, g9, g10⟩ := h
  unfold MW
  rw [(f.1 47 (by decide)).1]
  exact ⟨g1, g2, g3, g4, g5, g6, g7, g8, g9, fun k hk => ⟨(g10 k hk).1.fvo (by omega) f.o, (g10 k hk).2⟩⟩
/-- the things, the last first -/
theorem m_addsQ {s g : Nat} {q : Nat} {a : List Nat} (hg : g < 30 + s) (hs : s ≤ 40) : ∀ m (u : sW) T, m ≤ 3 → hasL u g (q :: a) → u.1 46 38 = mI T.length → TS u s T → T.length + m ≤ 152 → ∃ u', R_X8_looksAll_268 (P.2.1 + 46) (mI g) (mI m - 1) (hp P u ex n sl) = R_X8_looksAll_295 (P.2.1 + 46) (hp P u' ex n sl) ∧ Fr [71] [4638] u u' ∧ u'.1 46 38 = mI ((List.range m).map (fun t => a.map (ins (some t))) ++ T).length ∧ TS u' s ((List.range m).map (fun t => a.map (ins (some t))) ++ T) := by
  intro m
  induction m with
  | zero =>
    intro u T _ hl h38 hT _
    refine ⟨u, ?_, Fr.rf, h38, hT⟩
    rw [E_X8_looksAll_268, if_pos (show mI 0 - 1 < 0 by decide)]
  | succ m ih =>
    intro u T hm hl h38 hT hlen
    have h40 := hl.2.1
    obtain ⟨u1, a1, a2, a3, a4⟩ := m_adds (P := P) (ex := ex) (n := n) (sl := sl) (x1 := mI g) (x2 := 1) (i := 1) (x3 := mI (q :: a).length) (x4 := mI m) (t := some m) (a := a.map (ins (some m))) rfl rfl rfl rfl hg hl (by simp) (Nat.le_refl _) (fun v hv => by cases hv; omega) (by rw [seg_c]) h38 hT (by omega)
    obtain ⟨u2, b1, b2', b3, b4⟩ := ih u1 (a.map (ins (some m)) :: T) (by omega) (hl.fr a2 (by decide) (by decide)) a3 a4 (by simp; omega)
    have ee : (List.range m).map (fun t => a.map (ins (some t))) ++ (a.map (ins (some m)) :: T) = (List.range (m + 1)).map (fun t => a.map (ins (some t))) ++ T := by
      rw [List.range_succ]; simp
    rw [ee] at b3 b4
    refine ⟨u2, ?_, a2.tr b2', b3, b4⟩
    have e1 : mI (m + 1) - 1 = mI m := mI_sub (a := m + 1) (b := 1) (by omega)
    have e2 : mI m + (-1) = mI m - 1 := by rw [Int32.sub_eq_add_neg]
    rw [E_X8_looksAll_268, e1, if_neg (mI_0 (by omega)), q_46_4, ob, m_len rfl (by omega) hl, ob, a1, ob, e2]
    exact b1
theorem m_run (hM : MW w D F L y φ) : ∀ N (u : sW) S T, 4 * (40 - S.length) + T.length ≤ N → T.length ≤ 31 + 2 * S.length → (∀ a ∈ T, okF a) → FK w u → LMo u S → u.1 46 38 = mI T.length → TS u S.length T → ∃ u', R_X8_looksAll_62 (P.2.1 + 46) (hp P u ex n sl) = some ((), hp P u' ex n sl) ∧ FK w u' ∧ LMo u' (T.foldl (LK D) S) := by
  have hD3 := hM.2.1
  intro N
  induction N using Nat.strongRecOn with
  | _ N ih =>
    intro u S T hN hT31 hok hfk hL h38 hTS
    have hS40 := hL.2.1.1
    rw [E_X8_looksAll_62, q_46_38, ob, h38]
    cases T with
    | nil =>
      rw [if_pos (show mI ([] : List (List Nat)).length ≤ 0 by decide)]
      exact ⟨u, rfl, hfk, hL⟩
    | cons a T =>
      have hl1 : (a :: T).length = T.length + 1 := rfl
      rw [hl1] at hN hT31 h38
      rw [hl1, if_neg (show ¬ mI (T.length + 1) ≤ 0 by
        have := nleL (a := T.length + 1) (n := 0) (by omega) (by decide)
        intro z
        have z' : mI (T.length + 1) ≤ mI 0 := z
        rw [nle (by omega) (by omega)] at z'
        omega), q_46_33, ob, hL.1]
      by_cases g40 : 40 ≤ S.length
      · rw [if_pos (show (40 : Int32) ≤ mI S.length by rw [nleR (by omega) (by decide)]; exact g40), LK_fullF _ g40]
        exact ⟨u, rfl, hfk, hL⟩
      rw [if_neg (show ¬ (40 : Int32) ≤ mI S.length by rw [nleR (by omega) (by decide)]; exact g40), ob, show mI (T.length + 1) - 1 = mI T.length from mI_sub (a := T.length + 1) (b := 1) (by omega), p_46_38, ob]
      generalize hu1 : wI u 46 38 (mI T.length) = u1
      have f1 : Fr [71] [4638] u u1 := by rw [← hu1]; exact Fr.rf.pI (k := 46) (j := 38) (by decide)
      have h381 : u1.1 46 38 = mI T.length := by rw [← hu1]; exact wI_s
      have hL1 := hL.fr f1 (by decide)
      obtain ⟨⟨f, i, j, t, l, g1, g2, g3, g4, g5, g6, g7, g8, g9, g10⟩, hTS'⟩ := hTS
      have a71 : u1.2.2.1 71 = u.2.2.1 71 := by rw [← hu1]
      have g2' := g2.fr f1 (by decide) (by decide)
      have l40 := g2.2.1
      have c1 : 4 * mI T.length = mI (4 * T.length) := mI_mul 4 _
      have c2 : mI (4 * T.length) + 1 = mI (4 * T.length + 1) := mI_add _ 1
      have c3 : mI (4 * T.length) + 2 = mI (4 * T.length + 2) := mI_add _ 2
      have c4 : mI (4 * T.length) + 3 = mI (4 * T.length + 3) := mI_add _ 3
      rw [q_46_38, ob, h381, q_46_37, ob, c1, ra_71 (by omega), ob, ob, c2, ra_71 (by omega), ob, ob, c3, ra_71 (by omega), ob, ob, c4, ra_71 (by omega), ob, a71, g7, g8, g9, g10]
      obtain ⟨u2, p1, p2, p3, p4⟩ := m_partAt (P := P) (ex := ex) (n := n) (sl := sl) rfl rfl rfl rfl (show f < 71 by omega) g2' g3 g4 g5 hL1
      rw [g6] at p1 p2
      rw [p1, ob]
      try dsimp only
      have hoka := hok a List.mem_cons_self
      have hok' : ∀ b ∈ T, okF b := fun b hb => hok b (List.mem_cons_of_mem _ hb)
      have fk2 : FK w u2 := hfk.tr ((FK.of (f1.mo (by decide) (by decide))).tr (p3.fk (by decide)))
      have h382 : u2.1 46 38 = mI T.length := (p3.1.i (k := 46) (j := 38) (by decide)).trans h381
      have hTS2 : TS u2 S.length T := TS.mo (Nat.le_refl _) T (fun k _ => by rw [p3.1.a (k := 71) (by decide), a71]) (fun f' l' hf' hl' => p3.hl (hl'.fr f1 (by decide) (by decide)) (by omega)) hTS'
      rw [List.foldl_cons, LK_eq hD3 hoka]
      by_cases g : a ∈ S
      · cases e : pos S a with
        | none => exact absurd g (pos_none.mp e)
        | some k =>
          have hk := (pos_some e).1
          rw [if_neg (show ¬ thOf (some k) < 0 from mI_0 (by omega)), if_pos (Or.inr g)]
          exact ih (4 * (40 - S.length) + T.length) (by omega) u2 S T (Nat.le_refl _) (by omega) hok' fk2 p4 h382 hTS2
      · rw [pos_none.mpr g, if_pos (show thOf none < 0 by decide), if_neg (fun z => z.elim g40 g), q_46_33, ob, q_46_4, ob, p4.1, m_len (f := 71) (x := 71) rfl (by decide) p2, ob]
        have c5 : 30 + mI S.length = mI (30 + S.length) := mI_add 30 _
        obtain ⟨u3, r1, r2, r3⟩ := m_copies (P := P) (ex := ex) (n := n) (sl := sl) (f := 71) (g := 30 + S.length) (i := 0) (j := a.length) (x1 := 71) (x2 := 0) (x3 := mI a.length) (x4 := -1) (t := none) (x5 := mI (30 + S.length)) rfl rfl rfl rfl rfl (by decide) (by omega) (by omega) p2 (Nat.zero_le _) (Nat.le_refl _) (fun v hv => by cases hv)
        rw [seg_all, ins_none] at r2
        have h333 : u3.1 46 33 = mI S.length := (r3.1.i (k := 46) (j := 33) (by decide)).trans p4.1
        rw [c5, r1, ob]
        try dsimp only
        rw [q_46_33, ob, h333, mI_s, p_46_33, ob]
        generalize hu4 : wI u3 46 33 (mI (S.length + 1)) = u4
        have f4 : Fr [71] [4633, 4638] u3 u4 := by rw [← hu4]; exact Fr.rf.pI (k := 46) (j := 33) (by decide)
        have hL4 : LMo u4 (S ++ [a]) := by
          refine ⟨?_, okS_add hL.2.1 g40 hoka g, fun i hi => ?_⟩
          · rw [← hu4, List.length_append]; exact wI_s
          · rw [List.length_append, List.length_singleton] at hi
            by_cases e : i = S.length
            · subst e
              rw [at0_end]
              exact r2.fr f4 (by decide) (by decide)
            · rw [at0_app (by omega)]
              exact (r3.hl (p4.2.2 i (by omega)) (by omega)).fr f4 (by decide) (by decide)
        have ha4 : hasL u4 (30 + S.length) a := r2.fr f4 (by decide) (by decide)
        have fk4 : FK w u4 := fk2.tr ((r3.fk (by omega)).tr (FK.of f4))
        have h384 : u4.1 46 38 = mI T.length := by
          rw [← hu4, wI_j (by decide)]
          exact (r3.1.i (k := 46) (j := 38) (by decide)).trans h382
        have hTS4 : TS u4 (S.length + 1) T := TS.mo (Nat.le_succ _) T (fun k _ => by rw [← hu4]; show u3.2.2.1 71 k = _; rw [r3.1.a (k := 71) (by decide)]) (fun f' l' hf' hl' => (r3.hl hl' (by omega)).fr f4 (by decide) (by decide)) hTS2
        have hM4 := hM.fv' fk4.2
        -- going on with the parts on top
        have go : ∀ (u' : sW) Q, parts D a = Q → Q.length ≤ 3 → Fr [71] [4638] u4 u' → u'.1 46 38 = mI (Q ++ T).length → TS u' (S.length + 1) (Q ++ T) → ∃ u'', R_X8_looksAll_295 (P.2.1 + 46) (hp P u' ex n sl) = some ((), hp P u'' ex n sl) ∧ FK w u'' ∧ LMo u'' (T.foldl (LK D) ((parts D a).foldl (LK D) (S ++ [a]))) := by
          intro u' Q hQ hQ3 f' h38' hTS''
          rw [E_X8_looksAll_295, hQ, ← List.foldl_append]
          refine ih (4 * (40 - (S ++ [a]).length) + (Q ++ T).length) ?_ u' (S ++ [a]) (Q ++ T) (Nat.le_refl _) ?_ ?_ (fk4.tr (FK.of (f'.mo (by decide) (by decide)))) (hL4.fr f' (by decide)) h38' ?_
          · simp only [List.length_append, List.length_singleton]; omega
          · simp only [List.length_append, List.length_singleton]; omega
          · intro b hb
            rcases List.mem_append.mp hb with q | q
            · rw [← hQ] at q; exact (parts_ok hD3 hoka q).1
            · exact hok' b q
          · rw [List.length_append, List.length_singleton]; exact hTS''
        obtain ⟨s, r, rfl, hc⟩ := wff_cases hoka.1
        have hs18 : s < 18 := hoka.2.2 s List.mem_cons_self
        rw [m_at0 rfl (by omega) ha4, ob]
        try dsimp only
        rw [m_isJoining hs18, ob]
        try dsimp only
        have e12 : (mI s = 12) = (s = 12) := m_eqN (b := 12) (by omega) (by decide)
        rcases hc with ⟨h0, rfl⟩ | ⟨h1, hr⟩ | ⟨h2, b, c, rfl, hb, hcc⟩
        · rw [if_pos (b2_0.mpr (by omega)), if_neg (by rw [e12]; intro z; rw [z] at h0; cases h0), m_isLone hs18, ob]
          try dsimp only
          rw [if_pos (b2_0.mpr (by omega))]
          exact go u4 [] (parts_0 h0) (by decide) Fr.rf h384 hTS4
        · rw [if_pos (b2_0.mpr (by omega))]
          rcases ar1_cases h1 with q | q
          · subst q
            obtain ⟨u5, d1, d2, d3, d4⟩ := m_adds (P := P) (ex := ex) (n := n) (sl := sl) (x1 := mI (30 + S.length)) (x2 := 1) (i := 1) (x3 := mI (12 :: r).length) (x4 := -1) (t := none) (a := r) (s := S.length + 1) rfl rfl rfl rfl (by omega) ha4 (by simp) (Nat.le_refl _) (fun v hv => by cases hv) (by rw [seg_c, ins_none]) h384 hTS4 (by omega)
            rw [if_pos (show mI 12 = 12 from rfl), q_46_4, ob, m_len rfl (by omega) ha4, ob, d1, ob]
            exact go u5 [r] parts_n (by simp) d2 d3 d4
          · have hD' : u4.2.2.1 47 0 = mI D := hM4.2.2.2.2.1
            obtain ⟨u5, d1, d2, d3, d4⟩ := m_addsQ (P := P) (ex := ex) (n := n) (sl := sl) (s := S.length + 1) (g := 30 + S.length) (by omega) (by omega) D u4 T hD3 ha4 h384 hTS4 (by omega)
            rw [if_neg (by rw [e12]; omega), m_isLone hs18, ob]
            try dsimp only
            rw [if_neg (fun z => b2_0.mp z h1), m_d, ob, hD']
            try dsimp only
            rw [d1]
            exact go u5 _ (parts_q q) (by simp; omega) d2 d3 d4
        · have hlen := hoka.2.1
          simp only [List.length_cons, List.length_append] at hlen
          obtain ⟨u5, d1, d2, d3, d4⟩ := m_adds (P := P) (ex := ex) (n := n) (sl := sl) (x1 := mI (30 + S.length)) (x2 := mI (1 + b.length)) (x3 := mI (s :: (b ++ c)).length) (x4 := -1) (t := none) (a := c) (s := S.length + 1) rfl rfl rfl rfl (by omega) ha4 (by simp; omega) (Nat.le_refl _) (fun v hv => by cases hv) (by rw [seg_b, ins_none]) h384 hTS4 (by omega)
          have ha5 := ha4.fr d2 (by decide) (by decide)
          obtain ⟨u6, k1, k2, k3, k4⟩ := m_adds (P := P) (ex := ex) (n := n) (sl := sl) (x1 := mI (30 + S.length)) (x2 := 1) (i := 1) (x3 := mI (1 + b.length)) (x4 := -1) (t := none) (a := b) (s := S.length + 1) rfl rfl rfl rfl (by omega) ha5 (by omega) (by simp; omega) (fun v hv => by cases hv) (by rw [seg_a, ins_none]) d3 d4 (by simp; omega)
          rw [if_neg (fun z => b2_0.mp z h2), m_endOf (y := 1) (i := 1) (b := c) rfl rfl (by omega) ha4 rfl hb, ob]
          try dsimp only
          rw [q_46_4, ob, m_len rfl (by omega) ha4, ob, d1, ob]
          try dsimp only
          rw [m_endOf (y := 1) (i := 1) (b := c) rfl rfl (by omega) ha5 rfl hb, ob]
          try dsimp only
          rw [k1, ob]
          exact go u6 [b, c] (parts_2 h2 hb) (by simp) (d2.tr k2) k3 k4
theorem m_looksT {told : Int32} {x1 : Int32} (hF : F ≤ 30) : ∀ m (u : sW) T, m ≤ F → (∀ f, f < F → hasL u f (φ f)) → u.1 46 38 = mI T.length → TS u 0 T → T.length + m ≤ 151 → ∃ u', R_X8_looksAll_17 (P.2.1 + 46) x1 told (mI m - 1) (hp P u ex n sl) = R_X8_looksAll_17 (P.2.1 + 46) x1 told (-1) (hp P u' ex n sl) ∧ Fr [71] [4638] u u' ∧ u'.1 46 38 = mI (((List.range m).filter (fun f => bt told f)).map φ ++ T).length ∧ TS u' 0 (((List.range m).filter (fun f => bt told f)).map φ ++ T) := by
  intro m
  induction m with
  | zero =>
    intro u T _ hl h38 hT _
    exact ⟨u, rfl, Fr.rf, h38, hT⟩
  | succ m ih =>
    intro u T hm hl h38 hT hlen
    have hlm := hl m (by omega)
    have h40 := hlm.2.1
    have e1 : mI (m + 1) - 1 = mI m := mI_sub (a := m + 1) (b := 1) (by omega)
    have e2 : mI m + (-1) = mI m - 1 := by rw [Int32.sub_eq_add_neg]
    rw [E_X8_looksAll_17, e1, if_neg (mI_0 (by omega))]
    by_cases hb : bt told m = true
    · obtain ⟨u1, a1, a2, a3, a4⟩ := m_adds (P := P) (ex := ex) (n := n) (sl := sl) (s := 0) (x1 := mI m) (x2 := 0) (i := 0) (x3 := mI (φ m).length) (x4 := -1) (t := none) (a := φ m) rfl rfl rfl rfl (by omega) hlm (Nat.zero_le _) (Nat.le_refl _) (fun v hv => by cases hv) (by rw [seg_all, ins_none]) h38 hT (by omega)
      obtain ⟨u2, b1, b2', b3, b4⟩ := ih u1 (φ m :: T) (by omega) (fun f hf => (hl f hf).fr a2 (by decide) (by decide)) a3 a4 (by simp; omega)
      have ee : ((List.range m).filter (fun f => bt told f)).map φ ++ (φ m :: T) = ((List.range (m + 1)).filter (fun f => bt told f)).map φ ++ T := by
        rw [List.range_succ]; simp [hb]
      rw [ee] at b3 b4
      refine ⟨u2, ?_, a2.tr b2', b3, b4⟩
      rw [if_pos (by rw [t32o (by omega)]; exact hb), q_46_4, ob, m_len rfl (by omega) hlm, ob, a1, ob, E_X8_looksAll_43, e2]
      exact b1
    · obtain ⟨u2, b1, b2', b3, b4⟩ := ih u T (by omega) hl h38 hT (by omega)
      have ee : ((List.range m).filter (fun f => bt told f)).map φ ++ T = ((List.range (m + 1)).filter (fun f => bt told f)).map φ ++ T := by
        rw [List.range_succ]; simp [hb]
      rw [ee] at b3 b4
      refine ⟨u2, ?_, b2', b3, b4⟩
      rw [if_neg (by rw [t32o (by omega)]; exact hb), E_X8_looksAll_43, e2]
      exact b1
/-- all that is looked at: the goal first -/
noncomputable def LA (D F : Nat) (φ : Nat → List Nat) (told : Int32) (f : Nat) : List (List Nat) := (φ f :: ((List.range F).filter (fun f => bt told f)).map φ).foldl (LK D) []
theorem m_looksAll {told x1 : Int32} {f : Nat} (hx : x1 = mI f) (hM : MW w D F L y φ) (hok : ∀ f, f < F → okF (φ f)) (hf : f < F) : ∃ u', F_X8_looksAll (P.2.1 + 46) x1 told (hp P w ex n sl) = some ((), hp P u' ex n sl) ∧ FK w u' ∧ LMo u' (LA D F φ told f) := by
  subst hx
  have hF := hM.2.2.1
  generalize hu1 : wI (wI w 46 33 0) 46 38 0 = u1
  have f1 : Fr [71] [4633, 4638] w u1 := by rw [← hu1]; exact (Fr.rf.pI (k := 46) (j := 33) (by decide)).pI (k := 46) (j := 38) (by decide)
  have hM1 := hM.fv' (FK.of f1).2
  obtain ⟨u2, a1, a2, a3, a4⟩ := m_looksT (P := P) (ex := ex) (n := n) (sl := sl) (told := told) (x1 := mI f) (φ := φ) hF F u1 [] (Nat.le_refl _) (fun f hf => (hM1.2.2.2.2.2.2.2.2.2 f hf).1) (by rw [← hu1]; exact wI_s) trivial (by simp; omega)
  rw [List.append_nil] at a3 a4
  have hlen : (((List.range F).filter (fun f => bt told f)).map φ).length ≤ 30 := by
    rw [List.length_map]
    have := List.length_filter_le (fun f => bt told f) (List.range F)
    rw [List.length_range] at this
    omega
  have fk2 : FK w u2 := (FK.of f1).tr (FK.of (a2.mo (by decide) (by decide)))
  have hM2 := hM.fv' fk2.2
  have hlf := (hM2.2.2.2.2.2.2.2.2.2 f hf).1
  obtain ⟨u3, b1, b2', b3, b4⟩ := m_adds (P := P) (ex := ex) (n := n) (sl := sl) (s := 0) (x1 := mI f) (x2 := 0) (i := 0) (x3 := mI (φ f).length) (x4 := -1) (t := none) (a := φ f) rfl rfl rfl rfl (by omega) hlf (Nat.zero_le _) (Nat.le_refl _) (fun v hv => by cases hv) (by rw [seg_all, ins_none]) a3 a4 (by omega)
  have h33 : u1.1 46 33 = mI 0 := by rw [← hu1, wI_j (by decide)]; exact wI_s
  have hL3 : LMo u3 [] := by
    refine ⟨?_, ⟨by simp, fun a h => (by cases h), List.nodup_nil⟩, fun i hi => absurd hi (Nat.not_lt_zero _)⟩
    rw [b2'.i (k := 46) (j := 33) (by decide), a2.i (k := 46) (j := 33) (by decide)]
    exact h33
  obtain ⟨u4, c1, c2, c3⟩ := m_run (P := P) (ex := ex) (n := n) (sl := sl) hM _ u3 [] _ (Nat.le_refl _) (by simp only [List.length_cons, List.length_nil]; omega) (fun a ha => by
    rcases List.mem_cons.mp ha with q | q
    · rw [q]; exact hok f hf
    · obtain ⟨g, hg, rfl⟩ := List.mem_map.mp q
      exact hok g (List.mem_range.mp (List.mem_filter.mp hg).1)) (fk2.tr (FK.of (b2'.mo (by decide) (by decide)))) hL3 b3 b4
  refine ⟨u4, ?_, c2, c3⟩
  rw [E_X8_looksAll, z_46, ob, E_X8_looksAll_0, p_46_33, ob, p_46_38, ob, hu1, m_formulasM hM1, ob]
  try dsimp only
  rw [a1, E_X8_looksAll_17, if_pos (by decide), q_46_4, ob, m_len rfl (by omega) hlf, ob, b1, ob]
  exact c1
end MRN
