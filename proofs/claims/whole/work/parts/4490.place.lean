/-! a thing in place of x; all and some; cutting the table -/
section PLc
variable {P : sP} {S0 e D : Nat}
/-- the state of Forms: all binders have their parts, but z, which has d of them -/
def FS (P : sP) (S0 e : Nat) (w : sW) (n sl U : Nat) (Dz : Nat → Nat) (nd : Nat → List Nat) : Prop := FT w U Dz nd ∧ HB w U ∧ AL P S0 w n sl e
def isB (l : List Nat) : Prop := ∃ r, l = 16 :: r ∨ l = 17 :: r
theorem SH_isB {U k : Nat} {nd : Nat → List Nat} {a b : Int32} {l : List Nat} (h : SH U nd k a b l) : isB l ↔ (k = 5 ∨ k = 6) := by
  rcases h with ⟨hk, p, t, e1, e2, e3, e4, e5, e6⟩ | ⟨hk, p, e1, e2, e3, e4⟩ | ⟨hk, p, q, e1, e2, e3, e4, e5⟩ | ⟨hk, p, e1, e2, e3, e4⟩
  · constructor
    · rintro ⟨r, z | z⟩ <;> rw [e6] at z <;> have := (List.cons.inj z).1 <;> have := (asg_ar e3 e4).2 <;> omega
    · omega
  · constructor
    · rintro ⟨r, z | z⟩ <;> rw [e4] at z <;> have := (List.cons.inj z).1 <;> omega
    · omega
  · constructor
    · rintro ⟨r, z | z⟩ <;> rw [e5] at z <;> have := (List.cons.inj z).1 <;> omega
    · omega
  · constructor
    · intro _; exact hk
    · intro _
      rcases hk with rfl | rfl
      · exact ⟨_, Or.inl e4⟩
      · exact ⟨_, Or.inr e4⟩
theorem FT_dz {w : sW} {U : Nat} {Dz Dz' : Nat → Nat} {nd : Nat → List Nat} (h : FT w U Dz nd) (hd : ∀ i, i < U → isB (nd i) → Dz' i = Dz i) : FT w U Dz' nd := by
  refine ⟨h.1, h.2.1, h.2.2.1, fun i hi => ?_, h.2.2.2.2⟩
  obtain ⟨⟨k, hk7, hk, hs⟩, h1, h2, h3⟩ := h.2.2.2.1 i hi
  refine ⟨⟨k, hk7, hk, hs⟩, h1, h2, fun hb => ?_⟩
  have : isB (nd i) := (SH_isB hs).mpr (by
    rcases hb with hb | hb
    · exact Or.inl ((mI_inj (by omega) (by decide)).mp (hk.symm.trans hb))
    · exact Or.inr ((mI_inj (by omega) (by decide)).mp (hk.symm.trans hb)))
  rw [hd i hi this]
  exact h3 hb
/-- what making something gives -/
def MKr (P : sP) (S0 e : Nat) (w : sW) (U : Nat) (Dz : Nat → Nat) (nd : Nat → List Nat) (o : Option (Int32 × sS)) (l : List Nat) (B : Nat) : Prop := ∃ i w' ex' n' sl' U' nd', o = some (mI i, hp P w' ex' n' sl') ∧ FS P S0 e w' n' sl' U' Dz nd' ∧ XT U Dz nd U' Dz nd' ∧ FrX fAr [100] w w' ∧ i < U' ∧ nd' i = l ∧ U' ≤ U + B
theorem c_makeN {w : sW} {ex : Nat → Option sC} {n sl U k : Nat} {Dz : Nat → Nat} {nd : Nat → List Nat} {a b : Int32} {l : List Nat} (hS0 : FS P S0 e w n sl U Dz nd) (hU : U ≤ 8000) (hS : SH U nd k a b l) (hk : k < 5) (hl : l.length ≤ 40) : MKr P S0 e w U Dz nd (F_X2_make (P.2.1 + 1) (mI k) a b (hp P w ex n sl)) l 1 := by
  obtain ⟨i, w', ex', n', sl', U', Dz', nd', e1, e2, e3, e4, e5, e6, e7, e8, e9⟩ := c_make (ex := ex) hS0.1 hS0.2.1 hS0.2.2 hU hS hl
  refine ⟨i, w', ex', n', sl', U', nd', e1, ⟨FT_dz e2 fun j hj hb => ?_, e3, e4⟩, ⟨e5.1, fun j hj => ⟨(e5.2 j hj).1, rfl⟩⟩, e6, e7, e8, by omega⟩
  by_cases g : j < U
  · exact (e5.2 j g).2.symm
  · exfalso
    have hj : j = i := by omega
    rw [hj, e8] at hb
    have := (SH_isB hS).mp hb
    omega
theorem ins_sp {u s : Nat} (h : 12 ≤ s) : ins (some u) s = s := by
  show (if s = 4 then 6 + u else if s = 5 then 9 + u else s) = s
  rw [if_neg (by omega), if_neg (by omega)]
theorem c_place {u : Nat} (hu : u < 3) : ∀ len (w : sW) (ex : Nat → Option sC) (n sl U : Nat) (Dz : Nat → Nat) (nd : Nat → List Nat) (i k d : Nat), FS P S0 e w n sl U Dz nd → U + (nd i).length ≤ 8000 → i < U → (nd i).length ≤ len → (∀ s ∈ nd i, s ≠ 16 ∧ s ≠ 17) → len ≤ k → d + len ≤ 49 → MKr P S0 e w U Dz nd (F_X2_place k (P.2.1 + 1) (mI i) (mI u) (mI d) (hp P w ex n sl)) ((nd i).map (ins (some u))) (nd i).length := by
  intro len
  induction len with
  | zero =>
    intro w ex n sl U Dz nd i k d hS _ hi hl
    have := wff_pos (FT_wff hS.1 i hi)
    omega
  | succ len ih =>
    intro w ex n sl U Dz nd i k d hS hUb hi hl hq hk hd
    cases k with
    | zero => omega
    | succ k =>
      have hF := hS.1
      have hU0 := hF.2.1
      have hr := hF.2.2.1
      have rd : ∀ {j : Nat}, j < 5 → s_ai (hp P w ex n sl) (w_fa P w + j) (mI i) = some (w.2.2.1 (j + 2) i) := fun hj => hp_rf hj (by omega) hr
      obtain ⟨⟨kk, hk7, hkk, hs⟩, h1, h2, h3⟩ := hF.2.2.2.1 i hi
      rw [E_X2_place, z_1, ob, E_X2_place_0, if_neg (mI_0 (by omega)), q_1_0, ob, hF.1, if_neg (show ¬ mI U ≤ mI i by rw [nle (by omega) (by omega)]; omega), if_pos (show mI d ≤ 48 by rw [nleL (by omega) (by decide)]; show d ≤ 48; omega), q_1_1, ob, rd (by decide), ob]
      have hkk' : w.2.2.1 (0 + 2) i = mI kk := hkk
      rw [hkk']
      have same : some (mI i, hp P w ex n sl) = some (mI i, hp P w ex n sl) → (nd i).map (ins (some u)) = nd i → MKr P S0 e w U Dz nd (some (mI i, hp P w ex n sl)) ((nd i).map (ins (some u))) (nd i).length := fun _ hm => ⟨i, w, ex, n, sl, U, nd, rfl, hS, XT.rf, FrX.rf, hi, hm.symm, by omega⟩
      rcases hs with ⟨rfl, a', t, e1, e2, e3, e4, e5, e6⟩ | ⟨rfl, a', e1, e2, e3, e4⟩ | ⟨hkc, a', b', e1, e2, e3, e4, e5⟩ | ⟨hkc, a', e1, e2, e3, e4⟩
      · have hlen : (nd i).length = 1 := by rw [e6]; rfl
        rw [if_pos (show mI 0 = 0 from rfl), q_1_3, ob, rd (by decide), ob]
        have e2' : w.2.2.1 (2 + 2) i = mI t := e2
        rw [e2']
        by_cases g : t = 3
        · rw [if_pos (by rw [neqL (by omega) (by decide)]; exact g), q_1_2, ob, rd (by decide), ob]
          have e1' : w.2.2.1 (1 + 2) i = mI a' := e1
          have ha4 : ¬ a' < 4 := fun z => by have := e5 z; omega
          rw [e1', E_X2_makeAtom, z_1, ob, E_X2_makeAtom_0]
          have hm : (nd i).map (ins (some u)) = [asg a' u] := by
            rw [e6, g]
            show [ins (some u) (asg a' 3)] = _
            refine congrArg (fun z => [z]) ?_
            rcases (show a' = 4 ∨ a' = 5 by omega) with rfl | rfl
            · show 6 + u = asg 4 u
              unfold asg
              rw [if_neg (by omega), if_pos rfl, if_neg (by omega)]
            · show 9 + u = asg 5 u
              unfold asg
              rw [if_neg (by omega), if_neg (by omega), if_neg (by omega)]
          obtain ⟨j, w', ex', n', sl', U', nd', m1, m2, m3, m4, m5, m6, m7⟩ := c_makeN (ex := ex) (k := 0) (a := mI a') (b := mI u) (l := [asg a' u]) hS (by omega) (Or.inl ⟨rfl, a', u, rfl, rfl, e3, by omega, fun z => absurd z ha4, rfl⟩) (by decide) (by simp)
          rw [show (0 : Int32) = mI 0 from rfl, m1, ob, ob]
          exact ⟨j, w', ex', n', sl', U', nd', rfl, m2, m3, m4, m5, by rw [hm]; exact m6, by omega⟩
        · rw [if_neg (by rw [neqL (by omega) (by decide)]; exact g)]
          refine same rfl ?_
          rw [e6]
          show [ins (some u) (asg a' t)] = _
          refine congrArg (fun z => [z]) ?_
          show (if asg a' t = 4 then 6 + u else if asg a' t = 5 then 9 + u else asg a' t) = asg a' t
          have : asg a' t ≠ 4 ∧ asg a' t ≠ 5 := by
            unfold asg
            split
            · omega
            · split
              · first
                  | omega
                  | (rw [if_neg g]; omega)
              · first
                  | omega
                  | (rw [if_neg g]; omega)
          rw [if_neg this.1, if_neg this.2]
      · have e2' : w.2.2.1 (1 + 2) i = mI a' := e2
        have hlen : (nd i).length = (nd a').length + 1 := by rw [e4]; rfl
        rw [e4] at hq hl h2
        rw [if_neg (by decide), if_pos (show mI 1 = 1 from rfl), q_1_2, ob, rd (by decide), ob, e2', naddL]
        simp only [List.length_cons] at hl h2
        obtain ⟨j, w', ex', n', sl', U', nd', m1, m2, m3, m4, m5, m6, m7⟩ := ih w ex n sl U Dz nd a' k (d + 1) hS (by omega) (by omega) (by omega) (fun s hs => hq s (List.mem_cons_of_mem _ hs)) (by omega) (by omega)
        rw [m1, ob]
        obtain ⟨j2, w2, ex2, n2, sl2, U2, nd2, r1, r2, r3, r4, r5, r6, r7⟩ := c_makeN (ex := ex') (k := 1) (a := mI j) (b := -1) (l := 12 :: nd' j) m2 (by omega) (Or.inr (Or.inl ⟨rfl, j, m5, rfl, rfl, rfl⟩)) (by decide) (by rw [m6, List.length_cons, List.length_map]; omega)
        rw [show (1 : Int32) = mI 1 from rfl] 
        try dsimp only
        refine ⟨j2, w2, ex2, n2, sl2, U2, nd2, ?_, r2, m3.tr r3, m4.tr r4, r5, ?_, by omega⟩
        · rw [show -mI 1 = (-1 : Int32) from rfl, r1, ob]
        · rw [r6, m6, e4, List.map_cons, ins_sp (by decide)]
      · have e3' : w.2.2.1 (1 + 2) i = mI a' := e3
        have hlen : (nd i).length = (nd a').length + (nd b').length + 1 := by rw [e5, List.length_cons, List.length_append]
        have hwa := FT_wff hF a' (by omega)
        have hwb := FT_wff hF b' (by omega)
        have pa := wff_pos hwa
        have pb := wff_pos hwb
        rw [e5] at hq hl h2
        simp only [List.length_cons, List.length_append] at hl h2
        have go : (if mI kk = 0 then ((s_fr (hp P w ex n sl) (P.2.1 + 1) 2 3).bind fun x4 => (s_ai (hp P w ex n sl) x4 (mI i)).bind fun x5 => if x5 = 3 then ((s_fr (hp P w ex n sl) (P.2.1 + 1) 2 2).bind fun x6 => (s_ai (hp P w ex n sl) x6 (mI i)).bind fun x7 => (F_X2_makeAtom (P.2.1 + 1) x7 (mI u) (hp P w ex n sl)).bind fun q8 => some (q8.1, q8.2)) else some (mI i, hp P w ex n sl)) else if mI kk = 1 then ((s_fr (hp P w ex n sl) (P.2.1 + 1) 2 2).bind fun x9 => (s_ai (hp P w ex n sl) x9 (mI i)).bind fun x10 => (F_X2_place k (P.2.1 + 1) x10 (mI u) (mI d + 1) (hp P w ex n sl)).bind fun q11 => (F_X2_make (P.2.1 + 1) 1 q11.1 (-1) q11.2).bind fun q12 => some (q12.1, q12.2)) else if mI kk = 2 then R_X2_place_107 k (P.2.1 + 1) (mI i) (mI u) (mI d) (hp P w ex n sl) else if mI kk = 3 then R_X2_place_107 k (P.2.1 + 1) (mI i) (mI u) (mI d) (hp P w ex n sl) else if mI kk = 4 then R_X2_place_107 k (P.2.1 + 1) (mI i) (mI u) (mI d) (hp P w ex n sl) else some (mI i, hp P w ex n sl)) = R_X2_place_107 k (P.2.1 + 1) (mI i) (mI u) (mI d) (hp P w ex n sl) := by
          rcases hkc with rfl | rfl | rfl
          · rw [if_neg (by decide), if_neg (by decide), if_pos (by decide)]
          · rw [if_neg (by decide), if_neg (by decide), if_neg (by decide), if_pos (by decide)]
          · rw [if_neg (by decide), if_neg (by decide), if_neg (by decide), if_neg (by decide), if_pos (by decide)]
        rw [go, E_X2_place_107, q_1_2, ob, rd (by decide), ob, e3', naddL]
        obtain ⟨j, w', ex', n', sl', U', nd', m1, m2, m3, m4, m5, m6, m7⟩ := ih w ex n sl U Dz nd a' k (d + 1) hS (by omega) (by omega) (by omega) (fun s hs => hq s (List.mem_cons_of_mem _ (List.mem_append_left _ hs))) (by omega) (by omega)
        rw [m1, ob, q_1_3, ob]
        have hF' := m2.1
        obtain ⟨⟨kk', hk7', hkk2, hs'⟩, -⟩ := hF'.2.2.2.1 i (Nat.lt_of_lt_of_le hi m3.1)
        have eqi : nd' i = nd i := (m3.2 i hi).1
        have fl := SH_inj (FT_wff hF') hF'.2.2.2.2 (SH_mono hs' (Nat.le_of_lt (Nat.lt_of_lt_of_le hi m3.1)) fun _ _ => rfl) (SH_mono (nd' := nd') (show SH U nd kk (w.2.2.1 3 i) (w.2.2.1 4 i) (nd' i) by rw [eqi]; exact Or.inr (Or.inr (Or.inl ⟨hkc, a', b', by omega, by omega, e3, e4, e5⟩))) m3.1 fun x hx => (m3.2 x hx).1)
        have rd' : ∀ {j : Nat}, j < 5 → s_ai (hp P w' ex' n' sl') (w_fa P w' + j) (mI i) = some (w'.2.2.1 (j + 2) i) := fun hj => hp_rf hj (by have := hF'.2.1; have := m3.1; omega) hF'.2.2.1
        have f4 : w'.2.2.1 (2 + 2) i = mI b' := by rw [← e4]; exact fl.2.2
        rw [rd' (by decide), ob, f4]
        try dsimp only
        have eqb : nd' b' = nd b' := (m3.2 b' (by omega)).1
        obtain ⟨j2, w2, ex2, n2, sl2, U2, nd2, r1, r2, r3, r4, r5, r6, r7⟩ := ih w' ex' n' sl' U' Dz nd' b' k (d + 1) m2 (by rw [eqb]; omega) (by have := m3.1; omega) (by rw [eqb]; omega) (by rw [eqb]; exact fun s hs => hq s (List.mem_cons_of_mem _ (List.mem_append_right _ hs))) (by omega) (by omega)
        rw [eqb] at r7
        rw [r1, ob, q_1_1, ob]
        have hF2 := r2.1
        have hi2 : i < U2 := Nat.lt_of_lt_of_le hi (Nat.le_trans m3.1 r3.1)
        obtain ⟨⟨kk3, hk73, hkk3, hs3⟩, -⟩ := hF2.2.2.2.1 i hi2
        have m3r := m3.tr r3
        have eqi2 : nd2 i = nd i := (m3r.2 i hi).1
        have fl2 := SH_inj (FT_wff hF2) hF2.2.2.2.2 (SH_mono hs3 (Nat.le_of_lt hi2) fun _ _ => rfl) (SH_mono (nd' := nd2) (show SH U nd kk (w.2.2.1 3 i) (w.2.2.1 4 i) (nd2 i) by rw [eqi2]; exact Or.inr (Or.inr (Or.inl ⟨hkc, a', b', by omega, by omega, e3, e4, e5⟩))) m3r.1 fun x hx => (m3r.2 x hx).1)
        have rd2 : s_ai (hp P w2 ex2 n2 sl2) (w_fa P w2 + 0) (mI i) = some (w2.2.2.1 (0 + 2) i) := hp_rf (by decide) (by have := hF2.2.1; omega) hF2.2.2.1
        have f2 : w2.2.2.1 (0 + 2) i = mI kk := by rw [← fl2.1]; exact hkk3
        rw [rd2, ob, f2]
        try dsimp only
        have ej : nd2 j = nd' j := (r3.2 j m5).1
        obtain ⟨j4, w4, ex4, n4, sl4, U4, nd4, t1, t2, t3, t4, t5, t6, t7⟩ := c_makeN (ex := ex2) (k := kk) (a := mI j) (b := mI j2) (l := (11 + kk) :: (nd2 j ++ nd2 j2)) r2 (by omega) (Or.inr (Or.inr (Or.inl ⟨hkc, j, j2, Nat.lt_of_lt_of_le m5 r3.1, r5, rfl, rfl, rfl⟩))) (by omega) (by rw [r6, ej, m6, List.length_cons, List.length_append, List.length_map, List.length_map, eqb]; omega)
        refine ⟨j4, w4, ex4, n4, sl4, U4, nd4, ?_, t2, m3r.tr t3, (m4.tr r4).tr t4, t5, ?_, by omega⟩
        · rw [t1, ob]
        · rw [t6, r6, ej, m6, eqb, e5, List.map_cons, List.map_append, ins_sp (by omega)]
      · exfalso
        have := hq (11 + kk) (by rw [e4]; exact List.mem_cons_self)
        omega
end PLc
