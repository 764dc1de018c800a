/-! a node is found, or made -/
section MKN
variable {P : sP} {w : sW} {ex : Nat → Option sC} {n sl U : Nat} {Dz : Nat → Nat} {nd : Nat → List Nat}
theorem hp_wf {i k : Nat} {v : Int32} (hi : i < 6) (hk : k < (if i = 5 then 3 * w.2.2.2.2.1 else w.2.2.2.2.1)) (hr : w.2.2.2.2.1 ≤ 2 ^ 17) : s_si (hp P w ex n sl) (w_fa P w + i) (mI k) v = some (hp P (wA w (i + 2) k v) ex n sl) := by
  have hb : (if i = 5 then 3 * w.2.2.2.2.1 else w.2.2.2.2.1) ≤ 2 ^ 31 := by split <;> omega
  have hok := w_fa_ok (P := P) (w := w)
  unfold s_si
  rw [hp_fa hi]
  unfold w_fc
  dsimp only
  rw [if_pos ⟨rfl, mI_out hk hb⟩, mI_nat (by omega)]
  refine congrArg some ?_
  unfold s_up hp
  refine Prod.ext (funext fun a => ?_) rfl
  dsimp only
  have hfa : w_fa P (wA w (i + 2) k v) = w_fa P w := rfl
  rw [hfa]
  by_cases ea : a = w_fa P w + i
  · rw [if_pos ea, ea, if_neg (show ¬ w_fa P w + i < P.2.1 by omega), if_pos (show w_fa P w ≤ w_fa P w + i ∧ w_fa P w + i < w_fa P w + 6 by omega), Nat.add_sub_cancel_left]
    unfold w_fc
    dsimp only
    rw [up2_v]
    rfl
  · rw [if_neg ea]
    split
    · rfl
    · split
      · rename_i g
        unfold w_fc
        dsimp only
        rw [up2_k (show a - w_fa P w + 2 ≠ i + 2 by omega)]
      · split
        · rfl
        · rename_i g1 g2 g3
          refine (w_cl_ext (w := w) (w' := wA w (i + 2) k v) rfl (fun _ => rfl) (fun _ => rfl) (up2_k ?_) rfl).symm
          omega
theorem hp_rf {i k : Nat} (hi : i < 5) (hk : k < w.2.2.2.2.1) (hr : w.2.2.2.2.1 ≤ 2 ^ 17) : s_ai (hp P w ex n sl) (w_fa P w + i) (mI k) = some (w.2.2.1 (i + 2) k) := by
  rw [hp_af (by omega) (by rw [if_neg (by omega)]; exact mI_out hk (by omega)), mI_nat (by omega)]
theorem f_isMade {i : Nat} {k a b : Int32} (hF : FT w U Dz nd) (hi : i < U) : F_X2_isMade (P.2.1 + 1) (mI i) k a b (hp P w ex n sl) = some (b2 (w.2.2.1 2 i = k ∧ w.2.2.1 3 i = a ∧ w.2.2.1 4 i = b), hp P w ex n sl) := by
  have h1 := hF.2.1
  have h2 := hF.2.2.1
  have g : ¬ mI U ≤ mI i := by rw [mI_le (by omega) (by omega)]; omega
  simp only [E_X2_isMade, E_X2_isMade_0, z_1, q_1_0, q_1_1, q_1_2, q_1_3, ob, hF.1, mI_0 (show i < 2 ^ 31 by omega), g, if_false, hp_rf (i := 0) (by decide) (show i < w.2.2.2.2.1 by omega) h2, hp_rf (i := 1) (by decide) (show i < w.2.2.2.2.1 by omega) h2, hp_rf (i := 2) (by decide) (show i < w.2.2.2.2.1 by omega) h2]
  by_cases g1 : w.2.2.1 2 i = k
  · by_cases g2 : w.2.2.1 3 i = a
    · by_cases g3 : w.2.2.1 4 i = b
      · rw [if_pos g1, if_pos g2, if_pos g3, b2_t ⟨g1, g2, g3⟩]
      · rw [if_pos g1, if_pos g2, if_neg g3, b2_f (fun z => g3 z.2.2)]
    · rw [if_pos g1, if_neg g2, b2_f (fun z => g2 z.2.1)]
  · rw [if_neg g1, b2_f (fun z => g1 z.1)]
theorem mk_find {k h : Nat} {a b : Int32} {l : List Nat} (hF : FT w U Dz nd) (hB : HB w U) (hS : SH U nd k a b l) (hh : hsh (mI k) a b = mI h) : ∀ m v6, m ≤ U → v6 + m ≤ U → (∀ i, m ≤ i → i < U → nd i ≠ l) →
    ((∀ i, i < U → nd i ≠ l) ∧ R_X2_make_28 (P.2.1 + 1) (mI k) a b (mI h) (topI (Hs w) (mI h) m) (mI v6) (hp P w ex n sl) = R_X2_make_81 (P.2.1 + 1) (mI k) a b (mI h) (hp P w ex n sl)) ∨ ∃ j, j < U ∧ nd j = l ∧ R_X2_make_28 (P.2.1 + 1) (mI k) a b (mI h) (topI (Hs w) (mI h) m) (mI v6) (hp P w ex n sl) = some (mI j, hp P w ex n sl) := by
  have hU : U ≤ 2 ^ 17 := Nat.le_trans hF.2.1 hF.2.2.1
  have noH : ∀ i, i < U → Hs w i ≠ mI h → nd i ≠ l := fun i hi hne e => by
    have := (FT_made hF hi hS).mpr e
    apply hne
    unfold Hs
    rw [this.1, this.2.1, this.2.2, hh]
  intro m
  induction m using Nat.strongRecOn with
  | _ m ih =>
    intro v6 hm hv hno
    rcases topI_cases (Hs w) (mI h) m with ⟨t1, t2⟩ | ⟨j, t1, t2, t3, t4⟩
    · refine Or.inl ⟨fun i hi => ?_, ?_⟩
      · by_cases g : m ≤ i
        · exact hno i g hi
        · exact noH i hi (t2 i (by omega))
      · rw [E_X2_make_28, q_1_0, ob, hF.1, t1]
        by_cases g : mI U ≤ mI v6
        · rw [if_pos g]
        · rw [if_neg g, if_pos (by decide)]
    · have fm := FT_made hF (show j < U by omega) hS
      have start : R_X2_make_28 (P.2.1 + 1) (mI k) a b (mI h) (topI (Hs w) (mI h) m) (mI v6) (hp P w ex n sl) = (if b2 (w.2.2.1 2 j = mI k ∧ w.2.2.1 3 j = a ∧ w.2.2.1 4 j = b) = 0 then R_X2_make_28 (P.2.1 + 1) (mI k) a b (mI h) (topI (Hs w) (mI h) j) (mI (v6 + 1)) (hp P w ex n sl) else some (mI j, hp P w ex n sl)) := by
        rw [E_X2_make_28, q_1_0, ob, hF.1, t2, if_neg (by rw [nle (by omega) (by omega)]; omega), if_neg (mI_0 (by omega)), ob, if_neg (by rw [nle (by omega) (by omega)]; omega), f_isMade hF (by omega), ob]
        try dsimp only
        rw [q_1_5, ob, hp_rf (i := 4) (by decide) (by have := hF.2.1; omega) hF.2.2.1, ob, naddL]
        have e6 : w.2.2.1 (4 + 2) j = topI (Hs w) (mI h) j := by rw [← t3]; exact hB.2 j (by omega)
        rw [e6]
      rw [start]
      by_cases g : w.2.2.1 2 j = mI k ∧ w.2.2.1 3 j = a ∧ w.2.2.1 4 j = b
      · rw [if_neg (fun z => b2_0.mp z g)]
        exact Or.inr ⟨j, by omega, fm.mp g, rfl⟩
      · rw [if_pos (b2_0.mpr g)]
        refine ih j (by omega) (v6 + 1) (by omega) (by omega) fun i h1 h2 => ?_
        by_cases e : i = j
        · subst e; exact fun z => g (fm.mpr z)
        · by_cases g2 : m ≤ i
          · exact hno i g2 h2
          · exact noH i h2 (t4 i (by omega) (by omega))
def mkW (w : sW) (U k : Nat) (a b : Int32) (h s : Nat) : sW := wI (wA (wA (wA (wA (wA (wA (wA (wA (wA w 2 U (mI k)) 3 U a) 4 U b) 5 U (mI s)) 6 U (w.2.2.1 8 h)) 8 h (mI U)) 7 (U * 3 + 0) (-1)) 7 (U * 3 + 1) (-1)) 7 (U * 3 + 2) (-1)) 1 0 (mI (U + 1))
theorem f_signs {x : Int32} {v : Int32} (hu : w.1 1 0 = mI U) (h1 : U ≤ w.2.2.2.2.1) (h2 : w.2.2.2.2.1 ≤ 2 ^ 17) (h : (∃ i, i < U ∧ x = mI i ∧ v = w.2.2.1 5 i) ∨ (x = -1 ∧ v = 0)) : F_X2_signsOf (P.2.1 + 1) x (hp P w ex n sl) = some (v, hp P w ex n sl) := by
  rw [E_X2_signsOf, z_1, ob, E_X2_signsOf_0]
  rcases h with ⟨i, hi, rfl, rfl⟩ | ⟨rfl, rfl⟩
  · rw [if_neg (mI_0 (by omega)), q_1_0, ob, hu, if_neg (by rw [nle (by omega) (by omega)]; omega), q_1_4, ob, hp_rf (i := 3) (by decide) (by omega) h2, ob]
  · rw [if_pos (by decide)]
theorem mk_81 {k h : Nat} {a b : Int32} {l : List Nat} {w0 : sW} {ex0 : Nat → Option sC} {n0 sl0 : Nat} (hg : F_X2_hasRoom (P.2.1 + 1) (hp P w0 ex0 n0 sl0) = some (1, hp P w ex n sl)) (hF : FT w U Dz nd) (hlt : U < w.2.2.2.2.1) (hh : h < 128) (hS : SH U nd k a b l) : R_X2_make_81 (P.2.1 + 1) (mI k) a b (mI h) (hp P w0 ex0 n0 sl0) = some (mI U, hp P (mkW w U k a b h l.length) ex n sl) := by
  have h2 := hF.2.2.1
  have hk7 := SH_lt hS
  have w2 : ∀ {u : sW} {ex : Nat → Option sC} {n sl : Nat} {v : Int32}, u.2.2.2.2 = w.2.2.2.2 → ∀ i, i < 5 → s_si (hp P u ex n sl) (w_fa P u + i) (mI U) v = some (hp P (wA u (i + 2) U v) ex n sl) := fun hu i hi => hp_wf (by omega) (by rw [if_neg (by omega), hu]; exact hlt) (by rw [hu]; exact h2)
  have fin : ∀ s : Nat, R_X2_make_147 (P.2.1 + 1) (mI h) (mI U) (mI s) (mI U) (w_fa P w + 3) (hp P (wA (wA (wA w 2 U (mI k)) 3 U a) 4 U b) ex n sl) = some (mI U, hp P (mkW w U k a b h s) ex n sl) := by
    intro s
    have l7 : ∀ {u : sW} {ex : Nat → Option sC} {n sl : Nat}, u.2.2.2.2 = w.2.2.2.2 → ∀ t, t < 3 → s_si (hp P u ex n sl) (w_fa P u + 5) (mI (U * 3 + t)) (-1) = some (hp P (wA u 7 (U * 3 + t) (-1)) ex n sl) := fun hu t ht => hp_wf (i := 5) (by decide) (by rw [if_pos rfl, hu]; omega) (by rw [hu]; exact h2)
    rw [E_X2_make_147]
    have e1 := w2 (u := wA (wA (wA w 2 U (mI k)) 3 U a) 4 U b) (ex := ex) (n := n) (sl := sl) (v := mI s) rfl 3 (by decide)
    refine Eq.trans (congrArg (fun o => Option.bind o _) e1) ?_
    rw [ob, q_1_5, ob, q_1_7, ob, ra_8 hh, ob]
    have e2 := w2 (u := wA (wA (wA (wA w 2 U (mI k)) 3 U a) 4 U b) 5 U (mI s)) (ex := ex) (n := n) (sl := sl) (v := w.2.2.1 8 h) rfl 4 (by decide)
    refine Eq.trans (congrArg (fun o => Option.bind o _) e2) ?_
    rw [ob, q_1_7, ob, wa_8 hh, ob]
    have st : ∀ (u : sW) (t : Nat), u.2.2.2.2 = w.2.2.2.2 → t < 3 → R_X2_make_174 (P.2.1 + 1) (mI U) (mI t) (hp P u ex n sl) = R_X2_make_174 (P.2.1 + 1) (mI U) (mI (t + 1)) (hp P (wA u 7 (U * 3 + t) (-1)) ex n sl) := by
      intro u t hu ht
      rw [E_X2_make_174, if_neg (by rw [nleR (by omega) (by decide)]; exact Nat.not_le.mpr ht), q_1_6, ob, nmulL, nadd, l7 hu t ht, ob, naddL]
    refine Eq.trans (st _ 0 rfl (by decide)) (Eq.trans (st _ 1 rfl (by decide)) (Eq.trans (st _ 2 rfl (by decide)) ?_))
    rw [E_X2_make_174, if_pos (by decide), q_1_0, ob, p_1_0, ob]
    have eu : mI U + 1 = mI (U + 1) := naddL
    refine congrArg (fun z => some (mI U, hp P z ex n sl)) ?_
    show wI _ 1 0 (w.1 1 0 + 1) = _
    rw [hF.1, eu]
    rfl
  rw [E_X2_make_81, hg, ob]
  dsimp only
  rw [if_neg (show ¬ (1 : Int32) = 0 by decide), q_1_0, ob, hF.1, q_1_1, ob]
  have e1 := w2 (u := w) (ex := ex) (n := n) (sl := sl) (v := mI k) rfl 0 (by decide)
  refine Eq.trans (congrArg (fun o => Option.bind o _) e1) ?_
  rw [ob, q_1_2, ob]
  have e2 := w2 (u := wA w 2 U (mI k)) (ex := ex) (n := n) (sl := sl) (v := a) rfl 1 (by decide)
  refine Eq.trans (congrArg (fun o => Option.bind o _) e2) ?_
  rw [ob, q_1_3, ob]
  have e3 := w2 (u := wA (wA w 2 U (mI k)) 3 U a) (ex := ex) (n := n) (sl := sl) (v := b) rfl 2 (by decide)
  refine Eq.trans (congrArg (fun o => Option.bind o _) e3) ?_
  rw [ob, q_1_4, ob]
  have h5 : ∀ i, i < U → (wA (wA (wA w 2 U (mI k)) 3 U a) 4 U b).2.2.1 5 i = mI (nd i).length := fun i hi => by
    show up2 (up2 (up2 w.2.2.1 2 U (mI k)) 3 U a) 4 U b 5 i = _
    rw [up2_k (by decide), up2_k (by decide), up2_k (by decide)]
    exact (hF.2.2.2.1 i hi).2.1
  have sg := fun (x v : Int32) h => f_signs (P := P) (w := wA (wA (wA w 2 U (mI k)) 3 U a) 4 U b) (ex := ex) (n := n) (sl := sl) (U := U) (x := x) (v := v) hF.1 hF.2.1 h2 h
  rcases hS with ⟨rfl, a', t, e4, e5, e6, e7, e8, rfl⟩ | ⟨rfl, a', e4, rfl, rfl, rfl⟩ | ⟨hk, a', b', e4, e5, rfl, rfl, rfl⟩ | ⟨hk, a', e4, rfl, rfl, rfl⟩
  · rw [if_pos (show mI 0 = 0 from rfl)]
    exact fin 1
  · rw [if_neg (by decide), sg (mI a') (mI (nd a').length) (Or.inl ⟨a', e4, rfl, (h5 a' e4).symm⟩), ob, sg (-1) 0 (Or.inr ⟨rfl, rfl⟩), ob]
    try dsimp only
    rw [naddR, Int32.add_zero]
    refine Eq.trans (fin (1 + (nd a').length)) ?_
    rw [List.length_cons, Nat.add_comm]
  · rw [if_neg (by rw [neqL (by omega) (by decide)]; show ¬ k = 0; omega), sg (mI a') (mI (nd a').length) (Or.inl ⟨a', e4, rfl, (h5 a' e4).symm⟩), ob, sg (mI b') (mI (nd b').length) (Or.inl ⟨b', e5, rfl, (h5 b' e5).symm⟩), ob]
    try dsimp only
    rw [naddR, nadd]
    refine Eq.trans (fin (1 + (nd a').length + (nd b').length)) ?_
    rw [List.length_cons, List.length_append]
    rw [show 1 + (nd a').length + (nd b').length = (nd a').length + (nd b').length + 1 by omega]
  · rw [if_neg (by rw [neqL (by omega) (by decide)]; show ¬ k = 0; omega), sg (mI a') (mI (nd a').length) (Or.inl ⟨a', e4, rfl, (h5 a' e4).symm⟩), ob, sg (-1) 0 (Or.inr ⟨rfl, rfl⟩), ob]
    try dsimp only
    rw [naddR, Int32.add_zero]
    refine Eq.trans (fin (1 + (nd a').length)) ?_
    rw [List.length_cons, Nat.add_comm]
def ndU (nd : Nat → List Nat) (U : Nat) (l : List Nat) : Nat → List Nat := fun i => if i = U then l else nd i
def dzU (Dz : Nat → Nat) (U d : Nat) : Nat → Nat := fun i => if i = U then d else Dz i
theorem mkW_FT {k h : Nat} {a b : Int32} {l : List Nat} (hF : FT w U Dz nd) (hB : HB w U) (hlt : U < w.2.2.2.2.1) (hS : SH U nd k a b l) (hh : hsh (mI k) a b = mI h) (hh8 : h < 128) (hl : l.length ≤ 40) (hno : ∀ i, i < U → nd i ≠ l) : FT (mkW w U k a b h l.length) (U + 1) (dzU Dz U 0) (ndU nd U l) ∧ HB (mkW w U k a b h l.length) (U + 1) := by
  have hk7 := SH_lt hS
  have hU : U ≤ 2 ^ 17 := Nat.le_trans hF.2.1 hF.2.2.1
  generalize hw' : mkW w U k a b h l.length = w'
  have r2 : ∀ i, w'.2.2.1 2 i = if i = U then mI k else w.2.2.1 2 i := fun i => by rw [← hw']; simp [mkW, up2]
  have r3 : ∀ i, w'.2.2.1 3 i = if i = U then a else w.2.2.1 3 i := fun i => by rw [← hw']; simp [mkW, up2]
  have r4 : ∀ i, w'.2.2.1 4 i = if i = U then b else w.2.2.1 4 i := fun i => by rw [← hw']; simp [mkW, up2]
  have r5 : ∀ i, w'.2.2.1 5 i = if i = U then mI l.length else w.2.2.1 5 i := fun i => by rw [← hw']; simp [mkW, up2]
  have r6 : ∀ i, w'.2.2.1 6 i = if i = U then w.2.2.1 8 h else w.2.2.1 6 i := fun i => by rw [← hw']; simp [mkW, up2]
  have r8 : ∀ i, w'.2.2.1 8 i = if i = h then mI U else w.2.2.1 8 i := fun i => by rw [← hw']; simp [mkW, up2]
  have r7 : ∀ i, i < U * 3 → w'.2.2.1 7 i = w.2.2.1 7 i := fun i hi => by
    rw [← hw']
    show up2 (up2 (up2 (up2 (up2 (up2 (up2 (up2 (up2 w.2.2.1 2 U (mI k)) 3 U a) 4 U b) 5 U (mI l.length)) 6 U (w.2.2.1 8 h)) 8 h (mI U)) 7 (U * 3 + 0) (-1)) 7 (U * 3 + 1) (-1)) 7 (U * 3 + 2) (-1) 7 i = _
    rw [up2_j (by omega), up2_j (by omega), up2_j (by omega), up2_k (by decide), up2_k (by decide), up2_k (by decide), up2_k (by decide), up2_k (by decide), up2_k (by decide)]
  have r7U : ∀ t, t < 3 → w'.2.2.1 7 (U * 3 + t) = -1 := fun t ht => by
    rw [← hw']
    show up2 (up2 (up2 _ 7 (U * 3 + 0) (-1)) 7 (U * 3 + 1) (-1)) 7 (U * 3 + 2) (-1) 7 (U * 3 + t) = _
    unfold up2
    rcases (show t = 0 ∨ t = 1 ∨ t = 2 by omega) with rfl | rfl | rfl <;> simp
  have ru : w'.1 1 0 = mI (U + 1) := by rw [← hw']; show up2 w.1 1 0 (mI (U + 1)) 1 0 = _; rw [up2_s]
  have rr : w'.2.2.2.2 = w.2.2.2.2 := by rw [← hw']; rfl
  have nlt : ∀ i, i < U → ndU nd U l i = nd i := fun i hi => if_neg (by omega)
  have nU : ndU nd U l U = l := if_pos rfl
  constructor
  · refine ⟨ru, by rw [rr]; omega, by rw [rr]; exact hF.2.2.1, fun i hi => ?_, fun i j hi hj e => ?_⟩
    · by_cases ei : i = U
      · subst ei
        rw [r2, r3, r4, r5, nU, if_pos rfl, if_pos rfl, if_pos rfl, if_pos rfl]
        refine ⟨⟨k, hk7, rfl, SH_mono hS (Nat.le_refl _) nlt⟩, rfl, hl, fun hb a' ha' e t ht => ⟨fun z => ?_, fun _ => r7U t ht⟩⟩
        have : dzU Dz i 0 i = 0 := if_pos rfl
        rw [this] at z
        omega
      · have hi' : i < U := by omega
        obtain ⟨⟨k', h1, h2, h3⟩, h4, h5, h6⟩ := hF.2.2.2.1 i hi'
        rw [r2, r3, r4, r5, nlt i hi', if_neg ei, if_neg ei, if_neg ei, if_neg ei]
        refine ⟨⟨k', h1, h2, SH_mono h3 (Nat.le_refl _) fun j hj => nlt j (by omega)⟩, h4, h5, ?_⟩
        unfold PL
        rw [r2, r3, if_neg ei, if_neg ei]
        intro hb a' ha' e t ht
        have := h6 hb a' ha' e t ht
        have hd : dzU Dz U 0 i = Dz i := if_neg ei
        rw [hd, r7 _ (by omega), nlt a' (by omega)]
        refine ⟨fun z => ?_, this.2⟩
        obtain ⟨q, q1, q2, q3⟩ := this.1 z
        exact ⟨q, by omega, q2, by rw [nlt q q1]; exact q3⟩
    · by_cases ei : i = U
      · by_cases ej : j = U
        · omega
        · rw [ei, nU, nlt j (by omega)] at e
          exact absurd e.symm (hno j (by omega))
      · by_cases ej : j = U
        · rw [ej, nU, nlt i (by omega)] at e
          exact absurd e (hno i (by omega))
        · rw [nlt i (by omega), nlt j (by omega)] at e
          exact hF.2.2.2.2 i j (by omega) (by omega) e
  · have hs : ∀ i, i < U → Hs w' i = Hs w i := fun i hi => by unfold Hs; rw [r2, r3, r4, if_neg (by omega), if_neg (by omega), if_neg (by omega)]
    have hsU : Hs w' U = mI h := by unfold Hs; rw [r2, r3, r4, if_pos rfl, if_pos rfl, if_pos rfl, hh]
    refine ⟨fun b' hb' => ?_, fun i hi => ?_⟩
    · show _ = if Hs w' U = mI b' then mI U else topI (Hs w') (mI b') U
      rw [r8, hsU]
      by_cases e : b' = h
      · rw [if_pos e, if_pos (by rw [e])]
      · rw [if_neg e, if_neg (by rw [neq (by omega) (by omega)]; exact fun z => e z.symm), topI_congr hs]
        exact hB.1 b' hb'
    · rw [r6]
      by_cases ei : i = U
      · subst ei
        rw [if_pos rfl, hsU, topI_congr hs]
        exact hB.1 h hh8
      · rw [if_neg ei, hs i (by omega), topI_congr fun j hj => hs j (by omega)]
        exact hB.2 i (by omega)
theorem gW_FT (hF : FT w U Dz nd) (hB : HB w U) (hr : w.2.2.2.2.1 = U) (hU : U ≤ 60000) : FT (gW P w n U) U Dz nd ∧ HB (gW P w n U) U := by
  have ra : ∀ k i, 2 ≤ k → k < 7 → i < U → (gW P w n U).2.2.1 k i = w.2.2.1 k i := fun k i h1 h2 hi => by
    show (if 2 ≤ k ∧ k < 8 then gA w U (k - 2) else w.2.2.1 k) i = _
    rw [if_pos (by omega)]
    unfold gA va_cpy gO
    rw [if_neg (show ¬ k - 2 = 5 by omega), if_pos (by omega), show k - 2 + 2 = k by omega]
    show w.2.2.1 k (0 + (i - 0)) = _
    rw [Nat.zero_add, Nat.sub_zero]
  have r7 : ∀ i, i < U * 3 → (gW P w n U).2.2.1 7 i = w.2.2.1 7 i := fun i hi => by
    show (if 2 ≤ 7 ∧ 7 < 8 then gA w U (7 - 2) else w.2.2.1 7) i = _
    rw [if_pos (by omega)]
    unfold gA va_cpy gO
    rw [if_pos rfl, if_pos (by omega)]
    show w.2.2.1 7 (0 + (i - 0)) = _
    rw [Nat.zero_add, Nat.sub_zero]
  have r8 : (gW P w n U).2.2.1 8 = w.2.2.1 8 := by show (if 2 ≤ 8 ∧ 8 < 8 then gA w U (8 - 2) else w.2.2.1 8) = _; rw [if_neg (by decide)]
  have hs : ∀ i, i < U → Hs (gW P w n U) i = Hs w i := fun i hi => by unfold Hs; rw [ra 2 i (by decide) (by decide) hi, ra 3 i (by decide) (by decide) hi, ra 4 i (by decide) (by decide) hi]
  refine ⟨⟨hF.1, by show U ≤ 2 * U; omega, by show 2 * U ≤ 2 ^ 17; omega, fun i hi => ?_, hF.2.2.2.2⟩, fun b' hb' => ?_, fun i hi => ?_⟩
  · have := hF.2.2.2.1 i hi
    rw [ra 2 i (by decide) (by decide) hi, ra 3 i (by decide) (by decide) hi, ra 4 i (by decide) (by decide) hi, ra 5 i (by decide) (by decide) hi]
    refine ⟨this.1, this.2.1, this.2.2.1, ?_⟩
    unfold PL
    rw [ra 2 i (by decide) (by decide) hi, ra 3 i (by decide) (by decide) hi]
    intro hb a' ha' e t ht
    rw [r7 _ (by omega)]
    exact this.2.2.2 hb a' ha' e t ht
  · rw [r8, topI_congr hs]
    exact hB.1 b' hb'
  · rw [ra 6 i (by decide) (by decide) hi, hs i hi, topI_congr fun j hj => hs j (by omega)]
    exact hB.2 i hi
end MKN
/-! what is allotted: j times the arrays grew, e exceptions were made -/
def AL (P : sP) (S0 : Nat) (w : sW) (n sl e : Nat) : Prop := ∃ j, w.2.2.2.2.1 = 128 * 2 ^ j ∧ n = P.2.1 + 73 + 6 * j + e ∧ sl = S0 + 6 * e + 2048 * (2 ^ j - 1) ∧ w_fa P w + 6 ≤ n
/-- all but Forms stays -/
def FrX (A B : List Nat) (w w' : sW) : Prop := (∀ k, k ∉ A → w'.2.2.1 k = w.2.2.1 k) ∧ (∀ k j, 100 * k + j ∉ B → w'.1 k j = w.1 k j) ∧ w'.2.1 = w.2.1 ∧ w'.2.2.2.1 = w.2.2.2.1
def XT (U : Nat) (Dz : Nat → Nat) (nd : Nat → List Nat) (U' : Nat) (Dz' : Nat → Nat) (nd' : Nat → List Nat) : Prop := U ≤ U' ∧ ∀ i, i < U → nd' i = nd i ∧ Dz' i = Dz i
theorem XT.rf {U : Nat} {Dz : Nat → Nat} {nd : Nat → List Nat} : XT U Dz nd U Dz nd := ⟨Nat.le_refl _, fun _ _ => ⟨rfl, rfl⟩⟩
theorem XT.tr {U U' U'' : Nat} {Dz Dz' Dz'' : Nat → Nat} {nd nd' nd'' : Nat → List Nat} (h : XT U Dz nd U' Dz' nd') (g : XT U' Dz' nd' U'' Dz'' nd'') : XT U Dz nd U'' Dz'' nd'' := ⟨Nat.le_trans h.1 g.1, fun i hi => ⟨(g.2 i (Nat.lt_of_lt_of_le hi h.1)).1.trans (h.2 i hi).1, (g.2 i (Nat.lt_of_lt_of_le hi h.1)).2.trans (h.2 i hi).2⟩⟩
theorem FrX.rf {A B : List Nat} {w : sW} : FrX A B w w := ⟨fun _ _ => rfl, fun _ _ _ => rfl, rfl, rfl⟩
theorem FrX.tr {A B : List Nat} {w w' w'' : sW} (h : FrX A B w w') (g : FrX A B w' w'') : FrX A B w w'' := ⟨fun k hk => (g.1 k hk).trans (h.1 k hk), fun k j hk => (g.2.1 k j hk).trans (h.2.1 k j hk), g.2.2.1.trans h.2.2.1, g.2.2.2.trans h.2.2.2⟩
theorem FrX.mo {A B A' B' : List Nat} {w w' : sW} (h : FrX A B w w') (hA : ∀ k ∈ A, k ∈ A') (hB : ∀ k ∈ B, k ∈ B') : FrX A' B' w w' := ⟨fun k hk => h.1 k (fun z => hk (hA k z)), fun k j hk => h.2.1 k j (fun z => hk (hB _ z)), h.2.2⟩
abbrev fAr : List Nat := [2, 3, 4, 5, 6, 7, 8]
section CMk
variable {P : sP} {w : sW} {ex : Nat → Option sC} {n sl U S0 e : Nat} {Dz : Nat → Nat} {nd : Nat → List Nat}
theorem c_make {k : Nat} {a b : Int32} {l : List Nat} (hF : FT w U Dz nd) (hB : HB w U) (hA : AL P S0 w n sl e) (hU : U ≤ 8000) (hS : SH U nd k a b l) (hl : l.length ≤ 40) : ∃ i w' ex' n' sl' U' Dz' nd', F_X2_make (P.2.1 + 1) (mI k) a b (hp P w ex n sl) = some (mI i, hp P w' ex' n' sl') ∧ FT w' U' Dz' nd' ∧ HB w' U' ∧ AL P S0 w' n' sl' e ∧ XT U Dz nd U' Dz' nd' ∧ FrX fAr [100] w w' ∧ i < U' ∧ nd' i = l ∧ ((U' = U ∧ i < U) ∨ (U' = U + 1 ∧ i = U ∧ Dz' U = 0)) := by
  obtain ⟨h, hh8, hh⟩ := hsh_lt (mI k) a b
  have hU0 := hF.2.1
  have start : F_X2_make (P.2.1 + 1) (mI k) a b (hp P w ex n sl) = R_X2_make_28 (P.2.1 + 1) (mI k) a b (mI h) (topI (Hs w) (mI h) U) (mI 0) (hp P w ex n sl) := by
    have hh' : (((mI k * 31) + a) * 31 + b) &&& 127 = mI h := hh
    rw [E_X2_make, z_1, ob, E_X2_make_0, q_1_7, ob, hh', ra_8 hh8, ob, hB.1 h hh8]
    rfl
  rcases mk_find (P := P) (ex := ex) (n := n) (sl := sl) hF hB hS hh U 0 (Nat.le_refl _) (by omega) (fun i h1 h2 => by omega) with ⟨hno, e1⟩ | ⟨j, hj, e1, e2⟩
  · rw [start, e1]
    obtain ⟨j, a1, a2, a3, a4⟩ := hA
    by_cases g : U < w.2.2.2.2.1
    · have m1 := mk_81 (P := P) (h := h) (c_nogrow (P := P) (ex := ex) (n := n) (sl := sl) hF.1 g (by have := hF.2.2.1; omega)) hF g hh8 hS
      obtain ⟨m2, m3⟩ := mkW_FT hF hB g hS hh hh8 hl hno
      refine ⟨U, _, _, _, _, U + 1, _, _, m1, m2, m3, ⟨j, a1, a2, a3, a4⟩, ⟨by omega, fun i hi => ⟨if_neg (by omega), if_neg (by omega)⟩⟩, ⟨fun q hq => ?_, fun q r hq => ?_, rfl, rfl⟩, by omega, if_pos rfl, Or.inr ⟨rfl, rfl, if_pos rfl⟩⟩
      · simp only [fAr, List.mem_cons, List.not_mem_nil, not_or, or_false] at hq
        show up2 (up2 (up2 (up2 (up2 (up2 (up2 (up2 (up2 w.2.2.1 2 U (mI k)) 3 U a) 4 U b) 5 U (mI l.length)) 6 U (w.2.2.1 8 h)) 8 h (mI U)) 7 (U * 3 + 0) (-1)) 7 (U * 3 + 1) (-1)) 7 (U * 3 + 2) (-1) q = _
        rw [up2_k hq.2.2.2.2.2.1, up2_k hq.2.2.2.2.2.1, up2_k hq.2.2.2.2.2.1, up2_k hq.2.2.2.2.2.2, up2_k hq.2.2.2.2.1, up2_k hq.2.2.2.1, up2_k hq.2.2.1, up2_k hq.2.1, up2_k hq.1]
      · show up2 w.1 1 0 (mI (U + 1)) q r = _
        unfold up2
        rw [if_neg (fun z => hq (by rw [z.1, z.2]; decide))]
    · have hr : w.2.2.2.2.1 = U := by omega
      have hU1 : 128 ≤ U := by
        have := Nat.two_pow_pos j
        omega
      have hU2 : U ≤ 4096 := by
        by_cases gj : j ≤ 5
        · have : 2 ^ j ≤ 2 ^ 5 := Nat.pow_le_pow_right (by decide) gj
          omega
        · have : 2 ^ 6 ≤ 2 ^ j := Nat.pow_le_pow_right (by decide) (by omega)
          omega
      have m0 := c_grow (P := P) (ex := ex) (n := n) (sl := sl) hF.1 (by omega) hU2 hr a4 (by omega)
      obtain ⟨m2, m3⟩ := gW_FT (P := P) (n := n) hF hB hr (by omega)
      have g2 : U < (gW P w n U).2.2.2.2.1 := by show U < 2 * U; omega
      have m1 := mk_81 (P := P) (h := h) m0 m2 g2 hh8 hS
      obtain ⟨m4, m5⟩ := mkW_FT m2 m3 g2 hS hh hh8 hl hno
      refine ⟨U, _, _, _, _, U + 1, _, _, m1, m4, m5, ⟨j + 1, ?_, ?_, ?_, ?_⟩, ⟨by omega, fun i hi => ⟨if_neg (by omega), if_neg (by omega)⟩⟩, ⟨fun q hq => ?_, fun q r hq => ?_, rfl, rfl⟩, by omega, if_pos rfl, Or.inr ⟨rfl, rfl, if_pos rfl⟩⟩
      · show 2 * U = 128 * 2 ^ (j + 1)
        rw [Nat.pow_succ]
        omega
      · omega
      · rw [Nat.pow_succ]
        have := Nat.two_pow_pos j
        omega
      · show P.2.1 + 73 + (n - (P.2.1 + 73)) + 6 ≤ n + 6
        omega
      · simp only [fAr, List.mem_cons, List.not_mem_nil, not_or, or_false] at hq
        show up2 (up2 (up2 (up2 (up2 (up2 (up2 (up2 (up2 (gW P w n U).2.2.1 2 U (mI k)) 3 U a) 4 U b) 5 U (mI l.length)) 6 U ((gW P w n U).2.2.1 8 h)) 8 h (mI U)) 7 (U * 3 + 0) (-1)) 7 (U * 3 + 1) (-1)) 7 (U * 3 + 2) (-1) q = _
        rw [up2_k hq.2.2.2.2.2.1, up2_k hq.2.2.2.2.2.1, up2_k hq.2.2.2.2.2.1, up2_k hq.2.2.2.2.2.2, up2_k hq.2.2.2.2.1, up2_k hq.2.2.2.1, up2_k hq.2.2.1, up2_k hq.2.1, up2_k hq.1]
        exact if_neg (by omega)
      · show up2 w.1 1 0 (mI (U + 1)) q r = _
        unfold up2
        rw [if_neg (fun z => hq (by rw [z.1, z.2]; decide))]
  · rw [start, e2]
    exact ⟨j, w, ex, n, sl, U, Dz, nd, rfl, hF, hB, hA, XT.rf, FrX.rf, hj, e1, Or.inl ⟨rfl, hj⟩⟩
end CMk
