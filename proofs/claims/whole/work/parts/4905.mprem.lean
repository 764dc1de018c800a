/-! what the premises of each rule cost in the model -/
section MPR
variable {P : sP} {S0 e : Nat} {w u u' v : sW} {ex : Nat → Option sC} {n sl D F L R U h k s : Nat} {S : List (List Nat)} {A : List Nat} {tl H : Nat → Prop} {q : Nat → Nat} {c : nN → Nat}
theorem thOf_k {o : Option Nat} {k : Nat} (h : ∀ i, o = some i → i < 2 ^ 31) (hk : k < 2 ^ 31) : (thOf o = mI k) = (o = some k) := by
  cases o with
  | none => exact propext ⟨fun z => absurd z.symm (mI_m1 hk), fun z => by cases z⟩
  | some i =>
    have e : (thOf (some i) = mI k) = (i = k) := m_eqN (h i rfl) hk
    rw [e]
    exact propext ⟨fun z => by rw [z], fun z => Option.some.inj z⟩
theorem neqN {a m : Nat} (ha : a < 2 ^ 31) (hm : m < 2 ^ 31) (h : a ≠ m) : ¬ mI a = mI m := by
  rw [mI_inj ha hm]; exact h
/-- what the model holds when it counts costs in a house -/
def ME (u : sW) (D : Nat) (S : List (List Nat)) (tl H : Nat → Prop) (q : Nat → Nat) (h : Nat) (c : nN → Nat) : Prop := RLt u D S tl ∧ u.2.2.1 47 0 = mI D ∧ 1 ≤ D ∧ D ≤ 3 ∧ h < 3 ∧ u.1 46 35 = mI h ∧ (∀ r, bit (u.2.2.1 47 (4 + 18 * h)) r ↔ H r) ∧ (∀ r, r < 17 → q r ≤ 99 ∧ u.2.2.1 47 (4 + 18 * h + 1 + r) = mI (q r)) ∧ q 16 ≤ 9 ∧ (∀ x, c x ≤ 268435456) ∧ ∀ k, k < 40 → ∀ s, s < 8 → u.2.2.1 70 (8 * k + s) = mI (c (k, s))
theorem ME.lm (h' : ME u D S tl H q h c) : LMo u S := h'.1.1
theorem ME.K (h' : ME u D S tl H q h c) : S.length ≤ 40 := h'.1.1.2.1.1
theorem ME.as (h' : ME u D S tl H q h c) : ASm u (asm S S.length) := h'.1.2.1
theorem ME.a (h' : ME u D S tl H q h c) {k : Nat} (hk : k < S.length) : RLa u D S tl k := h'.1.2.2.1 k hk
theorem ME.b (h' : ME u D S tl H q h c) {k j : Nat} (hk : k < S.length) (hj : j < S.length) : RLb u D S k j := h'.1.2.2.2 k hk j hj
theorem ME.cl (h' : ME u D S tl H q h c) (x : nN) : c x ≤ 268435456 := h'.2.2.2.2.2.2.2.2.2.1 x
theorem ME.op (h' : ME u D S tl H q h c) {k : Nat} (hk : k < S.length) : opO S k < 18 := by
  have hok := at0_ok h'.lm hk
  obtain ⟨s, r, e, -⟩ := wff_cases hok.1
  rw [op_c e]
  exact hok.2.2 s (by rw [e]; exact List.mem_cons_self)
theorem ME.cO (h' : ME u D S tl H q h c) {o : Option Nat} {s : Nat} : cO c o s ≤ 268435456 := by
  cases o with
  | none => exact Nat.le_refl _
  | some i => exact h'.cl _
theorem m_costAtO (h' : ME u D S tl H q h c) {o : Option Nat} {x y : Int32} (hx : x = thOf o) (hy : y = mI s) (ho : ∀ i, o = some i → i < 40) (hs : s < 8) : F_X8_costAt (P.2.1 + 46) x y (hp P u ex n sl) = some (mI (cO c o s), hp P u ex n sl) := by
  subst hx hy
  rw [E_X8_costAt, z_46, ob, E_X8_costAt_0]
  cases o with
  | none => rw [if_neg (show ¬ (0 : Int32) ≤ thOf none by decide)]; rfl
  | some i =>
    have hi := ho i rfl
    have e : 8 * mI i + mI s = mI (8 * i + s) := by
      show mI 8 * mI i + mI s = _
      rw [mI_mul, mI_add]
    rw [if_pos (show (0 : Int32) ≤ thOf (some i) from (mI_le (a := 0) (b := i) (by decide) (by omega)).mpr (by omega)), q_46_36, ob, thOf_some, e, ra_70 (by omega), ob, h'.2.2.2.2.2.2.2.2.2.2 i hi s hs]
    rfl
theorem m_sum {a b : Nat} {σ : sS} (ha : a ≤ 268435456) (hb : b ≤ 268435456) : F_X8_sum (mI a) (mI b) σ = some (mI (sm a b), σ) := by
  rw [E_X8_sum, E_X8_sum_0, mI_add]
  unfold sm
  by_cases g : a + b < 268435456
  · rw [if_pos g, if_pos (show mI (a + b) < 268435456 by rw [nltL (by omega) (by decide)]; exact g)]
  · rw [if_neg g, if_neg (show ¬ mI (a + b) < 268435456 by rw [nltL (by omega) (by decide)]; exact g)]
    rfl
theorem lc_le (h' : ME u D S tl H q h c) {r k : Nat} (hr : r < 17) (hk : k < S.length) : lcO S q (q 16) r k ≤ 459 := by
  have h1 := (h'.2.2.2.2.2.2.2.1 r hr).1
  have h2 := h'.2.2.2.2.2.2.2.2.1
  have h3 := (at0_ok h'.lm hk).2.1
  unfold lcO
  have : (at0 S k).length * q 16 ≤ 40 * 9 := Nat.mul_le_mul h3 h2
  omega
theorem m_lc (h' : ME u D S tl H q h c) {r k : Nat} {x v y : Int32} (hx : x = mI h) (hv : v = mI r) (hy : y = mI (30 + k)) (hr : r < 17) (hk : k < S.length) : F_X8_costOf (P.2.1 + 46) x v y (hp P u ex n sl) = some (mI (lcO S q (q 16) r k), hp P u ex n sl) := by
  have h40 := h'.K
  rw [m_costOf hx hv hy h'.2.2.2.2.1 hr (by omega) (h'.lm.2.2 k hk), (h'.2.2.2.2.2.2.2.1 r hr).2, (h'.2.2.2.2.2.2.2.1 16 (by decide)).2, mI_mul, mI_add]
  rfl
theorem lf_40 (h' : ME u D S tl H q h c) {k i : Nat} (e : lfO S k = some i) : i < 40 := Nat.lt_of_lt_of_le (lf_lt e) h'.K
theorem rt_40 (h' : ME u D S tl H q h c) {k i : Nat} (e : rtO S k = some i) : i < 40 := Nat.lt_of_lt_of_le (rt_lt e) h'.K
theorem pl_40 (h' : ME u D S tl H q h c) {k i t : Nat} (e : plO S k t = some i) : i < 40 := Nat.lt_of_lt_of_le (pl_lt e) h'.K
theorem sl_3 (h' : ME u D S tl H q h c) {i m : Nat} (e : slO (asm S S.length) i = some m) : m < 3 := Nat.lt_of_lt_of_le (slO_some e).1 (asm_ok S.length).1
theorem cF_lt {k j i : Nat} (e : cFO S k j = some i) : i < S.length := by
  unfold cFO at e
  split at e
  · cases e
  · split at e
    · exact (pos_some e).1
    · cases e
theorem cS_lt {k j i : Nat} (e : cSO S k j = some i) : i < S.length := by
  unfold cSO at e
  split at e
  · cases e
  · split at e
    · exact (pos_some e).1
    · cases e
abbrev IIm (D : Nat) (S : List (List Nat)) (tl H : Nat → Prop) (q : Nat → Nat) := INS D S (asm S S.length) tl H q (q 16)
abbrev PXm (D : Nat) (S : List (List Nat)) (tl H : Nat → Prop) (q : Nat → Nat) (c : nN → Nat) (r k s pv : Nat) : Prop := PX D S (asm S S.length) tl H q (q 16) c r k s pv
theorem s_8 (hs : s < 2 ^ (asm S S.length).length) : s < 8 := Nat.lt_of_lt_of_le hs (Nat.pow_le_pow_right (by decide) (asm_ok S.length).1)

theorem m_pr0 (h' : ME u D S tl H q h c) (hk : k < S.length) (hs : s < 2 ^ (asm S S.length).length) (hH : H 0) : ∃ pv, F_X8_premisesBy (P.2.1 + 46) 0 (mI k) (mI s) (hp P u ex n sl) = some (mI pv, hp P u ex n sl) ∧ PXm D S tl H q c 0 k s pv := by
  have h40 := h'.K
  have hs8 := s_8 hs
  have hnd := h'.lm.2.1.2.2
  by_cases g : tl k
  · refine ⟨0, ?_, Nat.zero_le _, fun _ => ⟨[], 0, ⟨hk, hs, hH, Or.inl ⟨rfl, g, rfl, rfl⟩⟩, rfl⟩, fun ps b hI => ?_⟩
    · rw [E_X8_premisesBy, z_46, ob, E_X8_premisesBy_0, if_pos rfl]
      rw [q_46_27, ob, ra_64 (by omega), ob, (h'.a hk).2.2.2.2, if_neg (fun z => b2_0.mp z g)]
      rfl
    · obtain ⟨-, -, -, ⟨-, -, rfl, rfl⟩ | ⟨g4, -⟩ | ⟨g4, -⟩ | ⟨g4, -⟩ | ⟨l, g4, -⟩⟩ := hI
      · exact ⟨0, rfl, Nat.zero_le _⟩
      · cases g4
      · cases g4
      · cases g4
      · exact absurd g4.r.1 (by decide)
  · refine ⟨268435456, ?_, Nat.le_refl _, fun z => absurd z (Nat.lt_irrefl _), fun ps b hI => ?_⟩
    · rw [E_X8_premisesBy, z_46, ob, E_X8_premisesBy_0, if_pos rfl]
      rw [q_46_27, ob, ra_64 (by omega), ob, (h'.a hk).2.2.2.2, if_pos (b2_0.mpr g)]
      rfl
    · obtain ⟨-, -, -, ⟨-, g4, -⟩ | ⟨g4, -⟩ | ⟨g4, -⟩ | ⟨g4, -⟩ | ⟨l, g4, -⟩⟩ := hI
      · exact absurd g4 g
      · cases g4
      · cases g4
      · cases g4
      · exact absurd g4.r.1 (by decide)
theorem m_pr1 (h' : ME u D S tl H q h c) (hk : k < S.length) (hs : s < 2 ^ (asm S S.length).length) (hH : H 1) : ∃ pv, F_X8_premisesBy (P.2.1 + 46) 1 (mI k) (mI s) (hp P u ex n sl) = some (mI pv, hp P u ex n sl) ∧ PXm D S tl H q c 1 k s pv := by
  have h40 := h'.K
  have hs8 := s_8 hs
  have hnd := h'.lm.2.1.2.2
  have fr : ∀ pv, pv = (268435456 : Nat) → (¬ ∃ m, m < (asm S S.length).length ∧ (asm S S.length).getD m 0 = k ∧ s.testBit m = true) → PXm D S tl H q c 1 k s pv := by
    rintro pv rfl g
    refine ⟨Nat.le_refl _, fun z => absurd z (Nat.lt_irrefl _), fun ps b hI => ?_⟩
    obtain ⟨-, -, -, ⟨g4, -⟩ | ⟨-, g4, -⟩ | ⟨g4, -⟩ | ⟨g4, -⟩ | ⟨l, g4, -⟩⟩ := hI
    · cases g4
    · exact absurd g4 g
    · cases g4
    · cases g4
    · exact absurd g4.r.1 (by decide)
  rw [E_X8_premisesBy, z_46, ob, E_X8_premisesBy_0, if_neg (by decide), if_pos rfl]
  rw [m_assumedAt rfl h'.as (by omega), ob]
  try dsimp only
  cases es : slO (asm S S.length) k with
  | none =>
    rw [if_pos (show thOf none < 0 by decide), E_X8_premisesBy_118]
    refine ⟨268435456, rfl, fr _ rfl ?_⟩
    rintro ⟨m, m1, m2, -⟩
    rw [slO_of (asm_ok S.length).2.1 m1 m2] at es
    cases es
  | some m =>
    have hm := sl_3 h' es
    obtain ⟨e1, e2⟩ := slO_some es
    rw [if_neg (show ¬ thOf (some m) < 0 from mI_0 (by omega)), m_assumedAt rfl h'.as (by omega), ob, es]
    try dsimp only
    rw [thOf_some]
    by_cases g : s.testBit m = true
    · rw [if_pos ((bit_s s hs8 m hm).mpr g)]
      refine ⟨0, rfl, Nat.zero_le _, fun _ => ⟨[], 0, ⟨hk, hs, hH, Or.inr (Or.inl ⟨rfl, ⟨m, e1, e2, g⟩, rfl, rfl⟩)⟩, rfl⟩, fun ps b hI => ?_⟩
      obtain ⟨-, -, -, ⟨g4, -⟩ | ⟨-, -, rfl, rfl⟩ | ⟨g4, -⟩ | ⟨g4, -⟩ | ⟨l, g4, -⟩⟩ := hI
      · cases g4
      · exact ⟨0, rfl, Nat.zero_le _⟩
      · cases g4
      · cases g4
      · exact absurd g4.r.1 (by decide)
    · rw [if_neg (fun z => g ((bit_s s hs8 m hm).mp z)), E_X8_premisesBy_118]
      refine ⟨268435456, rfl, fr _ rfl ?_⟩
      rintro ⟨m', m1, m2, m3⟩
      rw [slO_of (asm_ok S.length).2.1 m1 m2] at es
      cases es
      exact g m3
theorem m_pr2 (h' : ME u D S tl H q h c) (hk : k < S.length) (hs : s < 2 ^ (asm S S.length).length) (hH : H 2) : ∃ pv, F_X8_premisesBy (P.2.1 + 46) 2 (mI k) (mI s) (hp P u ex n sl) = some (mI pv, hp P u ex n sl) ∧ PXm D S tl H q c 2 k s pv := by
  have h40 := h'.K
  have hs8 := s_8 hs
  have hnd := h'.lm.2.1.2.2
  rw [E_X8_premisesBy, z_46, ob, E_X8_premisesBy_0, if_neg (by decide), if_neg (by decide), if_pos rfl]
  rw [q_46_23, ob, ra_60 (by omega), ob, (h'.a hk).1]
  by_cases g : opO S k = 13
  · rw [if_pos (by rw [g]; rfl), q_46_24, ob, ra_61 (by omega), ob, (h'.a hk).2.1, m_costAtO h' rfl rfl (fun i e => lf_40 h' e) hs8, ob]
    try dsimp only
    rw [q_46_25, ob, ra_62 (by omega), ob, (h'.a hk).2.2.1, m_costAtO h' rfl rfl (fun i e => rt_40 h' e) hs8, ob]
    try dsimp only
    rw [m_sum h'.cO h'.cO, ob]
    refine ⟨_, rfl, PV.px hs hH ⟨by decide, by decide, by decide, by decide⟩ (pv_one sm_le.2 (fun z => ?_) (fun l hl => ?_))⟩
    · obtain ⟨e1, e2, e3⟩ := sm_eq z
      obtain ⟨i, i1, i2⟩ := cO_lt e2
      obtain ⟨j, j1, j2⟩ := cO_lt e3
      exact ⟨[i, j], ⟨hk, g, i, j, i1, j1, rfl⟩, by rw [sum_2, e1, i2, j2]⟩
    · obtain ⟨-, i, j, i1, j1, rfl⟩ := hl.2
      rw [sum_2, i1, j1]
      exact sm_le.1
  · rw [if_neg (show ¬ mI (opO S k) = 13 from neqN (m := 13) (by have := h'.op hk; omega) (by decide) g)]
    exact ⟨268435456, rfl, PV.px hs hH ⟨by decide, by decide, by decide, by decide⟩ (pv_none (fun l hl => g hl.2.1))⟩
theorem m_pr5 (h' : ME u D S tl H q h c) (hk : k < S.length) (hs : s < 2 ^ (asm S S.length).length) (hH : H 5) : ∃ pv, F_X8_premisesBy (P.2.1 + 46) 5 (mI k) (mI s) (hp P u ex n sl) = some (mI pv, hp P u ex n sl) ∧ PXm D S tl H q c 5 k s pv := by
  have h40 := h'.K
  have hs8 := s_8 hs
  have hnd := h'.lm.2.1.2.2
  rw [E_X8_premisesBy, z_46, ob, E_X8_premisesBy_0, if_neg (by decide), if_neg (by decide), if_neg (by decide), if_neg (by decide), if_neg (by decide), if_pos rfl]
  rw [q_46_23, ob, ra_60 (by omega), ob, (h'.a hk).1]
  by_cases g : opO S k = 14
  · rw [if_pos (by rw [g]; rfl), q_46_24, ob, ra_61 (by omega), ob, (h'.a hk).2.1, m_costAtO h' rfl rfl (fun i e => lf_40 h' e) hs8, ob]
    refine ⟨_, rfl, PV.px hs hH ⟨by decide, by decide, by decide, by decide⟩ (pv_one h'.cO (fun z => ?_) (fun l hl => ?_))⟩
    · obtain ⟨i, i1, i2⟩ := cO_lt z
      exact ⟨[i], ⟨hk, g, i, i1, rfl⟩, by rw [sum_1, i2]⟩
    · obtain ⟨-, i, i1, rfl⟩ := hl.2
      rw [sum_1, i1]
      exact Nat.le_refl _
  · rw [if_neg (show ¬ mI (opO S k) = 14 from neqN (m := 14) (by have := h'.op hk; omega) (by decide) g)]
    exact ⟨268435456, rfl, PV.px hs hH ⟨by decide, by decide, by decide, by decide⟩ (pv_none (fun l hl => g hl.2.1))⟩
theorem m_pr6 (h' : ME u D S tl H q h c) (hk : k < S.length) (hs : s < 2 ^ (asm S S.length).length) (hH : H 6) : ∃ pv, F_X8_premisesBy (P.2.1 + 46) 6 (mI k) (mI s) (hp P u ex n sl) = some (mI pv, hp P u ex n sl) ∧ PXm D S tl H q c 6 k s pv := by
  have h40 := h'.K
  have hs8 := s_8 hs
  have hnd := h'.lm.2.1.2.2
  rw [E_X8_premisesBy, z_46, ob, E_X8_premisesBy_0, if_neg (by decide), if_neg (by decide), if_neg (by decide), if_neg (by decide), if_neg (by decide), if_neg (by decide), if_pos rfl]
  rw [q_46_23, ob, ra_60 (by omega), ob, (h'.a hk).1]
  by_cases g : opO S k = 14
  · rw [if_pos (by rw [g]; rfl), q_46_25, ob, ra_62 (by omega), ob, (h'.a hk).2.2.1, m_costAtO h' rfl rfl (fun i e => rt_40 h' e) hs8, ob]
    refine ⟨_, rfl, PV.px hs hH ⟨by decide, by decide, by decide, by decide⟩ (pv_one h'.cO (fun z => ?_) (fun l hl => ?_))⟩
    · obtain ⟨i, i1, i2⟩ := cO_lt z
      exact ⟨[i], ⟨hk, g, i, i1, rfl⟩, by rw [sum_1, i2]⟩
    · obtain ⟨-, i, i1, rfl⟩ := hl.2
      rw [sum_1, i1]
      exact Nat.le_refl _
  · rw [if_neg (show ¬ mI (opO S k) = 14 from neqN (m := 14) (by have := h'.op hk; omega) (by decide) g)]
    exact ⟨268435456, rfl, PV.px hs hH ⟨by decide, by decide, by decide, by decide⟩ (pv_none (fun l hl => g hl.2.1))⟩
theorem m_pr3 (h' : ME u D S tl H q h c) (hk : k < S.length) (hs : s < 2 ^ (asm S S.length).length) (hH : H 3) : ∃ pv, F_X8_premisesBy (P.2.1 + 46) 3 (mI k) (mI s) (hp P u ex n sl) = some (mI pv, hp P u ex n sl) ∧ PXm D S tl H q c 3 k s pv := by
  have h40 := h'.K
  have hs8 := s_8 hs
  have hnd := h'.lm.2.1.2.2
  rw [E_X8_premisesBy, z_46, ob, E_X8_premisesBy_0, if_neg (by decide), if_neg (by decide), if_neg (by decide), if_pos rfl]
  have lp := loopM (f := fun i v => R_X8_premisesBy_168 (P.2.1 + 46) (mI k) (mI s) v (mI i) (hp P u ex n sl)) (g := fun i => if opO S i = 13 ∧ lfO S i = some k then c (i, s) else 268435456) (N := S.length) (r := fun v => (mI v, hp P u ex n sl)) (fun i hi v hv => by
    try dsimp only
    have cl := h'.cl (i, s)
    rw [E_X8_premisesBy_168, q_46_33, ob, h'.lm.1, if_neg (show ¬ mI S.length ≤ mI i by rw [nle (by omega) (by omega)]; omega)]
    rw [q_46_23, ob, ra_60 (by omega), ob, (h'.a hi).1]
    by_cases g1 : opO S i = 13
    · rw [if_pos (by rw [g1]; rfl), q_46_24, ob, ra_61 (by omega), ob, (h'.a hi).2.1]
      by_cases g2 : lfO S i = some k
      · rw [if_pos (by rw [g2]; rfl), m_costAtO h' (o := some i) (x := mI i) rfl rfl (fun j e => by cases e; omega) hs8, ob]
        try dsimp only
        rw [show cO c (some i) s = c (i, s) from rfl, ite_mI (by omega) (by omega), E_X8_premisesBy_214, mI_s, if_pos (show opO S i = 13 ∧ lfO S i = some k from ⟨g1, g2⟩)]
      · rw [if_neg (by rw [thOf_k (fun j e => by have := lf_40 h' e; omega) (by omega)]; exact g2), if_neg (show ¬ (opO S i = 13 ∧ lfO S i = some k) from fun z => g2 z.2)]
        rw [E_X8_premisesBy_214, mI_s, if_neg (show ¬ 268435456 < v from Nat.not_lt.mpr hv)]
    · rw [if_neg (show ¬ mI (opO S i) = 13 from neqN (m := 13) (by have := h'.op hi; omega) (by decide) g1), if_neg (show ¬ (opO S i = 13 ∧ lfO S i = some k) from fun z => g1 z.1)]
      rw [E_X8_premisesBy_214, mI_s, if_neg (show ¬ 268435456 < v from Nat.not_lt.mpr hv)]) (fun v hv => by
    try dsimp only
    rw [E_X8_premisesBy_168, q_46_33, ob, h'.lm.1, if_pos (by rw [nle (by omega) (by omega)]; exact Nat.le_refl _)])
  refine ⟨_, lp, PV.px hs hH ⟨by decide, by decide, by decide, by decide⟩ (pv_min (fun i hi z => ?_) (fun l hl => ?_))⟩
  · try dsimp only at z ⊢
    by_cases g : opO S i = 13 ∧ lfO S i = some k
    · rw [if_pos g]
      exact ⟨[i], ⟨hk, i, hi, g.1, g.2, rfl⟩, by rw [sum_1]⟩
    · rw [if_neg g] at z; exact absurd z (Nat.lt_irrefl _)
  · obtain ⟨i, i1, i2, i3, rfl⟩ := hl.2
    refine ⟨i, i1, ?_⟩
    try dsimp only
    rw [if_pos ⟨i2, i3⟩, sum_1]
    exact Nat.le_refl _
theorem m_pr4 (h' : ME u D S tl H q h c) (hk : k < S.length) (hs : s < 2 ^ (asm S S.length).length) (hH : H 4) : ∃ pv, F_X8_premisesBy (P.2.1 + 46) 4 (mI k) (mI s) (hp P u ex n sl) = some (mI pv, hp P u ex n sl) ∧ PXm D S tl H q c 4 k s pv := by
  have h40 := h'.K
  have hs8 := s_8 hs
  have hnd := h'.lm.2.1.2.2
  rw [E_X8_premisesBy, z_46, ob, E_X8_premisesBy_0, if_neg (by decide), if_neg (by decide), if_neg (by decide), if_neg (by decide), if_pos rfl]
  have lp := loopM (f := fun i v => R_X8_premisesBy_226 (P.2.1 + 46) (mI k) (mI s) v (mI i) (hp P u ex n sl)) (g := fun i => if opO S i = 13 ∧ rtO S i = some k then c (i, s) else 268435456) (N := S.length) (r := fun v => (mI v, hp P u ex n sl)) (fun i hi v hv => by
    try dsimp only
    have cl := h'.cl (i, s)
    rw [E_X8_premisesBy_226, q_46_33, ob, h'.lm.1, if_neg (show ¬ mI S.length ≤ mI i by rw [nle (by omega) (by omega)]; omega)]
    rw [q_46_23, ob, ra_60 (by omega), ob, (h'.a hi).1]
    by_cases g1 : opO S i = 13
    · rw [if_pos (by rw [g1]; rfl), q_46_25, ob, ra_62 (by omega), ob, (h'.a hi).2.2.1]
      by_cases g2 : rtO S i = some k
      · rw [if_pos (by rw [g2]; rfl), m_costAtO h' (o := some i) (x := mI i) rfl rfl (fun j e => by cases e; omega) hs8, ob]
        try dsimp only
        rw [show cO c (some i) s = c (i, s) from rfl, ite_mI (by omega) (by omega), E_X8_premisesBy_272, mI_s, if_pos (show opO S i = 13 ∧ rtO S i = some k from ⟨g1, g2⟩)]
      · rw [if_neg (by rw [thOf_k (fun j e => by have := rt_40 h' e; omega) (by omega)]; exact g2), if_neg (show ¬ (opO S i = 13 ∧ rtO S i = some k) from fun z => g2 z.2)]
        rw [E_X8_premisesBy_272, mI_s, if_neg (show ¬ 268435456 < v from Nat.not_lt.mpr hv)]
    · rw [if_neg (show ¬ mI (opO S i) = 13 from neqN (m := 13) (by have := h'.op hi; omega) (by decide) g1), if_neg (show ¬ (opO S i = 13 ∧ rtO S i = some k) from fun z => g1 z.1)]
      rw [E_X8_premisesBy_272, mI_s, if_neg (show ¬ 268435456 < v from Nat.not_lt.mpr hv)]) (fun v hv => by
    try dsimp only
    rw [E_X8_premisesBy_226, q_46_33, ob, h'.lm.1, if_pos (by rw [nle (by omega) (by omega)]; exact Nat.le_refl _)])
  refine ⟨_, lp, PV.px hs hH ⟨by decide, by decide, by decide, by decide⟩ (pv_min (fun i hi z => ?_) (fun l hl => ?_))⟩
  · try dsimp only at z ⊢
    by_cases g : opO S i = 13 ∧ rtO S i = some k
    · rw [if_pos g]
      exact ⟨[i], ⟨hk, i, hi, g.1, g.2, rfl⟩, by rw [sum_1]⟩
    · rw [if_neg g] at z; exact absurd z (Nat.lt_irrefl _)
  · obtain ⟨i, i1, i2, i3, rfl⟩ := hl.2
    refine ⟨i, i1, ?_⟩
    try dsimp only
    rw [if_pos ⟨i2, i3⟩, sum_1]
    exact Nat.le_refl _
theorem m_pr7 (h' : ME u D S tl H q h c) (hk : k < S.length) (hs : s < 2 ^ (asm S S.length).length) (hH : H 7) : ∃ pv, F_X8_premisesBy (P.2.1 + 46) 7 (mI k) (mI s) (hp P u ex n sl) = some (mI pv, hp P u ex n sl) ∧ PXm D S tl H q c 7 k s pv := by
  have h40 := h'.K
  have hs8 := s_8 hs
  have hnd := h'.lm.2.1.2.2
  rw [E_X8_premisesBy, z_46, ob, E_X8_premisesBy_0, if_neg (by decide), if_neg (by decide), if_neg (by decide), if_neg (by decide), if_neg (by decide), if_neg (by decide), if_neg (by decide), if_pos rfl]
  have lp := loopM (f := fun i v => R_X8_premisesBy_342 (P.2.1 + 46) (mI k) (mI s) v (mI i) (hp P u ex n sl)) (g := fun i => if opO S i = 15 ∧ rtO S i = some k then sm (cO c (lfO S i) s) (c (i, s)) else 268435456) (N := S.length) (r := fun v => (mI v, hp P u ex n sl)) (fun i hi v hv => by
    try dsimp only
    have cl := h'.cl (i, s)
    rw [E_X8_premisesBy_342, q_46_33, ob, h'.lm.1, if_neg (show ¬ mI S.length ≤ mI i by rw [nle (by omega) (by omega)]; omega)]
    rw [q_46_23, ob, ra_60 (by omega), ob, (h'.a hi).1]
    by_cases g1 : opO S i = 15
    · rw [if_pos (by rw [g1]; rfl), q_46_25, ob, ra_62 (by omega), ob, (h'.a hi).2.2.1]
      by_cases g2 : rtO S i = some k
      · rw [if_pos (by rw [g2]; rfl), q_46_24, ob, ra_61 (by omega), ob, (h'.a hi).2.1, m_costAtO h' rfl rfl (fun i e => lf_40 h' e) hs8, ob]
        try dsimp only
        rw [m_costAtO h' (o := some i) (x := mI i) rfl rfl (fun j e => by cases e; omega) hs8, ob]
        try dsimp only
        rw [show cO c (some i) s = c (i, s) from rfl, m_sum h'.cO cl, ob]
        try dsimp only
        rw [ite_mI (by have := (sm_le (a := cO c (lfO S i) s) (b := c (i, s))).2; omega) (by omega), E_X8_premisesBy_403, mI_s, if_pos (show opO S i = 15 ∧ rtO S i = some k from ⟨g1, g2⟩)]
      · rw [if_neg (by rw [thOf_k (fun j e => by have := rt_40 h' e; omega) (by omega)]; exact g2), if_neg (show ¬ (opO S i = 15 ∧ rtO S i = some k) from fun z => g2 z.2)]
        rw [E_X8_premisesBy_403, mI_s, if_neg (show ¬ 268435456 < v from Nat.not_lt.mpr hv)]
    · rw [if_neg (show ¬ mI (opO S i) = 15 from neqN (m := 15) (by have := h'.op hi; omega) (by decide) g1), if_neg (show ¬ (opO S i = 15 ∧ rtO S i = some k) from fun z => g1 z.1)]
      rw [E_X8_premisesBy_403, mI_s, if_neg (show ¬ 268435456 < v from Nat.not_lt.mpr hv)]) (fun v hv => by
    try dsimp only
    rw [E_X8_premisesBy_342, q_46_33, ob, h'.lm.1, if_pos (by rw [nle (by omega) (by omega)]; exact Nat.le_refl _)])
  refine ⟨_, lp, PV.px hs hH ⟨by decide, by decide, by decide, by decide⟩ (pv_min (fun i hi z => ?_) (fun l hl => ?_))⟩
  · try dsimp only at z ⊢
    by_cases g : opO S i = 15 ∧ rtO S i = some k
    · rw [if_pos g] at z ⊢
      obtain ⟨e1, e2, e3⟩ := sm_eq z
      obtain ⟨j, j1, j2⟩ := cO_lt e2
      exact ⟨[j, i], ⟨hk, i, j, hi, g.1, g.2, j1, rfl⟩, by rw [sum_2, e1, j2]⟩
    · rw [if_neg g] at z; exact absurd z (Nat.lt_irrefl _)
  · obtain ⟨i, j, i1, i2, i3, i4, rfl⟩ := hl.2
    refine ⟨i, i1, ?_⟩
    try dsimp only
    rw [if_pos ⟨i2, i3⟩, sum_2, i4]
    exact sm_le.1
theorem m_pr8 (h' : ME u D S tl H q h c) (hk : k < S.length) (hs : s < 2 ^ (asm S S.length).length) (hH : H 8) : ∃ pv, F_X8_premisesBy (P.2.1 + 46) 8 (mI k) (mI s) (hp P u ex n sl) = some (mI pv, hp P u ex n sl) ∧ PXm D S tl H q c 8 k s pv := by
  have h40 := h'.K
  have hs8 := s_8 hs
  have hnd := h'.lm.2.1.2.2
  rw [E_X8_premisesBy, z_46, ob, E_X8_premisesBy_0, if_neg (by decide), if_neg (by decide), if_neg (by decide), if_neg (by decide), if_neg (by decide), if_neg (by decide), if_neg (by decide), if_neg (by decide), if_pos rfl]
  have lp := loopM (f := fun i v => R_X8_premisesBy_415 (P.2.1 + 46) (mI k) (mI s) v (mI i) (hp P u ex n sl)) (g := fun i => @ite _ (at0 S i = 12 :: 12 :: at0 S k) (Classical.propDecidable _) (c (i, s)) 268435456) (N := S.length) (r := fun v => (mI v, hp P u ex n sl)) (fun i hi v hv => by
    try dsimp only
    have cl := h'.cl (i, s)
    rw [E_X8_premisesBy_415, q_46_33, ob, h'.lm.1, if_neg (show ¬ mI S.length ≤ mI i by rw [nle (by omega) (by omega)]; omega)]
    have e2 : 40 * mI i + mI k = mI (40 * i + k) := by
      show mI 40 * mI i + mI k = _
      rw [mI_mul, mI_add]
    rw [q_46_29, ob, e2, ra_66 (by omega), ob, (h'.b hi hk).2.1]
    by_cases g1 : at0 S i = 12 :: 12 :: at0 S k
    · rw [if_neg (fun z => b2_0.mp z g1), m_costAtO h' (o := some i) (x := mI i) rfl rfl (fun j e => by cases e; omega) hs8, ob]
      try dsimp only
      rw [show cO c (some i) s = c (i, s) from rfl, ite_mI (by omega) (by omega), E_X8_premisesBy_453, mI_s, if_pos g1]
    · rw [if_pos (b2_0.mpr g1), if_neg g1]
      rw [E_X8_premisesBy_453, mI_s, if_neg (show ¬ 268435456 < v from Nat.not_lt.mpr hv)]) (fun v hv => by
    try dsimp only
    rw [E_X8_premisesBy_415, q_46_33, ob, h'.lm.1, if_pos (by rw [nle (by omega) (by omega)]; exact Nat.le_refl _)])
  refine ⟨_, lp, PV.px hs hH ⟨by decide, by decide, by decide, by decide⟩ (pv_min (fun i hi z => ?_) (fun l hl => ?_))⟩
  · try dsimp only at z ⊢
    by_cases g : at0 S i = 12 :: 12 :: at0 S k
    · rw [if_pos g]
      exact ⟨[i], ⟨hk, i, hi, g, rfl⟩, by rw [sum_1]⟩
    · rw [if_neg g] at z; exact absurd z (Nat.lt_irrefl _)
  · obtain ⟨i, i1, i2, rfl⟩ := hl.2
    refine ⟨i, i1, ?_⟩
    try dsimp only
    rw [if_pos i2, sum_1]
    exact Nat.le_refl _
theorem m_pr11 (h' : ME u D S tl H q h c) (hk : k < S.length) (hs : s < 2 ^ (asm S S.length).length) (hH : H 11) : ∃ pv, F_X8_premisesBy (P.2.1 + 46) 11 (mI k) (mI s) (hp P u ex n sl) = some (mI pv, hp P u ex n sl) ∧ PXm D S tl H q c 11 k s pv := by
  have h40 := h'.K
  have hs8 := s_8 hs
  have hnd := h'.lm.2.1.2.2
  rw [E_X8_premisesBy, z_46, ob, E_X8_premisesBy_0, if_neg (by decide), if_neg (by decide), if_neg (by decide), if_neg (by decide), if_neg (by decide), if_neg (by decide), if_neg (by decide), if_neg (by decide), if_neg (by decide), if_neg (by decide), if_neg (by decide), if_pos rfl]
  have lp := loopM (f := fun i v => R_X8_premisesBy_547 (P.2.1 + 46) (mI k) (mI s) v (mI i) (hp P u ex n sl)) (g := fun i => @ite _ (∃ t, t < D ∧ opO S i = 16 ∧ plO S i t = some k) (Classical.propDecidable _) (c (i, s)) 268435456) (N := S.length) (r := fun v => (mI v, hp P u ex n sl)) (fun i hi v hv => by
    try dsimp only
    have cl := h'.cl (i, s)
    rw [E_X8_premisesBy_547, q_46_33, ob, h'.lm.1, if_neg (show ¬ mI S.length ≤ mI i by rw [nle (by omega) (by omega)]; omega)]
    have e2 : 40 * mI i + mI k = mI (40 * i + k) := by
      show mI 40 * mI i + mI k = _
      rw [mI_mul, mI_add]
    rw [q_46_28, ob, e2, ra_65 (by omega), ob, (h'.b hi hk).1]
    by_cases g1 : ∃ t, t < D ∧ opO S i = 16 ∧ plO S i t = some k
    · rw [if_neg (fun z => b2_0.mp z g1), m_costAtO h' (o := some i) (x := mI i) rfl rfl (fun j e => by cases e; omega) hs8, ob]
      try dsimp only
      rw [show cO c (some i) s = c (i, s) from rfl, ite_mI (by omega) (by omega), E_X8_premisesBy_585, mI_s, if_pos g1]
    · rw [if_pos (b2_0.mpr g1), if_neg g1]
      rw [E_X8_premisesBy_585, mI_s, if_neg (show ¬ 268435456 < v from Nat.not_lt.mpr hv)]) (fun v hv => by
    try dsimp only
    rw [E_X8_premisesBy_547, q_46_33, ob, h'.lm.1, if_pos (by rw [nle (by omega) (by omega)]; exact Nat.le_refl _)])
  refine ⟨_, lp, PV.px hs hH ⟨by decide, by decide, by decide, by decide⟩ (pv_min (fun i hi z => ?_) (fun l hl => ?_))⟩
  · try dsimp only at z ⊢
    by_cases g : ∃ t, t < D ∧ opO S i = 16 ∧ plO S i t = some k
    · rw [if_pos g]
      exact by obtain ⟨t, t1, t2, t3⟩ := g; exact ⟨[i], ⟨hk, i, t, hi, t2, t1, t3, rfl⟩, by rw [sum_1]⟩
    · rw [if_neg g] at z; exact absurd z (Nat.lt_irrefl _)
  · obtain ⟨i, t, i1, t2, t1, t3, rfl⟩ := hl.2
    refine ⟨i, i1, ?_⟩
    try dsimp only
    rw [if_pos (show ∃ t, t < D ∧ opO S i = 16 ∧ plO S i t = some k from ⟨t, t1, t2, t3⟩), sum_1]
    exact Nat.le_refl _
theorem m_pr9 (h' : ME u D S tl H q h c) (hk : k < S.length) (hs : s < 2 ^ (asm S S.length).length) (hH : H 9) : ∃ pv, F_X8_premisesBy (P.2.1 + 46) 9 (mI k) (mI s) (hp P u ex n sl) = some (mI pv, hp P u ex n sl) ∧ PXm D S tl H q c 9 k s pv := by
  have h40 := h'.K
  have hs8 := s_8 hs
  have hnd := h'.lm.2.1.2.2
  rw [E_X8_premisesBy, z_46, ob, E_X8_premisesBy_0, if_neg (by decide), if_neg (by decide), if_neg (by decide), if_neg (by decide), if_neg (by decide), if_neg (by decide), if_neg (by decide), if_neg (by decide), if_neg (by decide), if_pos rfl]
  have lp := loopM (f := fun i v => R_X8_premisesBy_465 (P.2.1 + 46) (mI k) (mI s) v (mI i) (hp P u ex n sl)) (g := fun i => sm (c (i, s)) (sm (cO c (cFO S i k) s) (cO c (cSO S i k) s))) (N := S.length) (r := fun v => (mI v, hp P u ex n sl)) (fun i hi v hv => by
    try dsimp only
    have cl := h'.cl (i, s)
    rw [E_X8_premisesBy_465, q_46_33, ob, h'.lm.1, if_neg (show ¬ mI S.length ≤ mI i by rw [nle (by omega) (by omega)]; omega)]
    have e2 : 40 * mI i + mI k = mI (40 * i + k) := by
      show mI 40 * mI i + mI k = _
      rw [mI_mul, mI_add]
    rw [m_costAtO h' (o := some i) (x := mI i) rfl rfl (fun j e => by cases e; omega) hs8, ob]
    try dsimp only
    rw [q_46_30, ob, e2, ra_67 (by omega), ob, (h'.b hi hk).2.2.1, m_costAtO h' rfl rfl (fun i e => Nat.lt_of_lt_of_le (cF_lt e) h40) hs8, ob]
    try dsimp only
    rw [q_46_31, ob, ra_68 (by omega), ob, (h'.b hi hk).2.2.2, m_costAtO h' rfl rfl (fun i e => Nat.lt_of_lt_of_le (cS_lt e) h40) hs8, ob]
    try dsimp only
    rw [m_sum h'.cO h'.cO, ob]
    try dsimp only
    rw [show cO c (some i) s = c (i, s) from rfl, m_sum cl sm_le.2, ob]
    try dsimp only
    rw [ite_mI (by have := (sm_le (a := c (i, s)) (b := sm (cO c (cFO S i k) s) (cO c (cSO S i k) s))).2; omega) (by omega), mI_s]) (fun v hv => by
    try dsimp only
    rw [E_X8_premisesBy_465, q_46_33, ob, h'.lm.1, if_pos (by rw [nle (by omega) (by omega)]; exact Nat.le_refl _)])
  refine ⟨_, lp, PV.px hs hH ⟨by decide, by decide, by decide, by decide⟩ (pv_min (fun i hi z => ?_) (fun l hl => ?_))⟩
  · try dsimp only at z ⊢
    obtain ⟨e1, e2, e3⟩ := sm_eq z
    obtain ⟨f1, f2, f3⟩ := sm_eq e3
    obtain ⟨j, j1, j2⟩ := cO_lt f2
    obtain ⟨m, m1, m2⟩ := cO_lt f3
    obtain ⟨t, r, e, hc⟩ := wff_cases (at0_ok h'.lm hi).1
    by_cases g : t = 14
    · subst g
      rcases hc with ⟨h0, -⟩ | ⟨h1, -⟩ | ⟨-, b, d, rfl, hb, hd⟩
      · cases h0
      · cases h1
      · obtain ⟨c1, c2⟩ := cF_2 (j := k) e hb
        rw [c1] at j1
        rw [c2] at m1
        exact ⟨[i, j, m], ⟨hk, i, j, m, b, d, hi, e, hb, hd, j1, m1, rfl⟩, by rw [sum_3, e1, f1, j2, m2]⟩
    · rw [(cF_o e g).1] at j1
      cases j1
  · obtain ⟨i, j, m, b, d, i1, i2, i3, i4, i5, i6, rfl⟩ := hl.2
    refine ⟨i, i1, ?_⟩
    try dsimp only
    obtain ⟨c1, c2⟩ := cF_2 (j := k) i2 i3
    rw [c1, c2, i5, i6, sum_3]
    refine Nat.le_trans sm_le.1 (Nat.add_le_add_left ?_ _)
    exact sm_le.1
theorem m_pr12 (h' : ME u D S tl H q h c) (hk : k < S.length) (hs : s < 2 ^ (asm S S.length).length) (hH : H 12) : ∃ pv, F_X8_premisesBy (P.2.1 + 46) 12 (mI k) (mI s) (hp P u ex n sl) = some (mI pv, hp P u ex n sl) ∧ PXm D S tl H q c 12 k s pv := by
  have h40 := h'.K
  have hs8 := s_8 hs
  have hnd := h'.lm.2.1.2.2
  rw [E_X8_premisesBy, z_46, ob, E_X8_premisesBy_0, if_neg (by decide), if_neg (by decide), if_neg (by decide), if_neg (by decide), if_neg (by decide), if_neg (by decide), if_neg (by decide), if_neg (by decide), if_neg (by decide), if_neg (by decide), if_neg (by decide), if_neg (by decide), if_pos rfl]
  rw [q_46_23, ob, ra_60 (by omega), ob, (h'.a hk).1]
  have hD := h'.2.1
  have hD3 := h'.2.2.2.1
  by_cases g : opO S k = 16
  · rw [if_pos (by rw [g]; rfl)]
    have lp := loopS (f := fun i v => R_X8_premisesBy_615 (P.2.1 + 46) (mI k) (mI s) v (mI i) (hp P u ex n sl)) (g := fun t => cO c (plO S k t) s) (N := D) (r := fun v => (mI v, hp P u ex n sl)) (fun t ht v hv => by
      try dsimp only
      have e2 : 3 * mI k + mI t = mI (3 * k + t) := by
        show mI 3 * mI k + mI t = _
        rw [mI_mul, mI_add]
      rw [E_X8_premisesBy_615, m_d, ob, hD]
      try dsimp only
      rw [if_neg (show ¬ mI D ≤ mI t by rw [nle (by omega) (by omega)]; omega), q_46_26, ob, e2, ra_63 (by omega), ob, (h'.a hk).2.2.2.1 t ht, m_costAtO h' rfl rfl (fun i e => pl_40 h' e) hs8, ob]
      try dsimp only
      rw [m_sum hv h'.cO, ob, mI_s]) (fun v hv => by
      try dsimp only
      rw [E_X8_premisesBy_615, m_d, ob, hD]
      exact if_pos (by rw [nle (by omega) (by omega)]; exact Nat.le_refl _))
    refine ⟨_, lp, PV.px hs hH ⟨by decide, by decide, by decide, by decide⟩ (pv_one ?_ (fun z => ?_) (fun l hl => ?_))⟩
    · cases D with
      | zero => exact Nat.zero_le _
      | succ D => exact sm_le.2
    · obtain ⟨z1, z2⟩ := smO_sum (f := id) D z
      exact ⟨_, ⟨hk, g, _, z1, rfl⟩, z2⟩
    · obtain ⟨-, f, i1, rfl⟩ := hl.2
      exact smO_le D i1
  · rw [if_neg (show ¬ mI (opO S k) = 16 from neqN (m := 16) (by have := h'.op hk; omega) (by decide) g)]
    exact ⟨268435456, rfl, PV.px hs hH ⟨by decide, by decide, by decide, by decide⟩ (pv_none (fun l hl => g hl.2.1))⟩
theorem m_pr13 (h' : ME u D S tl H q h c) (hk : k < S.length) (hs : s < 2 ^ (asm S S.length).length) (hH : H 13) : ∃ pv, F_X8_premisesBy (P.2.1 + 46) 13 (mI k) (mI s) (hp P u ex n sl) = some (mI pv, hp P u ex n sl) ∧ PXm D S tl H q c 13 k s pv := by
  have h40 := h'.K
  have hs8 := s_8 hs
  have hnd := h'.lm.2.1.2.2
  rw [E_X8_premisesBy, z_46, ob, E_X8_premisesBy_0, if_neg (by decide), if_neg (by decide), if_neg (by decide), if_neg (by decide), if_neg (by decide), if_neg (by decide), if_neg (by decide), if_neg (by decide), if_neg (by decide), if_neg (by decide), if_neg (by decide), if_neg (by decide), if_neg (by decide), if_pos rfl]
  have hD := h'.2.1
  have hD1 := h'.2.2.1
  have hD3 := h'.2.2.2.1
  by_cases g : opO S k = 17
  · have lp := loopM (f := fun i v => R_X8_premisesBy_659 (P.2.1 + 46) (mI k) (mI s) v (mI i) (hp P u ex n sl)) (g := fun t => cO c (plO S k t) s) (N := D) (r := fun v => (mI v, hp P u ex n sl)) (fun t ht v hv => by
      try dsimp only
      have e2 : 3 * mI k + mI t = mI (3 * k + t) := by
        show mI 3 * mI k + mI t = _
        rw [mI_mul, mI_add]
      have cl := h'.cO (o := plO S k t) (s := s)
      rw [E_X8_premisesBy_659, m_d, ob, hD]
      try dsimp only
      rw [if_neg (show ¬ mI D ≤ mI t by rw [nle (by omega) (by omega)]; omega), q_46_23, ob, ra_60 (by omega), ob, (h'.a hk).1, if_pos (by rw [g]; rfl), q_46_26, ob, e2, ra_63 (by omega), ob, (h'.a hk).2.2.2.1 t ht, m_costAtO h' rfl rfl (fun i e => pl_40 h' e) hs8, ob]
      try dsimp only
      rw [ite_mI (by omega) (by omega), mI_s]) (fun v hv => by
      try dsimp only
      rw [E_X8_premisesBy_659, m_d, ob, hD]
      exact if_pos (by rw [nle (by omega) (by omega)]; exact Nat.le_refl _))
    refine ⟨_, lp, PV.px hs hH ⟨by decide, by decide, by decide, by decide⟩ (pv_min (fun t ht z => ?_) (fun l hl => ?_))⟩
    · obtain ⟨i, i1, i2⟩ := cO_lt z
      exact ⟨[i], ⟨hk, g, i, t, ht, i1, rfl⟩, by rw [sum_1, ← i2]⟩
    · obtain ⟨-, i, t, t1, i1, rfl⟩ := hl.2
      refine ⟨t, t1, ?_⟩
      try dsimp only
      rw [i1, sum_1]
      exact Nat.le_refl _
  · rw [E_X8_premisesBy_659, m_d, ob, hD]
    try dsimp only
    rw [if_neg (show ¬ mI D ≤ 0 by
      intro z
      have z' : mI D ≤ mI 0 := z
      rw [nle (by omega) (by omega)] at z'
      omega), q_46_23, ob, ra_60 (by omega), ob, (h'.a hk).1, if_neg (show ¬ mI (opO S k) = 17 from neqN (m := 17) (by have := h'.op hk; omega) (by decide) g)]
    exact ⟨268435456, rfl, PV.px hs hH ⟨by decide, by decide, by decide, by decide⟩ (pv_none (fun l hl => g hl.2.1))⟩
theorem m_pr14 (h' : ME u D S tl H q h c) (hk : k < S.length) (hs : s < 2 ^ (asm S S.length).length) (hH : H 14) : ∃ pv, F_X8_premisesBy (P.2.1 + 46) 14 (mI k) (mI s) (hp P u ex n sl) = some (mI pv, hp P u ex n sl) ∧ PXm D S tl H q c 14 k s pv := by
  have h40 := h'.K
  have hs8 := s_8 hs
  have hnd := h'.lm.2.1.2.2
  rw [E_X8_premisesBy, z_46, ob, E_X8_premisesBy_0, if_neg (by decide), if_neg (by decide), if_neg (by decide), if_neg (by decide), if_neg (by decide), if_neg (by decide), if_neg (by decide), if_neg (by decide), if_neg (by decide), if_neg (by decide), if_neg (by decide), if_neg (by decide), if_neg (by decide), if_neg (by decide)]
  have lp := loopM (f := fun i v => R_X8_premisesBy_714 (P.2.1 + 46) (mI s) v (mI i) (hp P u ex n sl)) (g := fun i => if opO S i = 12 then sm (cO c (lfO S i) s) (c (i, s)) else 268435456) (N := S.length) (r := fun v => (mI v, hp P u ex n sl)) (fun i hi v hv => by
    try dsimp only
    have cl := h'.cl (i, s)
    rw [E_X8_premisesBy_714, q_46_33, ob, h'.lm.1, if_neg (show ¬ mI S.length ≤ mI i by rw [nle (by omega) (by omega)]; omega)]
    rw [q_46_23, ob, ra_60 (by omega), ob, (h'.a hi).1]
    by_cases g1 : opO S i = 12
    · rw [if_pos (by rw [g1]; rfl), q_46_24, ob, ra_61 (by omega), ob, (h'.a hi).2.1, m_costAtO h' rfl rfl (fun i e => lf_40 h' e) hs8, ob]
      try dsimp only
      rw [m_costAtO h' (o := some i) (x := mI i) rfl rfl (fun j e => by cases e; omega) hs8, ob]
      try dsimp only
      rw [show cO c (some i) s = c (i, s) from rfl, m_sum h'.cO cl, ob]
      try dsimp only
      rw [ite_mI (by have := (sm_le (a := cO c (lfO S i) s) (b := c (i, s))).2; omega) (by omega), E_X8_premisesBy_764, mI_s, if_pos g1]
    · rw [if_neg (show ¬ mI (opO S i) = 12 from neqN (m := 12) (by have := h'.op hi; omega) (by decide) g1), if_neg g1]
      rw [E_X8_premisesBy_764, mI_s, if_neg (show ¬ 268435456 < v from Nat.not_lt.mpr hv)]) (fun v hv => by
    try dsimp only
    rw [E_X8_premisesBy_714, q_46_33, ob, h'.lm.1, if_pos (by rw [nle (by omega) (by omega)]; exact Nat.le_refl _)])
  refine ⟨_, lp, (mnO_le _).1, fun z => ?_, fun ps b hI => ?_⟩
  · obtain ⟨i, i1, i2⟩ := mnO_at _ z
    rw [i2] at z ⊢
    try dsimp only at z ⊢
    by_cases g : opO S i = 12
    · rw [if_pos g] at z ⊢
      obtain ⟨e1, e2, e3⟩ := sm_eq z
      obtain ⟨j, j1, j2⟩ := cO_lt e2
      refine ⟨[(j, s), (i, s)], 0, ⟨hk, hs, hH, Or.inr (Or.inr (Or.inr (Or.inl ⟨rfl, ⟨i, j, i1, g, j1, rfl⟩, rfl⟩)))⟩, ?_⟩
      rw [e1, j2]
      simp [sumC]
    · rw [if_neg g] at z; exact absurd z (Nat.lt_irrefl _)
  · obtain ⟨-, -, -, ⟨g4, -⟩ | ⟨g4, -⟩ | ⟨g4, -⟩ | ⟨-, ⟨i, j, i1, i2, i3, rfl⟩, rfl⟩ | ⟨l, g4, -⟩⟩ := hI
    · cases g4
    · cases g4
    · cases g4
    · refine ⟨0, rfl, Nat.le_trans ((mnO_le _).2 i i1) ?_⟩
      try dsimp only
      rw [if_pos i2, i3]
      have := (sm_le (a := cO c (some j) s) (b := c (i, s))).1
      refine Nat.le_trans this ?_
      simp [sumC, cO]
    · exact absurd g4.r.2.1 (by decide)
theorem m_pr10 (h' : ME u D S tl H q h c) (hk : k < S.length) (hs : s < 2 ^ (asm S S.length).length) (hH : H 10) : ∃ pv, F_X8_premisesBy (P.2.1 + 46) 10 (mI k) (mI s) (hp P u ex n sl) = some (mI pv, hp P u ex n sl) ∧ PXm D S tl H q c 10 k s pv := by
  have h40 := h'.K
  have hs8 := s_8 hs
  have hnd := h'.lm.2.1.2.2
  have nn : ∀ pv, pv = (268435456 : Nat) → (¬ (H 1 ∧ opO S k = 15 ∧ ∃ i m, lfO S k = some i ∧ m < (asm S S.length).length ∧ (asm S S.length).getD m 0 = i)) → PXm D S tl H q c 10 k s pv := by
    rintro pv rfl g
    refine ⟨Nat.le_refl _, fun z => absurd z (Nat.lt_irrefl _), fun ps b hI => ?_⟩
    obtain ⟨-, -, -, ⟨g4, -⟩ | ⟨g4, -⟩ | ⟨-, g1, g2, i, j, m, g3, g4, g5, -⟩ | ⟨g4, -⟩ | ⟨l, g4, -⟩⟩ := hI
    · cases g4
    · cases g4
    · exact absurd ⟨g1, g2, i, m, g3, g4, g5⟩ g
    · cases g4
    · exact absurd rfl g4.r.2.2
  rw [E_X8_premisesBy, z_46, ob, E_X8_premisesBy_0, if_neg (by decide), if_neg (by decide), if_neg (by decide), if_neg (by decide), if_neg (by decide), if_neg (by decide), if_neg (by decide), if_neg (by decide), if_neg (by decide), if_neg (by decide), if_pos rfl]
  rw [E_X8_givenBy, z_46, ob, E_X8_givenBy_0, q_46_23, ob, ra_60 (by omega), ob, (h'.a hk).1]
  by_cases g : opO S k = 15
  · rw [if_pos (by rw [g]; rfl), q_46_24, ob, ra_61 (by omega), ob, (h'.a hk).2.1]
    cases el : lfO S k with
    | none =>
      rw [if_pos (show thOf none < 0 by decide), E_X8_givenBy_45]
      exact ⟨268435456, rfl, nn _ rfl (fun z => by obtain ⟨-, -, i, m, e, -⟩ := z; rw [el] at e; cases e)⟩
    | some i =>
      have hi := lf_lt el
      rw [if_neg (show ¬ thOf (some i) < 0 from mI_0 (by omega)), ob, ra_61 (by omega), ob, (h'.a hk).2.1, el, m_assumedAt (i := i) (x := thOf (some i)) rfl h'.as (by omega), ob]
      try dsimp only
      cases es : slO (asm S S.length) i with
      | none =>
        rw [if_pos (show thOf none < 0 by decide), E_X8_givenBy_45]
        refine ⟨268435456, rfl, nn _ rfl (fun z => ?_)⟩
        obtain ⟨-, -, i', m, e1, e2, e3⟩ := z
        rw [el] at e1
        cases e1
        rw [slO_of (asm_ok S.length).2.1 e2 e3] at es
        cases es
      | some m =>
        have hm := sl_3 h' es
        obtain ⟨m1, m2⟩ := slO_some es
        rw [if_neg (show ¬ thOf (some m) < 0 from mI_0 (by omega)), q_46_35, ob, h'.2.2.2.2.2.1, m_hasRule (r := 1) (v := 1) rfl rfl h'.2.2.2.2.1, ob]
        try dsimp only
        by_cases g1 : H 1
        · have hs2 : s ||| 2 ^ m < 2 ^ (asm S S.length).length := Nat.or_lt_two_pow hs (Nat.pow_lt_pow_right (by decide) m1)
          have lc1 := lc_le h' (r := 1) (by decide) hi
          rw [if_neg (fun z => b2_0.mp z ((h'.2.2.2.2.2.2.1 1).mpr g1)), q_46_25, ob, ra_62 (by omega), ob, (h'.a hk).2.2.1, q_46_24, ob, ra_61 (by omega), ob, (h'.a hk).2.1, el, m_assumedAt (i := i) (x := thOf (some i)) rfl h'.as (by omega), ob, es]
          try dsimp only
          rw [thOf_some, or_s s hs8 m hm, m_costAtO h' rfl rfl (fun i e => rt_40 h' e) (s_8 hs2), ob]
          try dsimp only
          rw [q_46_35, ob, h'.2.2.2.2.2.1, q_46_24, ob, ra_61 (by omega), ob, (h'.a hk).2.1, el, thOf_some, show 30 + mI i = mI (30 + i) from mI_add 30 i, m_lc h' (r := 1) (v := 1) (k := i) rfl rfl rfl (by decide) hi, ob]
          try dsimp only
          rw [m_sum h'.cO (by omega), ob]
          refine ⟨_, rfl, sm_le.2, fun z => ?_, fun ps b hI => ?_⟩
          · obtain ⟨e1, e2, e3⟩ := sm_eq z
            obtain ⟨j, j1, j2⟩ := cO_lt e2
            refine ⟨[(j, s ||| 2 ^ m)], lcO S q (q 16) 1 i, ⟨hk, hs, hH, Or.inr (Or.inr (Or.inl ⟨rfl, g1, g, i, j, m, el, m1, m2, j1, rfl, rfl⟩))⟩, ?_⟩
            rw [e1, j2]
            simp [sumC]
            omega
          · obtain ⟨-, -, -, ⟨g4, -⟩ | ⟨g4, -⟩ | ⟨-, -, -, i', j, m', g3, g4, g5, g6, rfl, rfl⟩ | ⟨g4, -⟩ | ⟨l, g4, -⟩⟩ := hI
            · cases g4
            · cases g4
            · rw [el] at g3
              cases g3
              rw [slO_of (asm_ok S.length).2.1 g4 g5] at es
              cases es
              refine ⟨lcO S q (q 16) 1 i, rfl, ?_⟩
              rw [g6]
              have := (sm_le (a := cO c (some j) (s ||| 2 ^ m)) (b := lcO S q (q 16) 1 i)).1
              refine Nat.le_trans this ?_
              simp [sumC, cO]
              omega
            · cases g4
            · exact absurd rfl g4.r.2.2
        · rw [if_pos (b2_0.mpr (fun z => g1 ((h'.2.2.2.2.2.2.1 1).mp z))), E_X8_givenBy_45]
          exact ⟨268435456, rfl, nn _ rfl (fun z => g1 z.1)⟩
  · rw [if_neg (show ¬ mI (opO S k) = 15 from neqN (m := 15) (by have := h'.op hk; omega) (by decide) g), E_X8_givenBy_45]
    exact ⟨268435456, rfl, nn _ rfl (fun z => g z.2.1)⟩
end MPR
