/-! the class lists the steps of a place: all; then of every place -/
section CPR
variable {P : sP} {S0 e : Nat} {w w' u u' v : sW} {ex : Nat → Option sC} {n sl D F L R U k : Nat} {y : sLn} {φ : Nat → List Nat} {nf ν : Nat → Nat} {nd : Nat → List Nat} {S : List (List Nat)} {A : List Nat} {Z : List zT}
abbrev ptO (D : Nat) (S : List (List Nat)) (k t : Nat) : Option Nat := if t < D then plO S k t else none
theorem pt_40 (h40 : S.length ≤ 40) {t i : Nat} (h : ptO D S k t = some i) : i < 40 := by
  unfold ptO at h
  by_cases g : t < D
  · rw [if_pos g] at h; have := pl_lt h; omega
  · rw [if_neg g] at h; cases h
theorem c_lsAll (hE : EV u U D nd S ν A) (hZ : SZ u Z) (hl : Z.length + 4 ≤ 560) (hk : k < S.length) (ho : opO S k = 16) : LSz P ex n sl u Z D S A k 4 (F_X4_listAllSteps (P.2.1 + 38) (mI k) (hp P u ex n sl)) := by
  have h40 := hE.2.1.2.1.1
  have hD1 := hE.2.2.2.2.1
  have hD3 := hE.2.2.2.2.2
  obtain ⟨m1, m2, m3, -⟩ := hE.2.1.2.2 k hk
  obtain ⟨x0, a0, b0⟩ := c_inst (P := P) (ex := ex) (n := n) (sl := sl) hE hk (Or.inl ho) (t := 0) (by decide)
  obtain ⟨x1, a1, b1⟩ := c_inst (P := P) (ex := ex) (n := n) (sl := sl) hE hk (Or.inl ho) (t := 1) (by decide)
  obtain ⟨x2, a2, b2'⟩ := c_inst (P := P) (ex := ex) (n := n) (sl := sl) hE hk (Or.inl ho) (t := 2) (by decide)
  have q0 := adZ_len (r := 11) (o := ptO D S k 0) (p1 := some k) (p2 := none) (p3 := none)
  have q1 := adZ_len (r := 11) (o := ptO D S k 1) (p1 := some k) (p2 := none) (p3 := none)
  have q2 := adZ_len (r := 11) (o := ptO D S k 2) (p1 := some k) (p2 := none) (p3 := none)
  obtain ⟨v1, c1, c2, c3⟩ := c_addStep (P := P) (ex := ex) (n := n) (sl := sl) (r := 11) (o := ptO D S k 0) (p1 := some k) (p2 := none) (p3 := none) (x1 := 11) (x2 := thOf (ptO D S k 0)) (x3 := mI k) (x4 := -1) (x5 := -1) rfl rfl rfl rfl rfl hZ (by omega) (fun i h => pt_40 h40 h)
  obtain ⟨v2, d1, d2, d3⟩ := c_addStep (P := P) (ex := ex) (n := n) (sl := sl) (r := 11) (o := ptO D S k 1) (p1 := some k) (p2 := none) (p3 := none) (x1 := 11) (x2 := thOf (ptO D S k 1)) (x3 := mI k) (x4 := -1) (x5 := -1) rfl rfl rfl rfl rfl c3 (by rw [List.length_append]; omega) (fun i h => pt_40 h40 h)
  obtain ⟨v3, f1, f2, f3⟩ := c_addStep (P := P) (ex := ex) (n := n) (sl := sl) (r := 11) (o := ptO D S k 2) (p1 := some k) (p2 := none) (p3 := none) (x1 := 11) (x2 := thOf (ptO D S k 2)) (x3 := mI k) (x4 := -1) (x5 := -1) rfl rfl rfl rfl rfl d3 (by rw [List.length_append, List.length_append]; omega) (fun i h => pt_40 h40 h)
  have fr3 : Fr [43] [3810] u v3 := c2.tr (d2.tr f2)
  have hE3 := hE.fr fr3
  generalize hX : adZ 11 (ptO D S k 0) (some k) none none ++ (adZ 11 (ptO D S k 1) (some k) none none ++ adZ 11 (ptO D S k 2) (some k) none none) = X
  have hX3 : SZ v3 (Z ++ X) := by
    rw [← hX]
    rw [List.append_assoc, List.append_assoc] at f3
    exact f3
  have hXl : X.length ≤ 3 := by rw [← hX, List.length_append, List.length_append]; omega
  have mX : ∀ z, z ∈ X ↔ ∃ t j, t < D ∧ plO S k t = some j ∧ z = (11, j, some k, none, none) := by
    intro z
    rw [← hX, List.mem_append, List.mem_append, mem_adZ, mem_adZ, mem_adZ]
    have pt : ∀ t j, ptO D S k t = some j ↔ t < D ∧ plO S k t = some j := by
      intro t j
      unfold ptO
      by_cases g : t < D
      · rw [if_pos g]; exact ⟨fun h => ⟨g, h⟩, fun h => h.2⟩
      · rw [if_neg g]; exact ⟨(fun h => by cases h), (fun h => absurd h.1 g)⟩
    constructor
    · rintro (⟨j, h1, h2⟩ | ⟨j, h1, h2⟩ | ⟨j, h1, h2⟩)
      · exact ⟨0, j, ((pt 0 j).mp h1).1, ((pt 0 j).mp h1).2, h2⟩
      · exact ⟨1, j, ((pt 1 j).mp h1).1, ((pt 1 j).mp h1).2, h2⟩
      · exact ⟨2, j, ((pt 2 j).mp h1).1, ((pt 2 j).mp h1).2, h2⟩
    · rintro ⟨t, j, h1, h2, h3⟩
      have : t = 0 ∨ t = 1 ∨ t = 2 := by omega
      rcases this with rfl | rfl | rfl
      · exact Or.inl ⟨j, (pt 0 j).mpr ⟨h1, h2⟩, h3⟩
      · exact Or.inr (Or.inl ⟨j, (pt 1 j).mpr ⟨h1, h2⟩, h3⟩)
      · exact Or.inr (Or.inr ⟨j, (pt 2 j).mpr ⟨h1, h2⟩, h3⟩)
  -- with the last step, or with none
  have e12 : (∀ t, t < D → ptO D S k t ≠ none) → LSz P ex n sl u Z D S A k 4 (R_X4_listAllSteps_132 (P.2.1 + 38) (mI k) (thOf (ptO D S k 0)) (thOf (ptO D S k 1)) (thOf (ptO D S k 2)) 1 (hp P v3 ex n sl)) := by
    intro h
    obtain ⟨v4, g1, g2, g3⟩ := c_addStep (P := P) (ex := ex) (n := n) (sl := sl) (r := 12) (o := some k) (p1 := ptO D S k 0) (p2 := ptO D S k 1) (p3 := ptO D S k 2) (x1 := 12) (x2 := mI k) (x3 := thOf (ptO D S k 0)) (x4 := thOf (ptO D S k 1)) (x5 := thOf (ptO D S k 2)) rfl rfl rfl rfl rfl hX3 (by rw [List.length_append]; omega) (fun m h => by cases h; omega)
    rw [E_X4_listAllSteps_132, if_neg (by decide), g1, ob]
    refine ⟨v4, X ++ adZ 12 (some k) (ptO D S k 0) (ptO D S k 1) (ptO D S k 2), rfl, fr3.tr g2, by rw [← List.append_assoc]; exact g3, fun z => ?_, by rw [List.length_append]; exact Nat.add_le_add hXl adZ_len⟩
    rw [gz_16 ho, List.mem_append, mX, mem_adZ]
    refine or_congr Iff.rfl ?_
    constructor
    · rintro ⟨t, h1, h2⟩
      cases h1
      refine ⟨fun t => (ptO D S k t).getD 0, fun t ht => ?_, ?_⟩
      · have := h t ht
        unfold ptO at this
        rw [if_pos ht] at this
        show plO S k t = some ((if t < D then plO S k t else none).getD 0)
        rw [if_pos ht]
        cases ep : plO S k t with
        | none => exact absurd ep this
        | some i => rfl
      · rw [h2]
        have eo : ∀ t, t < D → ptO D S k t = some ((ptO D S k t).getD 0) := fun t ht => by
          have := h t ht
          cases ep : ptO D S k t with
          | none => exact absurd ep this
          | some i => rfl
        have en : ∀ t, ¬ t < D → ptO D S k t = none := fun t ht => if_neg ht
        have p0 := eo 0 (by omega)
        have p1 : ptO D S k 1 = if 1 < D then some ((ptO D S k 1).getD 0) else none := by
          by_cases g : 1 < D
          · rw [if_pos g]; exact eo 1 g
          · rw [if_neg g]; exact en 1 g
        have p2 : ptO D S k 2 = if 2 < D then some ((ptO D S k 2).getD 0) else none := by
          by_cases g : 2 < D
          · rw [if_pos g]; exact eo 2 g
          · rw [if_neg g]; exact en 2 g
        rw [← p0, ← p1, ← p2]
    · rintro ⟨f, h1, h2⟩
      refine ⟨k, rfl, ?_⟩
      have p0 : ptO D S k 0 = some (f 0) := by unfold ptO; rw [if_pos (by omega)]; exact h1 0 (by omega)
      have p1 : ptO D S k 1 = if 1 < D then some (f 1) else none := by
        unfold ptO
        by_cases g : 1 < D
        · rw [if_pos g, if_pos g]; exact h1 1 g
        · rw [if_neg g, if_neg g]
      have p2 : ptO D S k 2 = if 2 < D then some (f 2) else none := by
        unfold ptO
        by_cases g : 2 < D
        · rw [if_pos g, if_pos g]; exact h1 2 g
        · rw [if_neg g, if_neg g]
      rw [h2, p0, p1, p2]
  have e131 : ∀ t, t < D → ptO D S k t = none → LSz P ex n sl u Z D S A k 4 (R_X4_listAllSteps_131 (P.2.1 + 38) (mI k) (thOf (ptO D S k 0)) (thOf (ptO D S k 1)) (thOf (ptO D S k 2)) (hp P v3 ex n sl)) := by
    intro t ht hn
    rw [E_X4_listAllSteps_131, E_X4_listAllSteps_132, if_pos rfl]
    refine ⟨v3, X, rfl, fr3, hX3, fun z => ?_, by omega⟩
    rw [gz_16 ho, mX]
    constructor
    · exact Or.inl
    · rintro (h | ⟨f, h1, -⟩)
      · exact h
      · unfold ptO at hn
        rw [if_pos ht, h1 t ht] at hn
        cases hn
  have ne : ∀ t, ptO D S k t ≠ none → ¬ thOf (ptO D S k t) = -1 := fun t h => by
    rw [thOf_m1 (fun i hi => by have := pt_40 h40 hi; omega)]; exact h
  have eq : ∀ t, ptO D S k t = none → thOf (ptO D S k t) = -1 := fun t h => by rw [h]; rfl
  have e110 : (∀ t, t < 2 → t < D → ptO D S k t ≠ none) → LSz P ex n sl u Z D S A k 4 (R_X4_listAllSteps_110 (P.2.1 + 38) (mI k) (thOf (ptO D S k 0)) (thOf (ptO D S k 1)) (thOf (ptO D S k 2)) (hp P v3 ex n sl)) := by
    intro h
    rw [E_X4_listAllSteps_110, q_38_1, ob, q_9_0, ob, hE3.2.2.2.1]
    by_cases g3 : D < 3
    · rw [if_pos (show mI D < 3 by rw [nltL (by omega) (by decide)]; exact g3), E_X4_listAllSteps_127]
      exact e12 (fun t ht => h t (by omega) ht)
    · rw [if_neg (show ¬ mI D < 3 by rw [nltL (by omega) (by decide)]; exact g3)]
      by_cases g : ptO D S k 2 = none
      · rw [if_pos (eq 2 g)]
        exact e131 2 (by omega) g
      · rw [if_neg (ne 2 g), E_X4_listAllSteps_127]
        refine e12 (fun t ht => ?_)
        by_cases g2 : t < 2
        · exact h t g2 ht
        · have : t = 2 := by omega
          rw [this]; exact g
  rw [E_X4_listAllSteps, z_38, ob, E_X4_listAllSteps_0, q_38_0, ob, q_38_2, ob, ra_39 (by omega), ob, m1, c_placedOf (t := 0) (v := 0) hE.1 rfl rfl m2 (by decide), ob, a0]
  try dsimp only
  rw [b0, ob]
  try dsimp only
  rw [q_38_0, ob, q_38_2, ob, ra_39 (by omega), ob, m1, c_placedOf (t := 1) (v := 1) hE.1 rfl rfl m2 (by decide), ob, a1]
  try dsimp only
  rw [b1, ob]
  try dsimp only
  rw [q_38_0, ob, q_38_2, ob, ra_39 (by omega), ob, m1, c_placedOf (t := 2) (v := 2) hE.1 rfl rfl m2 (by decide), ob, a2]
  try dsimp only
  rw [b2', ob]
  try dsimp only
  rw [c1, ob]
  try dsimp only
  rw [d1, ob]
  try dsimp only
  rw [f1, ob]
  try dsimp only
  by_cases g0 : ptO D S k 0 = none
  · rw [if_pos (eq 0 g0)]
    exact e131 0 (by omega) g0
  · rw [if_neg (ne 0 g0), q_38_1, ob, q_9_0, ob, hE3.2.2.2.1]
    by_cases g2 : D < 2
    · rw [if_pos (show mI D < 2 by rw [nltL (by omega) (by decide)]; exact g2)]
      exact e110 (fun t _ ht => by have : t = 0 := by omega
                                   rw [this]; exact g0)
    · rw [if_neg (show ¬ mI D < 2 by rw [nltL (by omega) (by decide)]; exact g2)]
      by_cases g1 : ptO D S k 1 = none
      · rw [if_pos (eq 1 g1)]
        exact e131 1 (by omega) g1
      · rw [if_neg (ne 1 g1)]
        refine e110 (fun t h2 _ => ?_)
        have : t = 0 ∨ t = 1 := by omega
        rcases this with rfl | rfl
        · exact g0
        · exact g1
/-- how many steps a place may have -/
noncomputable def bdZ (S : List (List Nat)) (k : Nat) : Nat := if opO S k = 14 then 2 + cntP (fun i => opO S i = 15) S.length else 4
theorem c_listSteps (hE : EV u U D nd S ν A) (hZ : SZ u Z) (hl : Z.length + bdZ S k ≤ 560) (hk : k < S.length) : LSz P ex n sl u Z D S A k (bdZ S k) (F_X4_listSteps (P.2.1 + 38) (mI k) (hp P u ex n sl)) := by
  have hN := hE.1
  have hU : U ≤ 2 ^ 17 := Nat.le_trans hN.2.1 hN.2.2.1
  have h40 := hE.2.1.2.1.1
  obtain ⟨m1, m2, m3, -⟩ := hE.2.1.2.2 k hk
  have emp : opO S k ≤ 12 → (∀ t, t < S.length → ¬ at0 S k = 12 :: 12 :: at0 S t) → LSz P ex n sl u Z D S A k (bdZ S k) (some ((), hp P u ex n sl)) := fun h1 h2 => ⟨u, [], rfl, Fr.rf, by rw [List.append_nil]; exact hZ, fun z => by
    rw [gz_n h1]
    constructor
    · intro z; cases z
    · rintro ⟨t, t1, t2, -⟩; exact absurd t2 (h2 t t1), by simp⟩
  rw [E_X4_listSteps, z_38, ob, E_X4_listSteps_0, q_38_2, ob, ra_39 (by omega), ob, m1, q_38_0, ob, c_firstOf hN rfl m2, ob]
  try dsimp only
  have two : ∀ x y, ∃ p q, F_X4_placeOf (P.2.1 + 38) x (hp P u ex n sl) = some (p, hp P u ex n sl) ∧ F_X4_placeOf (P.2.1 + 38) y (hp P u ex n sl) = some (q, hp P u ex n sl) := fun x y => by
    obtain ⟨p, hp1⟩ := c_placeOfE (P := P) (ex := ex) (n := n) (sl := sl) hE.2.1 x
    obtain ⟨q, hq⟩ := c_placeOfE (P := P) (ex := ex) (n := n) (sl := sl) hE.2.1 y
    exact ⟨p, q, hp1, hq⟩
  rcases nf_k hN hE.2.1 hk with ⟨e2, e3, -⟩ | ⟨a, e2, e3, ha, en, -⟩ | ⟨i, a, b, hi, e2, e3, e4, ha, hb, en⟩ | ⟨i, a, hi, e2, ha, en, -⟩
  · obtain ⟨p, q, hp1, hq⟩ := two (u.2.2.1 3 (ν k)) (u.2.2.1 4 (ν k))
    rw [hp1, ob]
    try dsimp only
    rw [q_38_0, ob, c_secondOf hN rfl m2, ob]
    try dsimp only
    rw [hq, ob]
    try dsimp only
    rw [q_38_0, ob, c_kindOf hN rfl m2, ob, e2]
    try dsimp only
    rw [if_neg (by decide), if_neg (by decide), if_neg (by decide), if_neg (by decide), if_neg (by decide), if_neg (by decide)]
    exact emp (by omega) (fun t _ z => by rw [op_c z] at e3; omega)
  · obtain ⟨p, q, hp1, hq⟩ := two (u.2.2.1 3 (ν k)) (u.2.2.1 4 (ν k))
    rw [hp1, ob]
    try dsimp only
    rw [q_38_0, ob, c_secondOf hN rfl m2, ob]
    try dsimp only
    rw [hq, ob]
    try dsimp only
    rw [q_38_0, ob, c_kindOf hN rfl m2, ob, e2]
    try dsimp only
    rw [if_pos (show mI 1 = 1 from rfl), q_38_0, ob, c_firstOf hN rfl m2, ob, e3]
    try dsimp only
    rw [q_38_0, ob, c_kindOf hN rfl ha, ob]
    try dsimp only
    have o12 : opO S k = 12 := op_c en
    rcases (hN.2.2.2.1 a ha).1 with ⟨a', t, f2, -, -, ha', ht, -, fn⟩ | ⟨a', f2, f3, -, ha', fn⟩ | ⟨i, a', b', hi, f2, -, -, -, -, fn⟩ | ⟨i, a', hi, f2, -, -, -, fn, -⟩
    · rw [f2, if_neg (by decide)]
      refine emp (by omega) (fun t' _ z => ?_)
      rw [en, fn] at z
      have := (List.cons.inj (List.cons.inj z).2).1
      have := (asg_ar ha' ht).2
      omega
    · rw [f2, if_pos (show mI 1 = 1 from rfl), q_38_0, ob, c_firstOf hN rfl ha, ob, f3]
      try dsimp only
      have haU : a' < U := by omega
      rw [c_placeOf hN hE.2.1.lc haU, ob]
      try dsimp only
      obtain ⟨v1, b1, b2', b3⟩ := c_addStep (P := P) (ex := ex) (n := n) (sl := sl) (r := 8) (o := pos S (nd a')) (p1 := some k) (p2 := none) (p3 := none) (x1 := 8) (x2 := thOf (pos S (nd a'))) (x3 := mI k) (x4 := -1) (x5 := -1) rfl rfl rfl rfl rfl hZ (by unfold bdZ at hl; split at hl <;> omega) (fun i h => by have := (pos_some h).1; omega)
      rw [b1, ob]
      refine ⟨v1, _, rfl, b2', b3, fun z => ?_, Nat.le_trans adZ_len (by unfold bdZ; split <;> omega)⟩
      rw [gz_n (by omega), mem_adZ]
      constructor
      · rintro ⟨t, h1, h2⟩
        obtain ⟨t1, t2, -⟩ := pos_some h1
        exact ⟨t, t1, by rw [en, fn, t2], h2⟩
      · rintro ⟨t, t1, t2, t3⟩
        rw [en, fn] at t2
        have := (List.cons.inj (List.cons.inj t2).2).2
        exact ⟨t, by rw [this]; exact pos_at hE.2.1.2.1.2.2 t1, t3⟩
    · rw [f2, if_neg (show ¬ mI i = 1 from neqN (m := 1) (by omega) (by decide) (by omega))]
      refine emp (by omega) (fun t' _ z => ?_)
      rw [en, fn] at z
      have := (List.cons.inj (List.cons.inj z).2).1
      omega
    · rw [f2, if_neg (show ¬ mI i = 1 from neqN (m := 1) (by omega) (by decide) (by omega))]
      refine emp (by omega) (fun t' _ z => ?_)
      rw [en, fn] at z
      have := (List.cons.inj (List.cons.inj z).2).1
      omega
  · have lf : lfO S k = pos S (nd a) := lf_2 en (ar_k hi) (nd_wff hN a ha)
    have rt : rtO S k = pos S (nd b) := rt_2 en (ar_k hi) (nd_wff hN a ha)
    have ho : opO S k = 11 + i := op_c en
    rw [e3, c_placeOf hN hE.2.1.lc ha, ob]
    try dsimp only
    rw [q_38_0, ob, c_secondOf hN rfl m2, ob, e4]
    try dsimp only
    rw [c_placeOf hN hE.2.1.lc hb, ob]
    try dsimp only
    rw [q_38_0, ob, c_kindOf hN rfl m2, ob, e2, ← lf, ← rt]
    try dsimp only
    have fin : ∀ (B : Nat) (r : Option (Unit × sS)), B ≤ bdZ S k → LSz P ex n sl u Z D S A k B r → LSz P ex n sl u Z D S A k (bdZ S k) (r.bind fun q => some ((), q.2)) := by
      intro B r hB h
      obtain ⟨u', X, h1, h2, h3, h4, h5⟩ := h
      exact ⟨u', X, by rw [h1]; rfl, h2, h3, h4, by omega⟩
    rcases hi with rfl | rfl | rfl
    · have e4' : bdZ S k = 4 := if_neg (by omega)
      rw [if_neg (by decide), if_pos (show mI 2 = 2 from rfl)]
      exact fin 4 _ (by omega) (c_lsAnd hZ (by omega) h40 hk ho)
    · have e4' : bdZ S k = 2 + cntP (fun i => opO S i = 15) S.length := if_pos ho
      rw [if_neg (by decide), if_neg (by decide), if_pos (show mI 3 = 3 from rfl)]
      exact fin _ _ (by omega) (c_lsOr hE hZ (by omega) hk ho)
    · have e4' : bdZ S k = 4 := if_neg (by omega)
      rw [if_neg (by decide), if_neg (by decide), if_neg (by decide), if_pos (show mI 4 = 4 from rfl)]
      exact fin 4 _ (by omega) (c_lsIf hE hZ (by omega) hk ho)
  · obtain ⟨p, q, hp1, hq⟩ := two (u.2.2.1 3 (ν k)) (u.2.2.1 4 (ν k))
    have ho : opO S k = 11 + i := op_c en
    have e4' : bdZ S k = 4 := if_neg (by omega)
    rw [hp1, ob]
    try dsimp only
    rw [q_38_0, ob, c_secondOf hN rfl m2, ob]
    try dsimp only
    rw [hq, ob]
    try dsimp only
    rw [q_38_0, ob, c_kindOf hN rfl m2, ob, e2]
    try dsimp only
    rcases hi with rfl | rfl
    · rw [if_neg (by decide), if_neg (by decide), if_neg (by decide), if_neg (by decide), if_pos (show mI 5 = 5 from rfl)]
      obtain ⟨u', X, h1, h2, h3, h4, h5⟩ := c_lsAll (P := P) (ex := ex) (n := n) (sl := sl) hE hZ (by omega) hk ho
      exact ⟨u', X, by rw [h1]; rfl, h2, h3, h4, by omega⟩
    · rw [if_neg (by decide), if_neg (by decide), if_neg (by decide), if_neg (by decide), if_neg (by decide), if_pos (show mI 6 = 6 from rfl)]
      obtain ⟨u', X, h1, h2, h3, h4, h5⟩ := c_lsSome (P := P) (ex := ex) (n := n) (sl := sl) hE hZ (by omega) hk ho
      exact ⟨u', X, by rw [h1]; rfl, h2, h3, h4, by omega⟩
end CPR
