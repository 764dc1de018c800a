/-! what the model counts as costs -/
theorem shl_s : ∀ m, m < 4 → (1 : Int32) <<< (mI m &&& 31) = mI (2 ^ m) := by decide
def updN (c : nN → Nat) (x : nN) (v : Nat) : nN → Nat := fun y => if y = x then v else c y
def sA (c : nN → Nat) : Nat → Nat
  | 0 => 0
  | i + 1 => sA c i + c (i / 8, i % 8)
theorem sA_le {c c' : nN → Nat} (h : ∀ x, c' x ≤ c x) : ∀ N, sA c' N ≤ sA c N := by
  intro N
  induction N with
  | zero => exact Nat.le_refl _
  | succ N ih => exact Nat.add_le_add ih (h _)
theorem sA_lt {c c' : nN → Nat} (h : ∀ x, c' x ≤ c x) {k s : Nat} (hs : s < 8) (hl : c' (k, s) < c (k, s)) : ∀ N, 8 * k + s < N → sA c' N < sA c N := by
  intro N
  induction N with
  | zero => intro z; exact absurd z (Nat.not_lt_zero _)
  | succ N ih =>
    intro z
    by_cases e : 8 * k + s = N
    · subst e
      have e1 : (8 * k + s) / 8 = k := by omega
      have e2 : (8 * k + s) % 8 = s := by omega
      have := sA_le h (8 * k + s)
      show sA c' (8 * k + s) + c' ((8 * k + s) / 8, (8 * k + s) % 8) < sA c (8 * k + s) + c ((8 * k + s) / 8, (8 * k + s) % 8)
      rw [e1, e2]
      omega
    · have h1 := ih (by omega)
      have h2 := h (N / 8, N % 8)
      show sA c' N + c' (N / 8, N % 8) < sA c N + c (N / 8, N % 8)
      omega
section MCO
variable {P : sP} {S0 e : Nat} {w u u' v : sW} {ex : Nat → Option sC} {n sl D F L R U h k s : Nat} {y : sLn} {φ : Nat → List Nat} {S : List (List Nat)} {A : List Nat} {tl H : Nat → Prop} {q : Nat → Nat} {c : nN → Nat}
theorem m_prem (h' : ME u D S tl H q h c) (hk : k < S.length) (hs : s < 2 ^ (asm S S.length).length) {r : Nat} (hr : r < 15) (hH : H r) : ∃ pv, F_X8_premisesBy (P.2.1 + 46) (mI r) (mI k) (mI s) (hp P u ex n sl) = some (mI pv, hp P u ex n sl) ∧ PXm D S tl H q c r k s pv := by
  have : r = 0 ∨ r = 1 ∨ r = 2 ∨ r = 3 ∨ r = 4 ∨ r = 5 ∨ r = 6 ∨ r = 7 ∨ r = 8 ∨ r = 9 ∨ r = 10 ∨ r = 11 ∨ r = 12 ∨ r = 13 ∨ r = 14 := by omega
  rcases this with rfl | rfl | rfl | rfl | rfl | rfl | rfl | rfl | rfl | rfl | rfl | rfl | rfl | rfl | rfl
  · exact m_pr0 h' hk hs hH
  · exact m_pr1 h' hk hs hH
  · exact m_pr2 h' hk hs hH
  · exact m_pr3 h' hk hs hH
  · exact m_pr4 h' hk hs hH
  · exact m_pr5 h' hk hs hH
  · exact m_pr6 h' hk hs hH
  · exact m_pr7 h' hk hs hH
  · exact m_pr8 h' hk hs hH
  · exact m_pr9 h' hk hs hH
  · exact m_pr10 h' hk hs hH
  · exact m_pr11 h' hk hs hH
  · exact m_pr12 h' hk hs hH
  · exact m_pr13 h' hk hs hH
  · exact m_pr14 h' hk hs hH
theorem m_41 {a : Nat} {σ : sS} (ha : a ≤ 268435456) : R_X8_byRule_41 (mI a) σ = some (mI (lmt a), σ) := by
  rw [E_X8_byRule_41]
  unfold lmt
  by_cases g : a ≤ 99999
  · rw [if_pos g, if_pos (show mI a ≤ 99999 by rw [nleL (by omega) (by decide)]; exact g)]
  · rw [if_neg g, if_neg (show ¬ mI a ≤ 99999 by rw [nleL (by omega) (by decide)]; exact g)]
    rfl
theorem m_byRule (h' : ME u D S tl H q h c) (hk : k < S.length) (hs : s < 2 ^ (asm S S.length).length) {r : Nat} (hr : r < 15) : ∃ v, F_X8_byRule (P.2.1 + 46) (mI r) (mI k) (mI s) (hp P u ex n sl) = some (mI v, hp P u ex n sl) ∧ BV (IIm D S tl H q) c r (k, s) v := by
  have h40 := h'.K
  rw [E_X8_byRule, z_46, ob, E_X8_byRule_0, q_46_35, ob, h'.2.2.2.2.2.1, m_hasRule rfl rfl h'.2.2.2.2.1, ob]
  try dsimp only
  by_cases g : H r
  · obtain ⟨pv, p1, p2⟩ := m_prem (P := P) (ex := ex) (n := n) (sl := sl) h' hk hs hr g
    have lc1 := lc_le h' (r := r) (by omega) hk
    rw [if_neg (fun z => b2_0.mp z ((h'.2.2.2.2.2.2.1 r).mpr g)), p1, ob]
    try dsimp only
    rw [q_46_35, ob, h'.2.2.2.2.2.1, show 30 + mI k = mI (30 + k) from mI_add 30 k, m_lc h' (r := r) (k := k) rfl rfl rfl (by omega) hk, ob]
    try dsimp only
    rw [m_sum p2.1 (by omega), ob]
    try dsimp only
    rw [m_41 sm_le.2]
    exact ⟨_, rfl, p2.bv⟩
  · rw [if_pos (b2_0.mpr (fun z => g ((h'.2.2.2.2.2.2.1 r).mp z))), show (268435456 : Int32) = mI 268435456 from rfl, m_41 (Nat.le_refl _)]
    refine ⟨_, rfl, lmt_far, fun z => ?_, fun ps b hI => absurd hI.2.2.1 g⟩
    unfold lmt at z
    rw [if_neg (by decide)] at z
    exact absurd z (Nat.lt_irrefl _)
/-- the least over all rules -/
theorem m_rules (h' : ME u D S tl H q h c) (hk : k < S.length) (hs : s < 2 ^ (asm S S.length).length) (fl : Int32) : ∃ v, R_X8_costs_103 (P.2.1 + 46) fl (mI k) (mI s) (mI (c (k, s))) 0 (hp P u ex n sl) = R_X8_costs_103 (P.2.1 + 46) fl (mI k) (mI s) (mI v) 15 (hp P u ex n sl) ∧ v ≤ c (k, s) ∧ (v = c (k, s) ∨ ∃ r ps b, IIm D S tl H q r (k, s) ps b ∧ v = b + sumC c ps ∧ v ≤ 99999) ∧ ∀ r ps b, IIm D S tl H q r (k, s) ps b → v ≤ lmt (b + sumC c ps) := by
  have key : ∀ m, m ≤ 15 → ∃ v, R_X8_costs_103 (P.2.1 + 46) fl (mI k) (mI s) (mI (c (k, s))) 0 (hp P u ex n sl) = R_X8_costs_103 (P.2.1 + 46) fl (mI k) (mI s) (mI v) (mI m) (hp P u ex n sl) ∧ v ≤ c (k, s) ∧ (v = c (k, s) ∨ ∃ r ps b, IIm D S tl H q r (k, s) ps b ∧ v = b + sumC c ps ∧ v ≤ 99999) ∧ ∀ r ps b, r < m → IIm D S tl H q r (k, s) ps b → v ≤ lmt (b + sumC c ps) := by
    intro m
    induction m with
    | zero => intro _; exact ⟨c (k, s), rfl, Nat.le_refl _, Or.inl rfl, fun r ps b hr => absurd hr (Nat.not_lt_zero _)⟩
    | succ m ih =>
      intro hm
      obtain ⟨v, v1, v2, v3, v4⟩ := ih (by omega)
      obtain ⟨x, x1, x2, x3, x4⟩ := m_byRule (P := P) (ex := ex) (n := n) (sl := sl) h' hk hs (r := m) (by omega)
      have hc := h'.cl (k, s)
      refine ⟨if x < v then x else v, ?_, ?_, ?_, fun r ps b hr hI => ?_⟩
      · rw [v1, E_X8_costs_103, if_neg (show ¬ (15 : Int32) ≤ mI m by rw [nleR (by omega) (by decide)]; exact Nat.not_le.mpr (by omega)), x1, ob]
        try dsimp only
        rw [ite_mI (by omega) (by omega), mI_s]
      · by_cases g : x < v
        · rw [if_pos g]; omega
        · rw [if_neg g]; exact v2
      · by_cases g : x < v
        · rw [if_pos g]
          obtain ⟨ps, b, i1, i2, i3⟩ := x3 (by omega)
          exact Or.inr ⟨m, ps, b, i1, i2, i3⟩
        · rw [if_neg g]; exact v3
      · by_cases e : r = m
        · subst e
          have := x4 ps b hI
          by_cases g : x < v
          · rw [if_pos g]; exact this
          · rw [if_neg g]; omega
        · have := v4 r ps b (by omega) hI
          by_cases g : x < v
          · rw [if_pos g]; omega
          · rw [if_neg g]; exact this
  obtain ⟨v, v1, v2, v3, v4⟩ := key 15 (Nat.le_refl _)
  exact ⟨v, v1, v2, v3, fun r ps b hI => v4 r ps b (by have := hI.lt.2.2.1; omega) hI⟩
theorem ME.upd (h' : ME u D S tl H q h c) (hk : k < 40) (hs : s < 8) {v : Nat} (hv : v ≤ 268435456) : ME (wA u 70 (8 * k + s) (mI v)) D S tl H q h (updN c (k, s) v) := by
  have f : Fr [70] [] u (wA u 70 (8 * k + s) (mI v)) := Fr.rf.pA (by decide)
  obtain ⟨⟨a1, a2, a3, a4⟩, b1, b2', b3, b4, b5, b6, b7, b8, b9, b10⟩ := h'
  have e47 : (wA u 70 (8 * k + s) (mI v)).2.2.1 47 = u.2.2.1 47 := f.a (by decide)
  refine ⟨⟨⟨a1.1, a1.2.1, fun i hi => (a1.2.2 i hi).fr f (by decide) (by decide)⟩, ?_, fun j hj => (a3 j hj).fr f (by decide) (by decide) (by decide) (by decide) (by decide), fun k hk j hj => ?_⟩, by rw [e47]; exact b1, b2', b3, b4, b5, by rw [e47]; exact b6, by rw [e47]; exact b7, b8, fun x => ?_, fun k' hk' s' hs' => ?_⟩
  · show AS _ _ _
    rw [f.a (k := 69) (by decide)]
    exact a2
  · unfold RLb
    rw [f.a (k := 65) (by decide), f.a (k := 66) (by decide), f.a (k := 67) (by decide), f.a (k := 68) (by decide)]
    exact a4 k hk j hj
  · unfold updN
    by_cases g : x = (k, s)
    · rw [if_pos g]; exact hv
    · rw [if_neg g]; exact b9 x
  · unfold updN
    by_cases g : (k', s') = (k, s)
    · cases g
      rw [if_pos rfl]
      exact wA_s
    · rw [if_neg g, wA_n (Or.inr (fun z => g (by
        have h1 : k' = k := by omega
        have h2 : s' = s := by omega
        rw [h1, h2])))]
      exact b10 k' hk' s' hs'
/-- one place under one set of assumptions -/
theorem m_item (h' : ME u D S tl H q h c) (hc : snd (IIm D S tl H q) c) (hk : k < S.length) (hs : s < 2 ^ (asm S S.length).length) (fl : Int32) (hf : fl = 0 ∨ fl = 1) : ∃ v fl', R_X8_costs_79 (P.2.1 + 46) fl (mI k) (mI s) (hp P u ex n sl) = R_X8_costs_79 (P.2.1 + 46) fl' (mI k) (mI (s + 1)) (hp P (wA u 70 (8 * k + s) (mI v)) ex n sl) ∧ v ≤ 268435456 ∧ mu (IIm D S tl H q) (k, s) ≤ v ∧ ((fl' = fl ∧ v = c (k, s)) ∨ (fl' = 1 ∧ v ≤ c (k, s) ∧ (fl = 1 ∨ v < c (k, s)))) ∧ ∀ r ps b, IIm D S tl H q r (k, s) ps b → v ≤ lmt (b + sumC c ps) := by
  have h40 := h'.K
  have hs8 := s_8 hs
  obtain ⟨v, v1, v2, v3, v4⟩ := m_rules (P := P) (ex := ex) (n := n) (sl := sl) h' hk hs fl
  have cl := h'.cl (k, s)
  have eA := h'.as.1
  have e1 : 8 * mI k + mI s = mI (8 * k + s) := by
    show mI 8 * mI k + mI s = _
    rw [mI_mul, mI_add]
  have hA3 := (asm_ok (S := S) S.length).1
  have hmu : mu (IIm D S tl H q) (k, s) ≤ v := by
    rcases v3 with z | ⟨r, ps, b, i1, i2, i3⟩
    · rw [z]; exact (hc (k, s)).1
    · have := snd_step hc i1
      unfold lmt at this
      rw [if_pos (by omega)] at this
      omega
  have st : R_X8_costs_79 (P.2.1 + 46) fl (mI k) (mI s) (hp P u ex n sl) = R_X8_costs_103 (P.2.1 + 46) fl (mI k) (mI s) (mI v) 15 (hp P u ex n sl) := by
    rw [E_X8_costs_79, q_46_34, ob, eA, shl_s _ (by omega), if_neg (show ¬ mI (2 ^ (asm S S.length).length) ≤ mI s by
      have : 2 ^ (asm S S.length).length ≤ 2 ^ 3 := Nat.pow_le_pow_right (by decide) hA3
      rw [nle (by omega) (by omega)]; omega), m_costAtO h' (o := some k) (x := mI k) rfl rfl (fun j e => by cases e; omega) hs8, ob]
    exact v1
  have en : ∀ fl', R_X8_costs_156 (P.2.1 + 46) (mI k) (mI s) (mI v) fl' (hp P u ex n sl) = R_X8_costs_79 (P.2.1 + 46) fl' (mI k) (mI (s + 1)) (hp P (wA u 70 (8 * k + s) (mI v)) ex n sl) := by
    intro fl'
    rw [E_X8_costs_156, q_46_36, ob, e1, wa_70 (by omega), ob, mI_s]
  rw [st, E_X8_costs_103, if_pos (by decide)]
  by_cases g0 : fl = 0
  · rw [if_pos g0, m_costAtO h' (o := some k) (x := mI k) rfl rfl (fun j e => by cases e; omega) hs8, ob]
    try dsimp only
    by_cases g : c (k, s) ≤ v
    · have ev : v = c (k, s) := by omega
      rw [if_pos (show mI (cO c (some k) s) ≤ mI v by rw [show cO c (some k) s = c (k, s) from rfl, nle (by omega) (by omega)]; exact g), en 0]
      exact ⟨v, 0, rfl, by omega, hmu, Or.inl ⟨g0.symm, ev⟩, v4⟩
    · rw [if_neg (show ¬ mI (cO c (some k) s) ≤ mI v by rw [show cO c (some k) s = c (k, s) from rfl, nle (by omega) (by omega)]; exact g), E_X8_costs_151, en 1]
      exact ⟨v, 1, rfl, by omega, hmu, Or.inr ⟨rfl, v2, Or.inr (by omega)⟩, v4⟩
  · have g1 : fl = 1 := hf.resolve_left g0
    rw [if_neg g0, E_X8_costs_151, en 1]
    exact ⟨v, 1, rfl, by omega, hmu, Or.inr ⟨rfl, v2, Or.inl g1⟩, v4⟩
/-- how far a pass is -/
def PS (I : Nat → nN → List nN → Nat → Prop) (c0 c : nN → Nat) (fl : Int32) (dn : nN → Prop) : Prop := snd I c ∧ (∀ x, c x ≤ c0 x) ∧ ((fl = 0 ∧ c = c0 ∧ ∀ r x ps b, dn x → I r x ps b → c x ≤ lmt (b + sumC c ps)) ∨ (fl = 1 ∧ sA c 320 < sA c0 320))
theorem PS.st {I : Nat → nN → List nN → Nat → Prop} {c0 : nN → Nat} {fl fl' : Int32} {dn dn' : nN → Prop} {v : Nat} (hp9 : PS I c0 c fl dn) (hk : k < 40) (hs : s < 8) (h1 : v ≤ 268435456) (h2 : mu I (k, s) ≤ v) (h3 : (fl' = fl ∧ v = c (k, s)) ∨ (fl' = 1 ∧ v ≤ c (k, s) ∧ (fl = 1 ∨ v < c (k, s)))) (h4 : ∀ r ps b, I r (k, s) ps b → v ≤ lmt (b + sumC c ps)) (hd : ∀ x, dn' x → dn x ∨ x = (k, s)) : PS I c0 (updN c (k, s) v) fl' dn' := by
  obtain ⟨p1, p2, p3⟩ := hp9
  have ule : ∀ x, updN c (k, s) v x ≤ c x := by
    intro x
    unfold updN
    by_cases g : x = (k, s)
    · rw [if_pos g, g]; rcases h3 with z | z <;> omega
    · rw [if_neg g]; exact Nat.le_refl _
  refine ⟨fun x => ?_, fun x => Nat.le_trans (ule x) (p2 x), ?_⟩
  · unfold updN
    by_cases g : x = (k, s)
    · rw [if_pos g, g]; exact ⟨h2, h1⟩
    · rw [if_neg g]; exact p1 x
  · have eu : v = c (k, s) → updN c (k, s) v = c := by
      intro z
      funext x
      unfold updN
      by_cases g : x = (k, s)
      · rw [if_pos g, g, z]
      · rw [if_neg g]
    have hlt : sA (updN c (k, s) v) 320 ≤ sA c 320 := sA_le ule 320
    have hlt2 : v < c (k, s) → sA (updN c (k, s) v) 320 < sA c 320 := fun z => sA_lt ule hs (by show (if (k, s) = (k, s) then v else c (k, s)) < _; rw [if_pos rfl]; exact z) 320 (by omega)
    have hle0 : sA c 320 ≤ sA c0 320 := sA_le p2 320
    rcases h3 with ⟨z1, z2⟩ | ⟨z1, z2, z3⟩
    · rw [z1, eu z2]
      rcases p3 with ⟨y1, y2, y3⟩ | y
      · refine Or.inl ⟨y1, y2, fun r x ps b hx hI => ?_⟩
        rcases hd x hx with w | w
        · exact y3 r x ps b w hI
        · subst w
          rw [← z2]
          exact h4 r ps b hI
      · exact Or.inr y
    · refine Or.inr ⟨z1, ?_⟩
      rcases p3 with ⟨y1, y2, y3⟩ | ⟨y1, y2⟩
      · rcases z3 with z3 | z3
        · rw [y1] at z3; exact absurd z3 (by decide)
        · have := hlt2 z3; omega
      · omega
/-- a pass -/
theorem m_pass (h' : ME u D S tl H q h c) (hc : snd (IIm D S tl H q) c) : ∃ u' c' fl', R_X8_costs_67 (P.2.1 + 46) 0 0 (hp P u ex n sl) = R_X8_costs_56 (P.2.1 + 46) fl' (hp P u' ex n sl) ∧ Fr [70] [] u u' ∧ ME u' D S tl H q h c' ∧ PS (IIm D S tl H q) c c' fl' (fun x => x.1 < S.length ∧ x.2 < 2 ^ (asm S S.length).length) := by
  have h40 := h'.K
  have hA3 := (asm_ok (S := S) S.length).1
  have hA8 : 2 ^ (asm S S.length).length ≤ 8 := Nat.pow_le_pow_right (by decide) hA3
  have inner : ∀ k, k < S.length → ∀ d s (v : sW) c1 fl, s + d = 2 ^ (asm S S.length).length → Fr [70] [] u v → ME v D S tl H q h c1 → (fl = 0 ∨ fl = 1) → PS (IIm D S tl H q) c c1 fl (fun x => (x.1 < k ∧ x.2 < 2 ^ (asm S S.length).length) ∨ (x.1 = k ∧ x.2 < s)) → ∃ v' c2 fl', R_X8_costs_79 (P.2.1 + 46) fl (mI k) (mI s) (hp P v ex n sl) = R_X8_costs_67 (P.2.1 + 46) fl' (mI (k + 1)) (hp P v' ex n sl) ∧ Fr [70] [] u v' ∧ ME v' D S tl H q h c2 ∧ (fl' = 0 ∨ fl' = 1) ∧ PS (IIm D S tl H q) c c2 fl' (fun x => x.1 < k + 1 ∧ x.2 < 2 ^ (asm S S.length).length) := by
    intro k hk d
    induction d with
    | zero =>
      intro s v c1 fl hs hv hM hfl hPS
      have hs' : s = 2 ^ (asm S S.length).length := by omega
      refine ⟨v, c1, fl, ?_, hv, hM, hfl, hPS.1, hPS.2.1, hPS.2.2.imp (fun z => ⟨z.1, z.2.1, fun r x ps b hx hI => z.2.2 r x ps b (by
        by_cases g : x.1 = k
        · exact Or.inr ⟨g, by rw [hs']; exact hx.2⟩
        · exact Or.inl ⟨by omega, hx.2⟩) hI⟩) id⟩
      rw [E_X8_costs_79, q_46_34, ob, hM.as.1, shl_s _ (by omega), ← hs', if_pos (by rw [nle (by omega) (by omega)]; exact Nat.le_refl _), mI_s]
    | succ d ih =>
      intro s v c1 fl hs hv hM hfl hPS
      obtain ⟨x, fl', i1, i2, i3, i4, i5⟩ := m_item (P := P) (ex := ex) (n := n) (sl := sl) hM hPS.1 hk (s := s) (by omega) fl hfl
      rw [i1]
      refine ih (s + 1) _ (updN c1 (k, s) x) fl' (by omega) (hv.pA (by decide)) (hM.upd (by omega) (by omega) i2) ?_ (hPS.st (by omega) (by omega) i2 i3 i4 i5 (fun y hy => ?_))
      · rcases i4 with z | z
        · rw [z.1]; exact hfl
        · exact Or.inr z.1
      · rcases hy with z | ⟨z1, z2⟩
        · exact Or.inl (Or.inl z)
        · by_cases g : y.2 = s
          · exact Or.inr (Prod.ext z1 g)
          · exact Or.inl (Or.inr ⟨z1, by omega⟩)
  have outer : ∀ d k (v : sW) c1 fl, k + d = S.length → Fr [70] [] u v → ME v D S tl H q h c1 → (fl = 0 ∨ fl = 1) → PS (IIm D S tl H q) c c1 fl (fun x => x.1 < k ∧ x.2 < 2 ^ (asm S S.length).length) → ∃ u' c' fl', R_X8_costs_67 (P.2.1 + 46) fl (mI k) (hp P v ex n sl) = R_X8_costs_56 (P.2.1 + 46) fl' (hp P u' ex n sl) ∧ Fr [70] [] u u' ∧ ME u' D S tl H q h c' ∧ PS (IIm D S tl H q) c c' fl' (fun x => x.1 < S.length ∧ x.2 < 2 ^ (asm S S.length).length) := by
    intro d
    induction d with
    | zero =>
      intro k v c1 fl hk hv hM hfl hPS
      have hk' : k = S.length := by omega
      subst hk'
      refine ⟨v, c1, fl, ?_, hv, hM, hPS⟩
      rw [E_X8_costs_67, q_46_33, ob, hM.lm.1, if_pos (by rw [nle (by omega) (by omega)]; exact Nat.le_refl _)]
    | succ d ih =>
      intro k v c1 fl hk hv hM hfl hPS
      obtain ⟨v', c2, fl', i1, i2, i3, i4, i5⟩ := inner k (by omega) _ 0 v c1 fl (Nat.zero_add _) hv hM hfl ⟨hPS.1, hPS.2.1, hPS.2.2.imp (fun z => ⟨z.1, z.2.1, fun r x ps b hx hI => z.2.2 r x ps b (by
        rcases hx with y | y
        · exact y
        · exact absurd y.2 (Nat.not_lt_zero _)) hI⟩) id⟩
      obtain ⟨u', c3, fl3, j1, j2, j3, j4⟩ := ih (k + 1) v' c2 fl' (by omega) i2 i3 i4 i5
      refine ⟨u', c3, fl3, ?_, j2, j3, j4⟩
      rw [E_X8_costs_67, q_46_33, ob, hM.lm.1, if_neg (show ¬ mI S.length ≤ mI k by rw [nle (by omega) (by omega)]; omega)]
      exact i1.trans j1
  exact outer S.length 0 u c 0 (by omega) Fr.rf h' (Or.inl rfl) ⟨hc, fun _ => Nat.le_refl _, Or.inl ⟨rfl, rfl, fun r x ps b hx => absurd hx.1 (Nat.not_lt_zero _)⟩⟩
/-- pass after pass, until nothing changes -/
def rsO (v : Nat) : Int32 := if v < 268435456 then mI v else -1
theorem m_passes : ∀ N (u : sW) c, sA c 320 ≤ N → ME u D S tl H q h c → snd (IIm D S tl H q) c → ∃ u', R_X8_costs_67 (P.2.1 + 46) 0 0 (hp P u ex n sl) = some (rsO (mu (IIm D S tl H q) (0, 0)), hp P u' ex n sl) ∧ Fr [70] [] u u' ∧ ME u' D S tl H q h (mu (IIm D S tl H q)) := by
  intro N
  induction N using Nat.strongRecOn with
  | _ N ih =>
    intro u c hN h' hc
    obtain ⟨u1, c1, fl, i1, i2, i3, i4⟩ := m_pass (P := P) (ex := ex) (n := n) (sl := sl) h' hc
    obtain ⟨j1, j2, ⟨j3, j4, j5⟩ | ⟨j3, j4⟩⟩ := i4
    · have ec : c1 = mu (IIm D S tl H q) := by
        funext x
        exact clo_eq (X := fun _ => True) j1 (fun r x ps b _ hI => j5 r x ps b ⟨hI.1, hI.2.1⟩ hI) (fun _ _ _ _ _ _ _ _ => Or.inl trivial) x trivial
      rw [ec] at i3
      refine ⟨u1, ?_, i2, i3⟩
      rw [i1, E_X8_costs_56, if_pos j3, m_costAtO i3 (o := some 0) (x := 0) (y := 0) (s := 0) rfl rfl (fun j e => by cases e; decide) (by decide), ob]
      try dsimp only
      have cl := mu_far (I := IIm D S tl H q) (x := (0, 0))
      unfold rsO
      by_cases g : mu (IIm D S tl H q) (0, 0) < 268435456
      · rw [if_pos g, if_pos (show mI (cO (mu (IIm D S tl H q)) (some 0) 0) < 268435456 by rw [show cO (mu (IIm D S tl H q)) (some 0) 0 = mu (IIm D S tl H q) (0, 0) from rfl, nltL (by omega) (by decide)]; exact g), m_costAtO i3 (o := some 0) (x := 0) (y := 0) (s := 0) rfl rfl (fun j e => by cases e; decide) (by decide), ob]
        rfl
      · rw [if_neg g, if_neg (show ¬ mI (cO (mu (IIm D S tl H q)) (some 0) 0) < 268435456 by rw [show cO (mu (IIm D S tl H q)) (some 0) 0 = mu (IIm D S tl H q) (0, 0) from rfl, nltL (by omega) (by decide)]; exact g)]
    · obtain ⟨u2, k1, k2, k3⟩ := ih (sA c1 320) (by omega) u1 c1 (Nat.le_refl _) i3 j1
      refine ⟨u2, ?_, i2.tr k2, k3⟩
      rw [i1, E_X8_costs_56, j3, if_neg (by decide)]
      exact k1
end MCO
