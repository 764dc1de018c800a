/-! truth in the model -/
theorem bt_mI {k i : Nat} (hi : i < 32) : bt (mI k) i = k.testBit i := by
  unfold bt
  show (BitVec.ofNat 32 k).getLsbD i = _
  rw [BitVec.getLsbD_ofNat, decide_eq_true hi, Bool.true_and]
theorem full_mk {D : Nat} (h1 : 1 ≤ D) (h3 : D ≤ 3) : ((1 : Int32) <<< (mI D &&& 31)) - 1 = mk32 (fun _ => True) D := by
  have e : ∀ k, mk32 (fun _ => True) (k + 1) = mk32 (fun _ => True) k ||| on32 k := fun k => mk32_t (p := fun _ => True) trivial
  rcases (show D = 1 ∨ D = 2 ∨ D = 3 by omega) with rfl | rfl | rfl
  · rw [e]; show _ = (0 : Int32) ||| on32 0; decide
  · rw [e, e]; show _ = ((0 : Int32) ||| on32 0) ||| on32 1; decide
  · rw [e, e, e]; show _ = (((0 : Int32) ||| on32 0) ||| on32 1) ||| on32 2; decide
section MK3
variable {D : Nat} {p q : Nat → Prop}
theorem bt_mkb (hD : D ≤ 3) {i : Nat} (hi : i < 32) : bt (mk32 p D) i = @decide (i < D ∧ p i) (Classical.propDecidable _) := by
  have := bt_mk (p := p) (k := D) (i := i) (by omega) hi
  by_cases h : i < D ∧ p i
  · rw [this.mpr h]; exact (@decide_eq_true _ (Classical.propDecidable _) h).symm
  · rw [@decide_eq_false _ (Classical.propDecidable _) h, ← Bool.not_eq_true]; exact fun z => h (this.mp z)
theorem mk_not (hD : D ≤ 3) : (mk32 p D ^^^ (-1)) &&& mk32 (fun _ => True) D = mk32 (fun t => ¬ p t) D := by
  apply bt_ext
  intro i hi
  rw [bt_and, bt_not _ hi, bt_mkb hD hi, bt_mkb hD hi, bt_mkb hD hi]
  by_cases h : i < D <;> by_cases g : p i <;> simp [h, g]
theorem mk_and (hD : D ≤ 3) : mk32 p D &&& mk32 q D = mk32 (fun t => p t ∧ q t) D := by
  apply bt_ext
  intro i hi
  rw [bt_and, bt_mkb hD hi, bt_mkb hD hi, bt_mkb hD hi]
  by_cases h : i < D <;> by_cases g : p i <;> by_cases g' : q i <;> simp [h, g, g']
theorem mk_or (hD : D ≤ 3) : mk32 p D ||| mk32 q D = mk32 (fun t => p t ∨ q t) D := by
  apply bt_ext
  intro i hi
  rw [bt_or, bt_mkb hD hi, bt_mkb hD hi, bt_mkb hD hi]
  by_cases h : i < D <;> by_cases g : p i <;> by_cases g' : q i <;> simp [h, g, g']
theorem mk_z (hD : D ≤ 3) : (mk32 p D = 0) = ¬ ∃ t, t < D ∧ p t := by
  apply propext
  constructor
  · rintro h ⟨t, h1, h2⟩
    have := congrArg (fun z => bt z t) h
    simp only [bt_0] at this
    rw [(bt_mk (by omega) (by omega)).mpr ⟨h1, h2⟩] at this
    exact absurd this (by decide)
  · intro h
    apply bt_ext
    intro i hi
    rw [bt_0, ← Bool.not_eq_true, bt_mk (by omega) hi]
    exact fun z => h ⟨i, z⟩
theorem mk_f (hD : D ≤ 3) : (mk32 p D = mk32 (fun _ => True) D) = ∀ t, t < D → p t := by
  apply propext
  constructor
  · intro h t ht
    have := congrArg (fun z => bt z t = true) h
    simp only [eq_iff_iff] at this
    exact ((bt_mk (by omega) (by omega)).mp (this.mpr ((bt_mk (by omega) (by omega)).mpr ⟨ht, trivial⟩))).2
  · intro h
    exact mk32_congr fun i hi => ⟨fun _ => trivial, fun _ => h i hi⟩
theorem mk_F (hp : ∀ t, t < D → ¬ p t) : mk32 p D = 0 := by
  induction D with
  | zero => rfl
  | succ k ih => rw [mk32_f (hp k (by omega)), ih fun t ht => hp t (by omega)]
end MK3
section MTr
variable {P : sP} {w : sW} {ex : Nat → Option sC} {n sl : Nat} {D : Nat}
theorem m_ofSign {s wd : Nat} (hD : w.2.2.1 47 0 = mI D) (h1 : 1 ≤ D) (h3 : D ≤ 3) (hs : s < 12) : F_X8_ofSign (P.2.1 + 46) (mI s) (mI wd) (hp P w ex n sl) = some (mk32 (vat D wd s) D, hp P w ex n sl) := by
  have sel : ∀ b : Nat, b < 32 → ∀ p : Nat → Prop, (∀ t, t < D → (p t ↔ wd.testBit b = true)) → (if ((mI wd >>> (mI b &&& 31)) &&& 1) = 1 then some (mk32 (fun _ => True) D, hp P w ex n sl) else some (0, hp P w ex n sl)) = some (mk32 p D, hp P w ex n sl) := by
    intro b hb p hpp
    by_cases g : wd.testBit b = true
    · rw [if_pos (by rw [t32o hb, bt_mI hb]; exact g), mk32_congr (p := p) (q := fun _ => True) fun i hi => ⟨fun _ => trivial, fun _ => (hpp i hi).mpr g⟩]
    · rw [if_neg (by rw [t32o hb, bt_mI hb]; exact g), mk_F fun t ht z => g ((hpp t ht).mp z)]
  have shf : ∀ b : Nat, b < 20 → (mI wd >>> (mI b &&& 31)) &&& mk32 (fun _ => True) D = mk32 (fun t => wd.testBit (b + t) = true) D := by
    intro b hb
    apply bt_ext
    intro i hi
    rw [bt_and, bt_shr (by omega) _ hi, bt_mkb h3 hi, bt_mkb h3 hi]
    by_cases g : i < D
    · rw [if_pos (by omega), bt_mI (by omega)]
      cases wd.testBit (b + i) <;> simp [g]
    · simp [g]
  rw [E_X8_ofSign, z_46, ob, E_X8_ofSign_0, m_d, ob, hD]
  try dsimp only
  rw [full_mk h1 h3]
  by_cases g : s < 4
  · rw [if_neg (by rw [nleR (by omega) (by decide)]; exact Nat.not_le.mpr g)]
    exact sel s (by omega) _ fun t _ => by unfold vat; rw [if_pos g]
  · rw [if_pos (by rw [nleR (by omega) (by decide)]; exact Nat.not_lt.mp g)]
    by_cases g4 : s = 4
    · rw [if_pos (by rw [neqL (by omega) (by decide)]; exact g4)]
      have := shf 4 (by decide)
      refine congrArg (fun z => some (z, hp P w ex n sl)) (Eq.trans this (mk32_congr fun t _ => ?_))
      unfold vat
      rw [if_neg g, if_pos g4]
    · rw [if_neg (by rw [neqL (by omega) (by decide)]; exact g4)]
      by_cases g5 : s = 5
      · rw [if_pos (by rw [neqL (by omega) (by decide)]; exact g5), m_d, ob, hD]
        try dsimp only
        rw [naddR]
        have := shf (4 + D) (by omega)
        refine congrArg (fun z => some (z, hp P w ex n sl)) (Eq.trans this (mk32_congr fun t _ => ?_))
        unfold vat
        rw [if_neg g, if_neg g4, if_pos g5]
      · rw [if_neg (by rw [neqL (by omega) (by decide)]; exact g5)]
        by_cases g9 : s < 9
        · rw [if_neg (by rw [nleR (by omega) (by decide)]; exact Nat.not_le.mpr g9), E_X8_ofSign_82, naddR, nsubL (by show 6 ≤ 4 + s; omega)]
          exact sel (4 + s - 6) (by omega) _ fun t _ => by unfold vat; rw [if_neg g, if_neg g4, if_neg g5, if_pos g9, show 4 + (s - 6) = 4 + s - 6 by omega]
        · rw [if_pos (by rw [nleR (by omega) (by decide)]; exact Nat.not_lt.mp g9), m_d, ob, hD]
          try dsimp only
          rw [E_X8_ofSign_82, naddR, nadd, nsubL (by show 9 ≤ 4 + D + s; omega)]
          exact sel (4 + D + s - 9) (by omega) _ fun t _ => by unfold vat; rw [if_neg g, if_neg g4, if_neg g5, if_neg g9, show 4 + D + (s - 9) = 4 + D + s - 9 by omega]
/-- the model's stack of values -/
def VS (D : Nat) (w : sW) (st : List (Nat → Prop)) : Prop := ∀ i, i < st.length → w.2.2.1 53 (st.length - 1 - i) = mk32 (st.getD i (fun _ => False)) D
theorem VS_top {a : Nat → Prop} {r : List (Nat → Prop)} {w : sW} (h : VS D w (a :: r)) : w.2.2.1 53 r.length = mk32 a D := by
  have := h 0 (by simp)
  simpa using this
theorem VS_tl {a : Nat → Prop} {r : List (Nat → Prop)} {w : sW} (h : VS D w (a :: r)) : VS D w r := by
  intro i hi
  have := h (i + 1) (by simp; omega)
  rw [List.length_cons, show r.length + 1 - 1 - (i + 1) = r.length - 1 - i by omega] at this
  simpa using this
theorem VS_put {a : Nat → Prop} {r : List (Nat → Prop)} {w : sW} {v : Int32} (h : VS D w r) (hv : v = mk32 a D) : VS D (wA w 53 r.length v) (a :: r) := by
  intro i hi
  rw [List.length_cons] at hi
  show up2 w.2.2.1 53 r.length v 53 ((a :: r).length - 1 - i) = _
  rw [List.length_cons]
  cases i with
  | zero =>
    rw [show r.length + 1 - 1 - 0 = r.length by omega, up2_s, hv]
    rfl
  | succ i =>
    rw [show r.length + 1 - 1 - (i + 1) = r.length - 1 - i by omega, up2_j (by omega), h i (by omega)]
    rfl
theorem m_isTrueL {f wd : Nat} {l : List Nat} (hf : f < 72) (hD : w.2.2.1 47 0 = mI D) (h1 : 1 ≤ D) (h3 : D ≤ 3) (hl : hasL w f l) (hw : wff l) : ∀ k, k ≤ l.length → ∀ u, Fr [53] [] w u → VS D u (stk D wd (l.drop k)) → ∃ w', R_X8_isTrue_22 (P.2.1 + 46) (mI f) (mI wd) (mk32 (fun _ => True) D) (mI (stk D wd (l.drop k)).length) (mI k - 1) (hp P u ex n sl) = some (b2 (TR D wd l), hp P w' ex n sl) ∧ Fr [53] [] w w' := by
  obtain ⟨-, hlen, hs18, hat⟩ := hl
  intro k
  induction k with
  | zero =>
    intro _ u hu hV
    refine ⟨u, ?_, hu⟩
    have e0 := stk_app (D := D) (wd := wd) l hw []
    rw [List.append_nil] at e0
    rw [List.drop_zero, e0] at hV
    have ht := VS_top hV
    rw [E_X8_isTrue_22, if_pos (show mI 0 - 1 < 0 by decide), q_46_16, ob, show (0 : Int32) = mI 0 from rfl, ra_53 (by decide), ob]
    have ht : u.2.2.1 53 0 = mk32 (val D wd l) D := ht
    rw [ht]
    by_cases g : TR D wd l
    · rw [if_neg (show ¬ mk32 (val D wd l) D = mI 0 from fun z => by rw [show mI 0 = (0 : Int32) from rfl, mk_z h3] at z; exact z g), b2_t g]
    · rw [if_pos (show mk32 (val D wd l) D = mI 0 by rw [show mI 0 = (0 : Int32) from rfl, mk_z h3]; exact g), b2_f g]; rfl
  | succ k ih =>
    intro hk u hu hV
    have hk' : k < l.length := by omega
    have hs : l.getD k 0 < 18 := by
      rw [List.getD_eq_getElem?_getD, List.getElem?_eq_getElem hk']
      exact hs18 _ (List.getElem_mem hk')
    have hdr : l.drop k = l.getD k 0 :: l.drop (k + 1) := by
      rw [List.drop_eq_getElem_cons hk', List.getD_eq_getElem?_getD, List.getElem?_eq_getElem hk']
      rfl
    obtain ⟨m, hm⟩ := rdf_drop hw k (by omega)
    have hat' : u.2.2.1 50 (40 * f + k) = mI (l.getD k 0) := by rw [hu.a (by decide)]; exact hat k hk'
    generalize l.getD k 0 = s at *
    have hDu : u.2.2.1 47 0 = mI D := by rw [hu.a (by decide)]; exact hD
    rw [hdr] at hm
    cases m with
    | zero => cases hm
    | succ m =>
      rw [rdf_s] at hm
      have hsl := stk_len (D := D) (wd := wd) _ _ hm
      have hlt : (stk D wd (l.drop (k + 1))).length ≤ 40 - (k + 1) := by
        have : ∀ t : List Nat, (stk D wd t).length ≤ t.length := by
          intro t
          induction t with
          | nil => exact Nat.le_refl _
          | cons s t ih =>
            have := ar_le s
            match hs : ar s with
            | 0 => rw [stk_0 hs]; simp; omega
            | 1 =>
              rw [stk_1 hs]
              match hl : stk D wd t with
              | [] => simp [push1]
              | a :: r => rw [hl] at ih; simp [push1] at ih ⊢; omega
            | 2 =>
              rw [stk_2 hs]
              match hl : stk D wd t with
              | [] => simp [push2]
              | [a] => rw [hl] at ih; simp [push2] at ih ⊢
              | a :: b :: r => rw [hl] at ih; simp [push2] at ih ⊢; omega
            | q + 3 => omega
        have h9 := this (l.drop (k + 1))
        rw [List.length_drop] at h9
        omega
      have back : ∀ u' : sW, Fr [53] [] w u' → VS D u' (stk D wd (s :: l.drop (k + 1))) → ∃ w', R_X8_isTrue_210 (P.2.1 + 46) (mI f) (mI wd) (mk32 (fun _ => True) D) (mI (stk D wd (s :: l.drop (k + 1))).length) (mI k) (hp P u' ex n sl) = some (b2 (TR D wd l), hp P w' ex n sl) ∧ Fr [53] [] w w' := by
        intro u' h1 h2
        have := ih (by omega) u' h1 (by rw [hdr]; exact h2)
        rw [hdr] at this
        rw [E_X8_isTrue_210, ← Int32.sub_eq_add_neg]
        exact this
      rw [E_X8_isTrue_22, nsubL (show 1 ≤ k + 1 by omega), if_neg (mI_0 (by omega)), m_at (x := mI f) (y := mI (k + 1 - 1)) (k := k) rfl rfl hf (by omega), ob, hat', m_isJoining hs, ob]
      try dsimp only
      have := ar_le s
      match har : ar s with
      | 2 =>
        rw [har] at hsl
        rw [if_neg (show ¬ b2 ((2 : Nat) = 2) = 0 by rw [b2_t rfl]; decide)]
        rw [stk_2 har] at back
        match hst : stk D wd (l.drop (k + 1)) with
        | [] => rw [hst] at hsl; simp at hsl
        | [a] => rw [hst] at hsl; simp at hsl
        | a :: b :: r =>
          rw [hst] at hV back hlt
          have va := VS_top hV
          have vb := VS_top (VS_tl hV)
          have vr := VS_tl (VS_tl hV)
          simp only [List.length_cons] at va hlt ⊢
          rw [q_46_16, ob, nsubL (show 1 ≤ r.length + 1 + 1 by omega), show r.length + 1 + 1 - 1 = r.length + 1 by omega, ra_53 (show r.length + 1 < 40 by omega), ob, ob, nsubL (show 2 ≤ r.length + 1 + 1 by omega), show r.length + 1 + 1 - 2 = r.length by omega, ra_53 (show r.length < 40 by omega), ob, ob, va, vb]
          have em : mI (r.length + 1 + 1) + (-1) = mI (r.length + 1) := mI_m
          have em2 : mI (r.length + 1) - 1 = mI r.length := nsubL (show 1 ≤ r.length + 1 by omega)
          have fin : ∀ v : Int32, v = mk32 (op2 s a b) D → ∃ w', R_X8_isTrue_116 (P.2.1 + 46) (mI f) (mI wd) (mk32 (fun _ => True) D) (mI (r.length + 1 + 1) + -1) (mI (k + 1 - 1)) v (mI (r.length + 1 + 1) + -1 - 1) (P.2.1 + 53) (hp P u ex n sl) = some (b2 (TR D wd l), hp P w' ex n sl) ∧ Fr [53] [] w w' := by
            intro v hv
            rw [em, em2, E_X8_isTrue_116, wa_53 (show r.length < 40 by omega), ob]
            exact back _ (hu.pA (by decide)) (VS_put vr hv)
          by_cases g13 : s = 13
          · rw [if_pos (by rw [neqL (by omega) (by decide)]; exact g13)]
            exact fin _ (by rw [mk_and h3]; exact mk32_congr fun t _ => by unfold op2; rw [if_pos g13])
          · rw [if_neg (by rw [neqL (by omega) (by decide)]; exact g13)]
            by_cases g14 : s = 14
            · rw [if_pos (by rw [neqL (by omega) (by decide)]; exact g14)]
              exact fin _ (by rw [mk_or h3]; exact mk32_congr fun t _ => by unfold op2; rw [if_neg g13, if_pos g14])
            · rw [if_neg (by rw [neqL (by omega) (by decide)]; exact g14)]
              exact fin _ (by rw [mk_not h3, mk_or h3]; exact mk32_congr fun t _ => by unfold op2; rw [if_neg g13, if_neg g14])
      | 1 =>
        rw [har] at hsl
        rw [if_pos (b2_0.mpr (show ¬ (1 : Nat) = 2 by decide)), m_isLone hs, ob]
        try dsimp only
        rw [har, if_neg (show ¬ b2 ((1 : Nat) = 1) = 0 by rw [b2_t rfl]; decide)]
        rw [stk_1 har] at back
        match hst : stk D wd (l.drop (k + 1)) with
        | [] => rw [hst] at hsl; simp at hsl
        | a :: r =>
          rw [hst] at hV back hlt
          have va := VS_top hV
          have vr := VS_tl hV
          simp only [List.length_cons] at va hlt ⊢
          have em2 : mI (r.length + 1) - 1 = mI r.length := nsubL (show 1 ≤ r.length + 1 by omega)
          rw [q_46_16, ob, em2, ra_53 (show r.length < 40 by omega), ob, ob, va]
          have fin : ∀ v : Int32, v = mk32 (op1 D s a) D → ∃ w', R_X8_isTrue_189 (P.2.1 + 46) (mI f) (mI wd) (mk32 (fun _ => True) D) (mI (r.length + 1)) (mI (k + 1 - 1)) v (mI r.length) (P.2.1 + 53) (hp P u ex n sl) = some (b2 (TR D wd l), hp P w' ex n sl) ∧ Fr [53] [] w w' := by
            intro v hv
            rw [E_X8_isTrue_189, wa_53 (show r.length < 40 by omega), ob]
            exact back _ (hu.pA (by decide)) (VS_put vr hv)
          by_cases g12 : s = 12
          · rw [if_pos (by rw [neqL (by omega) (by decide)]; exact g12)]
            exact fin _ (by rw [mk_not h3]; exact mk32_congr fun t _ => by unfold op1; rw [if_pos g12])
          · rw [if_neg (by rw [neqL (by omega) (by decide)]; exact g12)]
            by_cases g17 : s = 17
            · rw [if_pos (by rw [neqL (by omega) (by decide)]; exact g17)]
              by_cases gz : ∃ t, t < D ∧ a t
              · rw [if_neg (by rw [mk_z h3]; exact fun z => z gz), E_X8_isTrue_184]
                exact fin _ (mk32_congr fun t _ => by unfold op1; rw [if_neg g12, if_pos g17]; exact ⟨fun _ => gz, fun _ => trivial⟩)
              · rw [if_pos (by rw [mk_z h3]; exact gz), E_X8_isTrue_188]
                exact fin _ (mk_F fun t _ => by unfold op1; rw [if_neg g12, if_pos g17]; exact gz).symm
            · rw [if_neg (by rw [neqL (by omega) (by decide)]; exact g17)]
              by_cases gz : ∀ t, t < D → a t
              · rw [if_pos (by rw [mk_f h3]; exact gz), E_X8_isTrue_184]
                exact fin _ (mk32_congr fun t _ => by unfold op1; rw [if_neg g12, if_neg g17]; exact ⟨fun _ => gz, fun _ => trivial⟩)
              · rw [if_neg (by rw [mk_f h3]; exact gz), E_X8_isTrue_188]
                exact fin _ (mk_F fun t _ => by unfold op1; rw [if_neg g12, if_neg g17]; exact gz).symm
      | 0 =>
        rw [if_pos (b2_0.mpr (show ¬ (0 : Nat) = 2 by decide)), m_isLone hs, ob]
        try dsimp only
        rw [har, if_pos (b2_0.mpr (show ¬ (0 : Nat) = 1 by decide))]
        rw [stk_0 har] at back
        have h12 : s < 12 := by have := ar0_not har; omega
        rw [q_46_16, ob, m_ofSign hDu h1 h3 h12, ob, wa_53 (show (stk D wd (l.drop (k + 1))).length < 40 by omega), ob, naddL]
        exact back _ (hu.pA (by decide)) (VS_put hV rfl)
      | q + 3 => omega
theorem m_isTrue {f wd : Nat} {l : List Nat} {x v : Int32} (hx : x = mI f) (hv : v = mI wd) (hf : f < 72) (hD : w.2.2.1 47 0 = mI D) (h1 : 1 ≤ D) (h3 : D ≤ 3) (hl : hasL w f l) (hw : wff l) : ∃ w', F_X8_isTrue (P.2.1 + 46) x v (hp P w ex n sl) = some (b2 (TR D wd l), hp P w' ex n sl) ∧ Fr [53] [] w w' := by
  subst hx hv
  have := m_isTrueL (P := P) (ex := ex) (n := n) (sl := sl) (wd := wd) hf hD h1 h3 hl hw l.length (Nat.le_refl _) w Fr.rf (by rw [List.drop_length]; intro i hi; exact absurd hi (by simp [stk]))
  rw [List.drop_length] at this
  rw [E_X8_isTrue, z_46, ob, E_X8_isTrue_0, m_d, ob, hD, q_46_4, ob, ra_49 hf, ob, hl.1]
  try dsimp only
  rw [full_mk h1 h3]
  exact this
end MTr
