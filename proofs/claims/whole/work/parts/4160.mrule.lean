/-! what the model asks of rules -/
def askN (D r : Nat) : Nat := if r < 2 then 0 else if r = 2 ∨ r = 7 ∨ r = 10 ∨ r = 14 then 2 else if r = 9 then 3 else if r = 12 then D else 1
def casesP (a b c p : List Nat) : Prop := ∃ u v, wff u ∧ wff v ∧ a = 14 :: (u ++ v) ∧ b = 15 :: (u ++ p) ∧ c = 15 :: (v ++ p)
section MRu
variable {P : sP} {w : sW} {ex : Nat → Option sC} {n sl : Nat} {σ : sS} {F L D : Nat} {y : sLn} {φ : Nat → List Nat}
theorem m_hasRule {h r : Nat} {x v : Int32} (hx : x = mI h) (hv : v = mI r) (hh : h < 3) : F_X8_hasRule (P.2.1 + 46) x v (hp P w ex n sl) = some (b2 (bit (w.2.2.1 47 (4 + 18 * h)) r), hp P w ex n sl) := by
  subst hx hv
  have e : (4 : Int32) + 18 * mI h = mI (4 + 18 * h) := by
    show mI 4 + mI 18 * mI h = _
    rw [mI_mul, mI_add]
  simp only [E_X8_hasRule, E_X8_hasRule_0, z_46, q_46_1, ob, e, a_47 (mI_out (show 4 + 18 * h < 1682 by omega) (by decide)), mI_nat (show 4 + 18 * h < 2 ^ 31 by omega)]
  by_cases g : bit (w.2.2.1 47 (4 + 18 * h)) r
  · rw [b2_t g]
    unfold bit at g
    rw [if_pos g]
  · rw [b2_f g]
    unfold bit at g
    rw [if_neg g]
theorem m_asked {r : Nat} {x : Int32} (hx : x = mI r) (hr : r < 16) (hD : w.2.2.1 47 0 = mI D) : F_X8_asked (P.2.1 + 46) x (hp P w ex n sl) = some (mI (askN D r), hp P w ex n sl) := by
  subst hx
  have e : ∀ k : Nat, k < 2 ^ 31 → (mI r = mI k) = (r = k) := fun k hk => m_eqN (by omega) hk
  have e2 : (mI r = 2) = (r = 2) := e 2 (by decide)
  have e7 : (mI r = 7) = (r = 7) := e 7 (by decide)
  have e10 : (mI r = 10) = (r = 10) := e 10 (by decide)
  have e14 : (mI r = 14) = (r = 14) := e 14 (by decide)
  have e9 : (mI r = 9) = (r = 9) := e 9 (by decide)
  have e12 : (mI r = 12) = (r = 12) := e 12 (by decide)
  have el : ((2 : Int32) ≤ mI r) = (2 ≤ r) := propext (mI_le (a := 2) (by decide) (by omega))
  simp only [E_X8_asked, E_X8_asked_0, z_46, ob, e2, e7, e10, e14, e9, e12, el, m_d, hD]
  unfold askN
  by_cases h2 : 2 ≤ r
  · rw [if_pos h2, if_neg (show ¬ r < 2 by omega)]
    by_cases ha : r = 2
    · rw [if_pos ha, if_pos (Or.inl ha)]; rfl
    · rw [if_neg ha]
      by_cases hb : r = 7
      · rw [if_pos hb, if_pos (by omega)]; rfl
      · rw [if_neg hb]
        by_cases hc : r = 10
        · rw [if_pos hc, if_pos (by omega)]; rfl
        · rw [if_neg hc]
          by_cases hd : r = 14
          · rw [if_pos hd, if_pos (by omega)]; rfl
          · rw [if_neg hd, if_neg (show ¬ (r = 2 ∨ r = 7 ∨ r = 10 ∨ r = 14) by omega)]
            by_cases hf : r = 9
            · rw [if_pos hf, if_pos hf]; rfl
            · rw [if_neg hf, if_neg hf]
              by_cases hg : r = 12
              · rw [if_pos hg, if_pos hg]
              · rw [if_neg hg, if_neg hg]; rfl
  · rw [if_neg h2, if_pos (by omega)]; rfl
theorem m_isAmong {f : Nat} {p : List Nat} {x s : Int32} (hx : x = mI f) (hf : f < 72) (hF : w.2.2.1 47 1 = mI F) (h30 : F ≤ 30) (hφ : ∀ k, k < F → hasL w k (φ k)) (hp9 : hasL w f p) : F_X8_isAmong (P.2.1 + 46) x s (hp P w ex n sl) = some (b2 (∃ k, k < F ∧ bit s k ∧ φ k = p), hp P w ex n sl) := by
  have step : ∀ (d k : Nat), k + d = F → R_X8_isAmong_5 (P.2.1 + 46) x s 0 (mI k) (hp P w ex n sl) = some (b2 (∃ j, k ≤ j ∧ j < F ∧ bit s j ∧ φ j = p), hp P w ex n sl) := by
    intro d
    induction d with
    | zero =>
      intro k hk
      have hk : k = F := by omega
      subst hk
      rw [E_X8_isAmong_5, m_formulas, ob, hF, if_pos ((mI_le (by omega) (by omega)).mpr (Nat.le_refl _)), if_pos (Or.inl rfl), b2_f (fun ⟨j, h1, h2, _⟩ => by omega)]
    | succ d ih =>
      intro k hk
      have e3 : mI k + 1 = mI (k + 1) := mI_add k 1
      have skip : ¬ (bit s k ∧ φ k = p) → b2 (∃ j, k ≤ j ∧ j < F ∧ bit s j ∧ φ j = p) = b2 (∃ j, k + 1 ≤ j ∧ j < F ∧ bit s j ∧ φ j = p) := fun g => b2_congr ⟨fun ⟨j, h1, h2, h3⟩ => ⟨j, by
          by_cases e : j = k
          · subst e; exact absurd h3 g
          · omega, h2, h3⟩, fun ⟨j, h1, h2, h3⟩ => ⟨j, by omega, h2, h3⟩⟩
      rw [E_X8_isAmong_5, m_formulas, ob, hF, if_neg (by rw [mI_le (by omega) (by omega)]; omega), if_pos rfl]
      simp only [E_X8_isAmong_42, E_X8_isAmong_43, e3]
      by_cases hb : bit s k
      · rw [if_pos (show (s >>> (mI k &&& 31)) &&& 1 = 1 from hb), m_isSame (x := mI k) rfl hx (by omega) hf (hφ k (by omega)) hp9, ob]
        by_cases hs : φ k = p
        · have ht : b2 (∃ j, k ≤ j ∧ j < F ∧ bit s j ∧ φ j = p) = 1 := b2_t ⟨k, Nat.le_refl _, by omega, hb, hs⟩
          rw [if_neg (fun g => b2_0.mp g hs), ht, E_X8_isAmong_5, m_formulas, ob, hF]
          by_cases hl : mI F ≤ mI (k + 1)
          · rw [if_pos hl, if_pos (Or.inr rfl)]
          · rw [if_neg hl, if_neg (by decide), if_pos (Or.inr rfl)]
        · rw [if_pos (b2_0.mpr hs), ih (k + 1) (by omega), skip (fun g => hs g.2)]
      · rw [if_neg (show ¬ (s >>> (mI k &&& 31)) &&& 1 = 1 from hb), ih (k + 1) (by omega), skip (fun g => hb g.1)]
  rw [E_X8_isAmong, z_46, ob, E_X8_isAmong_0]
  rw [b2_congr (p := ∃ k, k < F ∧ bit s k ∧ φ k = p) (q := ∃ j, 0 ≤ j ∧ j < F ∧ bit s j ∧ φ j = p) ⟨fun ⟨j, h⟩ => ⟨j, Nat.zero_le _, h⟩, fun ⟨j, _, h⟩ => ⟨j, h⟩⟩]
  exact step F 0 (by omega)
theorem m_isCases {f1 f2 f3 f4 : Nat} {a b c p : List Nat} {x1 x2 x3 x4 : Int32} (e1 : x1 = mI f1) (e2 : x2 = mI f2) (e3 : x3 = mI f3) (e4 : x4 = mI f4) (h1 : f1 < 72) (h2 : f2 < 72) (h3 : f3 < 72) (h4 : f4 < 72) (ha : hasL w f1 a) (hb : hasL w f2 b) (hc : hasL w f3 c) (hp9 : hasL w f4 p) (wa : wff a) (wb : wff b) (wc : wff c) (wp : wff p) :
    F_X8_isCases (P.2.1 + 46) x1 x2 x3 x4 (hp P w ex n sl) = some (b2 (casesP a b c p), hp P w ex n sl) := by
  have cut : ∀ {f s : Nat} {q : List Nat} {x v : Int32}, x = mI f → v = mI s → s < 18 → ar s = 2 → f < 72 → hasL w f q → wff q → (∃ u t, wff u ∧ wff t ∧ q = s :: (u ++ t) ∧ F_X8_cutBy (P.2.1 + 46) x v (hp P w ex n sl) = some (mI (1 + u.length), hp P w ex n sl)) ∨ ((∀ u t, q ≠ s :: (u ++ t)) ∧ F_X8_cutBy (P.2.1 + 46) x v (hp P w ex n sl) = some (-1, hp P w ex n sl)) := by
    intro f s q x v hx hv hs h2 hf hq wq
    obtain ⟨s', r, rfl, hc⟩ := wff_cases wq
    by_cases e : s' = s
    · subst e
      rcases hc with ⟨q, -⟩ | ⟨q, -⟩ | ⟨-, u, t, rfl, hu, ht⟩
      · omega
      · omega
      · exact Or.inl ⟨u, t, hu, ht, rfl, m_cutT hx hv hf hq hu⟩
    · exact Or.inr ⟨fun u t g => e (List.cons.inj g).1, m_cutF hx hv hs hf hq e⟩
  have R2 := m_isRight (P := P) (w := w) (ex := ex) (n := n) (sl := sl) (y := 15) (s := 15) e2 rfl e4 h2 h4 (by decide) rfl hb hp9 wb
  have R3 := m_isRight (P := P) (w := w) (ex := ex) (n := n) (sl := sl) (y := 15) (s := 15) e3 rfl e4 h3 h4 (by decide) rfl hc hp9 wc
  have neg : (-1 : Int32) < 0 := by decide
  rcases cut (v := 14) (s := 14) e1 rfl (by decide) rfl h1 ha wa with ⟨u, v, hu, hv, rfl, c1⟩ | ⟨n1, c1⟩
  · rcases cut (v := 15) (s := 15) e2 rfl (by decide) rfl h2 hb wb with ⟨u2, v2, hu2, hv2, rfl, c2⟩ | ⟨n2, c2⟩
    · rcases cut (v := 15) (s := 15) e3 rfl (by decide) rfl h3 hc wc with ⟨u3, v3, hu3, hv3, rfl, c3⟩ | ⟨n3, c3⟩
      · have l1 := ha.2.1
        have l2 := hb.2.1
        have l3 := hc.2.1
        simp only [List.length_cons, List.length_append] at l1 l2 l3
        rw [b2_congr (isR_iff (s := 15) (p := p) hu2 hv2)] at R2
        rw [b2_congr (isR_iff (s := 15) (p := p) hu3 hv3)] at R3
        have Q1 := m_isPart (P := P) (w := w) (ex := ex) (n := n) (sl := sl) (x2 := 1) (i := 1) (i' := 1 + u.length) (x4 := -1) (t := none) (x6 := 1) (j := 1) (j' := 1 + u2.length) e1 rfl rfl rfl e2 rfl rfl h1 h2 ha hb (by omega) (by simp; omega) (by omega) (by simp; omega) (fun q hq => by cases hq)
        have Q2 := m_isPart (P := P) (w := w) (ex := ex) (n := n) (sl := sl) (i := 1 + u.length) (x4 := -1) (t := none) (x6 := 1) (j := 1) (j' := 1 + u3.length) e1 rfl rfl rfl e3 rfl rfl h1 h3 ha hc (by simp; omega) (Nat.le_refl _) (by omega) (by simp; omega) (fun q hq => by cases hq)
        rw [ins_none, seg_a, seg_a] at Q1
        rw [ins_none, seg_b, seg_a] at Q2
        have key : casesP (14 :: (u ++ v)) (15 :: (u2 ++ v2)) (15 :: (u3 ++ v3)) p ↔ v2 = p ∧ v3 = p ∧ u = u2 ∧ v = u3 := by
          constructor
          · rintro ⟨u', v', hu', hv', q1, q2, q3⟩
            have r1 := wff_uni hu hu' (List.cons.inj q1).2
            have r2 := wff_uni hu2 hu' (List.cons.inj q2).2
            have r3 := wff_uni hu3 hv' (List.cons.inj q3).2
            exact ⟨r2.2, r3.2, r1.1.trans r2.1.symm, r1.2.trans r3.1.symm⟩
          · rintro ⟨rfl, rfl, rfl, rfl⟩
            exact ⟨u, v, hu, hv, rfl, rfl, rfl⟩
        rw [b2_congr key]
        simp only [E_X8_isCases, E_X8_isCases_0, z_46, q_46_4, ob, c1, c2, c3, mI_0 (show 1 + u.length < 2 ^ 31 by omega), mI_0 (show 1 + u2.length < 2 ^ 31 by omega), mI_0 (show 1 + u3.length < 2 ^ 31 by omega), if_false, R2, R3, Q1, m_len e1 h1 ha, Q2]
        by_cases g1 : v2 = p
        · rw [if_neg (fun g => b2_0.mp g g1)]
          by_cases g2 : v3 = p
          · rw [if_neg (fun g => b2_0.mp g g2)]
            by_cases g3 : u = u2
            · rw [if_neg (fun g => b2_0.mp g g3), m_bool, b2_congr (p := v = u3) (q := v2 = p ∧ v3 = p ∧ u = u2 ∧ v = u3) ⟨fun g => ⟨g1, g2, g3, g⟩, fun g => g.2.2.2⟩]
            · rw [if_pos (b2_0.mpr g3), b2_f (fun g => g3 g.2.2.1)]
          · rw [if_pos (b2_0.mpr g2), b2_f (fun g => g2 g.2.1)]
        · rw [if_pos (b2_0.mpr g1), b2_f (fun g => g1 g.1)]
      · simp only [E_X8_isCases, E_X8_isCases_0, z_46, q_46_4, ob, c1, c2, c3, neg, if_true, ite_self]
        rw [b2_f (fun ⟨u', v', _, _, _, _, q⟩ => n3 _ _ q)]
        try simp
    · rcases cut (v := 15) (s := 15) e3 rfl (by decide) rfl h3 hc wc with ⟨u3, v3, hu3, hv3, rfl, c3⟩ | ⟨n3, c3⟩ <;>
      · simp only [E_X8_isCases, E_X8_isCases_0, z_46, q_46_4, ob, c1, c2, c3, neg, if_true, ite_self]
        rw [b2_f (fun ⟨u', v', _, _, _, q, _⟩ => n2 _ _ q)]
        try simp
  · rcases cut (v := 15) (s := 15) e2 rfl (by decide) rfl h2 hb wb with ⟨u2, v2, hu2, hv2, rfl, c2⟩ | ⟨n2, c2⟩ <;>
    · rcases cut (v := 15) (s := 15) e3 rfl (by decide) rfl h3 hc wc with ⟨u3, v3, hu3, hv3, rfl, c3⟩ | ⟨n3, c3⟩ <;>
      · simp only [E_X8_isCases, E_X8_isCases_0, z_46, q_46_4, ob, c1, c2, c3, neg, if_true, ite_self]
        rw [b2_f (fun ⟨u', v', _, _, q, _, _⟩ => n1 _ _ q)]
        try simp
end MRu
