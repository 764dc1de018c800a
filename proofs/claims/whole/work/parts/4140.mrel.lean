/-! how formulas stand to each other, in the model -/
theorem seg_a {s : Nat} {a b : List Nat} : seg (s :: (a ++ b)) 1 (1 + a.length) = a := by
  unfold seg
  simp
theorem seg_b {s : Nat} {a b : List Nat} : seg (s :: (a ++ b)) (1 + a.length) (s :: (a ++ b)).length = b := by
  unfold seg
  rw [show 1 + a.length = a.length + 1 by omega, List.drop_succ_cons, List.drop_left]
  simp
theorem seg_c {s : Nat} {a : List Nat} : seg (s :: a) 1 (s :: a).length = a := by
  unfold seg
  simp
theorem seg_d {s s' : Nat} {a : List Nat} : seg (s :: s' :: a) 2 (s :: s' :: a).length = a := by
  unfold seg
  simp
/-- the left, the right part of a joined formula -/
def isL (s : Nat) (l p : List Nat) : Prop := ∃ b, wff b ∧ l = s :: (p ++ b)
def isR (s : Nat) (l p : List Nat) : Prop := ∃ a, wff a ∧ l = s :: (a ++ p)
theorem isL_iff {s : Nat} {a b p : List Nat} (ha : wff a) (hb : wff b) (hp : wff p) : isL s (s :: (a ++ b)) p ↔ a = p := by
  constructor
  · rintro ⟨b', -, e⟩
    exact (wff_uni ha hp (List.cons.inj e).2).1
  · rintro rfl
    exact ⟨b, hb, rfl⟩
theorem isR_iff {s : Nat} {a b p : List Nat} (ha : wff a) (hb : wff b) : isR s (s :: (a ++ b)) p ↔ b = p := by
  constructor
  · rintro ⟨a', ha', e⟩
    exact (wff_uni ha ha' (List.cons.inj e).2).2
  · rintro rfl
    exact ⟨a, ha, rfl⟩
section MR
variable {P : sP} {w : sW} {ex : Nat → Option sC} {n sl : Nat} {σ : sS}
theorem hasL_0 {f s : Nat} {r : List Nat} (h : hasL w f (s :: r)) : w.2.2.1 50 (40 * f + 0) = mI s ∧ s < 18 := ⟨h.2.2.2 0 (by simp), h.2.2.1 s List.mem_cons_self⟩
theorem m_at0 {f s : Nat} {r : List Nat} {x : Int32} (hx : x = mI f) (hf : f < 72) (h : hasL w f (s :: r)) : F_X8_at (P.2.1 + 46) x 0 (hp P w ex n sl) = some (mI s, hp P w ex n sl) := by
  rw [m_at (y := 0) (k := 0) hx rfl hf (by decide), (hasL_0 h).1]
theorem m_cutT {f s : Nat} {a b : List Nat} {x y : Int32} (hx : x = mI f) (hy : y = mI s) (hf : f < 72) (h : hasL w f (s :: (a ++ b))) (ha : wff a) : F_X8_cutBy (P.2.1 + 46) x y (hp P w ex n sl) = some (mI (1 + a.length), hp P w ex n sl) := by
  subst hy
  simp only [E_X8_cutBy, E_X8_cutBy_0, z_46, ob, m_at0 hx hf h, if_true, m_endOf (y := 1) (i := 1) (b := b) hx rfl hf h rfl ha]
theorem m_cutF {f s s' : Nat} {r : List Nat} {x y : Int32} (hx : x = mI f) (hy : y = mI s) (hs : s < 18) (hf : f < 72) (h : hasL w f (s' :: r)) (hne : s' ≠ s) : F_X8_cutBy (P.2.1 + 46) x y (hp P w ex n sl) = some (-1, hp P w ex n sl) := by
  subst hy
  have h0 := (hasL_0 h).2
  simp only [E_X8_cutBy, E_X8_cutBy_0, z_46, ob, m_at0 hx hf h]
  rw [if_neg (by rw [mI_inj (by omega) (by omega)]; exact hne)]
theorem m_bool {p : Prop} : (if b2 p = 0 then some ((0 : Int32), σ) else some (1, σ)) = some (b2 p, σ) := by
  by_cases h : p
  · rw [if_neg (fun g => b2_0.mp g h), b2_t h]
  · rw [if_pos (b2_0.mpr h), b2_f h]
theorem m_isLeft {f g s : Nat} {l p : List Nat} {x y z : Int32} (hx : x = mI f) (hy : y = mI s) (hz : z = mI g) (hf : f < 72) (hg : g < 72) (hs : s < 18) (h2 : ar s = 2) (hl : hasL w f l) (hp9 : hasL w g p) (wl : wff l) (wp : wff p) : F_X8_isLeft (P.2.1 + 46) x y z (hp P w ex n sl) = some (b2 (isL s l p), hp P w ex n sl) := by
  obtain ⟨s', r, rfl, hc⟩ := wff_cases wl
  by_cases e : s' = s
  · subst e
    rcases hc with ⟨q, -⟩ | ⟨q, -⟩ | ⟨-, a, b, rfl, ha, hb⟩
    · omega
    · omega
    · have hlen := hl.2.1
      simp only [List.length_cons, List.length_append] at hlen
      simp only [E_X8_isLeft, E_X8_isLeft_0, z_46, q_46_4, ob, m_cutT hx hy hf hl ha, mI_0 (show 1 + a.length < 2 ^ 31 by omega), if_false, m_len hz hg hp9, m_isPart (x2 := 1) (i := 1) (i' := 1 + a.length) (x4 := -1) (t := none) (x6 := 0) (j := 0) hx rfl rfl rfl hz rfl rfl hf hg hl hp9 (by omega) (by simp; omega) (Nat.zero_le _) (Nat.le_refl _) (fun u hu => by cases hu), seg_all, ins_none, seg_a, m_bool, b2_congr (isL_iff (s := s') ha hb wp)]
  · simp only [E_X8_isLeft, E_X8_isLeft_0, z_46, q_46_4, ob, m_cutF hx hy hs hf hl e]
    rw [if_pos (by decide), b2_f]
    rintro ⟨b, -, q⟩
    exact e (List.cons.inj q).1
theorem m_isRight {f g s : Nat} {l p : List Nat} {x y z : Int32} (hx : x = mI f) (hy : y = mI s) (hz : z = mI g) (hf : f < 72) (hg : g < 72) (hs : s < 18) (h2 : ar s = 2) (hl : hasL w f l) (hp9 : hasL w g p) (wl : wff l) : F_X8_isRight (P.2.1 + 46) x y z (hp P w ex n sl) = some (b2 (isR s l p), hp P w ex n sl) := by
  obtain ⟨s', r, rfl, hc⟩ := wff_cases wl
  by_cases e : s' = s
  · subst e
    rcases hc with ⟨q, -⟩ | ⟨q, -⟩ | ⟨-, a, b, rfl, ha, hb⟩
    · omega
    · omega
    · have hlen := hl.2.1
      simp only [List.length_cons, List.length_append] at hlen
      simp only [E_X8_isRight, E_X8_isRight_0, z_46, q_46_4, ob, m_cutT hx hy hf hl ha, mI_0 (show 1 + a.length < 2 ^ 31 by omega), if_false, m_len hx hf hl, m_len hz hg hp9, m_isPart (i := 1 + a.length) (x4 := -1) (t := none) (x6 := 0) (j := 0) hx rfl rfl rfl hz rfl rfl hf hg hl hp9 (by simp; omega) (Nat.le_refl _) (Nat.zero_le _) (Nat.le_refl _) (fun u hu => by cases hu), seg_all, ins_none, seg_b, m_bool, b2_congr (isR_iff (s := s') (p := p) ha hb)]
  · simp only [E_X8_isRight, E_X8_isRight_0, z_46, q_46_4, ob, m_cutF hx hy hs hf hl e]
    rw [if_pos (by decide), b2_f]
    rintro ⟨b, -, q⟩
    exact e (List.cons.inj q).1
theorem m_isMinus {f g : Nat} {l p : List Nat} {x z : Int32} (hx : x = mI f) (hz : z = mI g) (hf : f < 72) (hg : g < 72) (hl : hasL w f l) (hp9 : hasL w g p) (wl : wff l) : F_X8_isMinus (P.2.1 + 46) x z (hp P w ex n sl) = some (b2 (l = 12 :: p), hp P w ex n sl) := by
  obtain ⟨s', r, rfl, hc⟩ := wff_cases wl
  have h0 := (hasL_0 hl).2
  have e12 : (mI s' = 12) = (s' = 12) := m_eqN (b := 12) (by omega) (by decide)
  by_cases e : s' = 12
  · subst e
    have e9 : (12 :: r = 12 :: p) ↔ r = p := ⟨fun q => (List.cons.inj q).2, fun q => by rw [q]⟩
    simp only [E_X8_isMinus, E_X8_isMinus_0, z_46, q_46_4, ob, m_at0 hx hf hl, e12, if_true, m_len hx hf hl, m_len hz hg hp9, m_isPart (x2 := 1) (i := 1) (x4 := -1) (t := none) (x6 := 0) (j := 0) hx rfl rfl rfl hz rfl rfl hf hg hl hp9 (by simp) (Nat.le_refl _) (Nat.zero_le _) (Nat.le_refl _) (fun u hu => by cases hu), seg_all, ins_none, seg_c, m_bool, b2_congr e9]
  · simp only [E_X8_isMinus, E_X8_isMinus_0, z_46, q_46_4, ob, m_at0 hx hf hl, e12, e, if_false]
    rw [b2_f (fun q => e (List.cons.inj q).1)]
theorem m_isOf {f g s : Nat} {t : Option Nat} {l p : List Nat} {x y z v : Int32} (hx : x = mI f) (hy : y = mI s) (hz : z = mI g) (hv : v = thOf t) (ht : ∀ u, t = some u → u < 3) (hf : f < 72) (hg : g < 72) (hs : s < 18) (hl : hasL w f l) (hp9 : hasL w g p) (wl : wff l) : F_X8_isOf (P.2.1 + 46) x y z v (hp P w ex n sl) = some (b2 (∃ r, l = s :: r ∧ r.map (ins t) = p), hp P w ex n sl) := by
  subst hy
  obtain ⟨s', r, rfl, hc⟩ := wff_cases wl
  have h0 := (hasL_0 hl).2
  have e12 : (mI s' = mI s) = (s' = s) := m_eqN (by omega) (by omega)
  by_cases e : s' = s
  · subst e
    have e9 : (∃ r', s' :: r = s' :: r' ∧ r'.map (ins t) = p) ↔ r.map (ins t) = p := ⟨fun ⟨r', q, q'⟩ => by rw [(List.cons.inj q).2]; exact q', fun q => ⟨r, rfl, q⟩⟩
    simp only [E_X8_isOf, E_X8_isOf_0, z_46, q_46_4, ob, m_at0 hx hf hl, if_true, m_len hx hf hl, m_len hz hg hp9, m_isPart (x2 := 1) (i := 1) (x6 := 0) (j := 0) hx rfl rfl hv hz rfl rfl hf hg hl hp9 (by simp) (Nat.le_refl _) (Nat.zero_le _) (Nat.le_refl _) ht, seg_all, seg_c, m_bool, b2_congr e9]
  · simp only [E_X8_isOf, E_X8_isOf_0, z_46, q_46_4, ob, m_at0 hx hf hl, e12, e, if_false]
    rw [b2_f (fun ⟨r', q, _⟩ => e (List.cons.inj q).1)]
theorem m_isTwice {f g : Nat} {l p : List Nat} {x z : Int32} (hx : x = mI f) (hz : z = mI g) (hf : f < 72) (hg : g < 72) (hl : hasL w f l) (hp9 : hasL w g p) (wl : wff l) : F_X8_isTwice (P.2.1 + 46) x z (hp P w ex n sl) = some (b2 (l = 12 :: 12 :: p), hp P w ex n sl) := by
  obtain ⟨s', r, rfl, hc⟩ := wff_cases wl
  have h0 := (hasL_0 hl).2
  have e12 : (mI s' = 12) = (s' = 12) := m_eqN (b := 12) (by omega) (by decide)
  by_cases e : s' = 12
  · subst e
    have hr : wff r := by
      rcases hc with ⟨q, -⟩ | ⟨-, q⟩ | ⟨q, -⟩
      · cases q
      · exact q
      · cases q
    obtain ⟨s2, r2, rfl, -⟩ := wff_cases hr
    have a1 : w.2.2.1 50 (40 * f + 1) = mI s2 := hl.2.2.2 1 (by simp)
    have b1 : s2 < 18 := hl.2.2.1 s2 (by simp)
    have e13 : (mI s2 = 12) = (s2 = 12) := m_eqN (b := 12) (by omega) (by decide)
    by_cases e2 : s2 = 12
    · subst e2
      have e9 : (12 :: 12 :: r2 = 12 :: 12 :: p) ↔ r2 = p := ⟨fun q => (List.cons.inj (List.cons.inj q).2).2, fun q => by rw [q]⟩
      simp only [E_X8_isTwice, E_X8_isTwice_0, z_46, q_46_4, ob, m_at0 hx hf hl, e12, if_true, m_at (y := 1) (k := 1) hx rfl hf (by decide), a1, e13, m_len hx hf hl, m_len hz hg hp9, m_isPart (x2 := 2) (i := 2) (x4 := -1) (t := none) (x6 := 0) (j := 0) hx rfl rfl rfl hz rfl rfl hf hg hl hp9 (by simp) (Nat.le_refl _) (Nat.zero_le _) (Nat.le_refl _) (fun u hu => by cases hu), seg_all, ins_none, seg_d, m_bool, b2_congr e9]
    · simp only [E_X8_isTwice, E_X8_isTwice_0, z_46, q_46_4, ob, m_at0 hx hf hl, e12, if_true, m_at (y := 1) (k := 1) hx rfl hf (by decide), a1, e13, e2, if_false]
      rw [b2_f (fun q => e2 (List.cons.inj (List.cons.inj q).2).1)]
  · simp only [E_X8_isTwice, E_X8_isTwice_0, z_46, q_46_4, ob, m_at0 hx hf hl, e12, e, if_false]
    rw [b2_f (fun q => e (List.cons.inj q).1)]
end MR
