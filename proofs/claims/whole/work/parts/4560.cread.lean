/-! the class's reader at its top -/
noncomputable def topR (t : Nat → Nat) (N D : Nat) : List Nat ⊕ Nat := match (lev t N D 8).2 false 0 0 with
  | .inl (p, l) => if sk t N p = N then .inl l else .inr (sk t N p)
  | .inr x => .inr x
section CRd
variable {P : sP} {S0 e N D : Nat} {t : Nat → Nat}
theorem FrX.w29 {A B : List Nat} {w w' : sW} {j : Nat} {v : Int32} (h : FrX A B w w') (hj : 100 * 29 + j ∈ B) : FrX A B w (Prod.mk (up2 w'.1 29 j v) w'.2) := by
  refine ⟨h.1, fun k' j' hk => ?_, h.2.2⟩
  show up2 w'.1 29 j v k' j' = _
  unfold up2
  split
  · rename_i g; exact absurd hj (by rw [g.1, g.2] at hk; exact hk)
  · exact h.2.1 k' j' hk
theorem wI_s {w : sW} {k j : Nat} {v : Int32} : (wI w k j v).1 k j = v := by
  show up2 w.1 k j v k j = v
  exact up2_s
theorem wI_j {w : sW} {k j k' j' : Nat} {v : Int32} (h : j' ≠ j) : (wI w k j v).1 k' j' = w.1 k' j' := by
  show up2 w.1 k j v k' j' = _
  exact up2_j h
abbrev rdC : List Nat := [100, 2900, 2901, 2904, 2905, 2906]
theorem chr_N {p : Nat} (ht : ∀ i, i < N → t i < 256) (hp9 : p ≤ N) : chr t N p = 999 ↔ p = N := by
  unfold chr
  split
  · rename_i g; have := ht p g; constructor <;> intro <;> omega
  · constructor
    · intro; omega
    · intro; rfl
theorem c_read44 {w : sW} {ex : Nat → Option sC} {n sl : Nat} {v : Int32} : R_X5_read_44 (P.2.1 + 29) v (hp P w ex n sl) = some (if w.1 29 1 = -1 then v else -1, hp P (wI w 29 0 0) ex n sl) := by
  rw [E_X5_read_44, p_29_0, ob, q_29_1, ob]
  have e1 : (wI w 29 0 0).1 29 1 = w.1 29 1 := by show up2 w.1 29 0 0 29 1 = _; rw [up2_j (by decide)]
  by_cases g : w.1 29 1 = -1
  · rw [if_pos g]; exact if_pos (e1.trans g)
  · rw [if_neg g]; exact if_neg (fun z => g (e1.symm.trans z))
theorem c_read {w : sW} {ex : Nat → Option sC} {n sl U : Nat} {nd : Nat → List Nat} (hK : KS P) (h1 : 1 ≤ D) (h3 : D ≤ 3) (hS : FS P S0 e w n sl U (fun _ => D) nd) (h0 : w.1 29 0 = mI N) (h400 : N ≤ 400) (hb : ∀ i, i < N → t i < 256 ∧ w.2.2.1 30 i &&& 255 = mI (t i)) (hU : U + 160 ≤ 7500) : ∃ v w' ex' n' sl' U' nd', F_X5_read (P.2.1 + 29) (mI D) (hp P w ex n sl) = some (v, hp P w' ex' n' sl') ∧ FS P S0 e w' n' sl' U' (fun _ => D) nd' ∧ XT U (fun _ => D) nd U' (fun _ => D) nd' ∧ FrX fAr rdC w w' ∧ w'.1 29 0 = 0 ∧ U' ≤ U + 160 ∧ (match topR t N D with | .inl l => ∃ i, v = mI i ∧ i < U' ∧ nd' i = l ∧ w'.1 29 1 = -1 | .inr x => x ≤ N ∧ v = -1 ∧ w'.1 29 1 = mI x) := by
  rw [E_X5_read, z_29, ob, E_X5_read_0, p_29_6, ob, p_29_4, ob, p_29_5, ob, p_29_1, ob]
  generalize hw1 : wI (wI (wI (wI w 29 6 (mI D)) 29 4 0) 29 5 0) 29 1 (-1) = w1
  have f1 : FrX fAr rdC w w1 := by
    rw [← hw1]
    exact (((FrX.rf.w29 (by decide)).w29 (by decide)).w29 (by decide)).w29 (by decide)
  have hS1 : FS P S0 e w1 n sl U (fun _ => D) nd := by
    rw [← hw1]
    exact (((hS.wI).wI).wI).wI
  have v1 : w1.1 29 1 = -1 := by rw [← hw1]; exact wI_s
  have v5 : w1.1 29 5 = mI 0 := by rw [← hw1]; exact (wI_j (by decide)).trans wI_s
  have v4 : w1.1 29 4 = mI 0 := by rw [← hw1]; exact (wI_j (by decide)).trans ((wI_j (by decide)).trans wI_s)
  have v6 : w1.1 29 6 = mI D := by rw [← hw1]; exact (wI_j (by decide)).trans ((wI_j (by decide)).trans ((wI_j (by decide)).trans wI_s))
  have v0 : w1.1 29 0 = mI N := by rw [← hw1]; exact (wI_j (by decide)).trans ((wI_j (by decide)).trans ((wI_j (by decide)).trans ((wI_j (by decide)).trans h0)))
  have hb1 : ∀ i, i < N → t i < 256 ∧ w1.2.2.1 30 i &&& 255 = mI (t i) := by rw [← hw1]; exact hb
  have hR1 : RS w1 t N D := ⟨v0, h400, v6, hb1⟩
  have hI : CI P S0 e t N D w1 n sl U nd 0 0 := ⟨hS1, hR1, v1, v4, v5, Nat.zero_le _, by decide⟩
  have cl := ((c_lev (S0 := S0) (e := e) (t := t) (N := N) hK h1 h3 8 0 rfl).2 false 64 (by decide)) w1 ex n sl U nd 0 0 hI (by omega)
  have gl := (g_lev (t := t) (N := N) h3 8).2 false 0 0 (Nat.zero_le _) (by decide)
  have mo : ∀ {a b : sW}, FrX fAr rdB a b → FrX fAr rdC a b := fun h => h.mo (fun _ z => z) (by decide)
  show ∃ v w' ex' n' sl' U' nd', (F_X5_readIf 64 (P.2.1 + 29) (mI 0) (bI false) (hp P w1 ex n sl)).bind _ = some (v, hp P w' ex' n' sl') ∧ _
  unfold topR
  match hr : (lev t N D 8).2 false 0 0 with
  | .inr x =>
    rw [hr] at cl gl
    obtain ⟨v, w', ex', n', sl', U', nd', a1, a2, a3, a4, a5, ⟨a, a6, a7⟩, a8⟩ := cl
    have hx9 : x ≤ N := gl
    have hR' : RS w' t N D := hR1.frx a4
    have hf' : w'.1 29 1 ≠ -1 := by rw [a5]; exact mI_m1 (by omega)
    rw [a1, ob, c_peek hR' a6 a7, ob, if_neg hf']
    try dsimp only
    rw [if_pos rfl, c_read44]
    have e1 : (wI w' 29 4 (mI (sk t N a))).1 29 1 = w'.1 29 1 := wI_j (by decide)
    rw [e1, if_neg hf']
    refine ⟨_, _, ex', n', sl', U', nd', rfl, (a2.wI).wI, a3, ((f1.tr (mo a4)).w29 (by decide)).w29 (by decide), ?_, a8, hx9, rfl, ?_⟩
    · exact wI_s
    · exact ((wI_j (by decide)).trans (wI_j (by decide))).trans a5
  | .inl (p', l) =>
    rw [hr] at cl gl
    obtain ⟨i, w', ex', n', sl', U', nd', a1, a2, a3, a4, a5, a6, a7, a8, a9, a10⟩ := cl
    obtain ⟨g1, g2, g3, g4, g5, -, -⟩ := gl
    have hR' : RS w' t N D := hR1.frx a4
    have hk := sk_le (t := t) g5
    have cb := chr_b hR' (sk t N p')
    have hBl : Bb false * l.length ≤ 4 * l.length := Nat.mul_le_mul_right _ (Bb_le false).2
    have e1 : (wI w' 29 4 (mI (sk t N p'))).1 29 1 = w'.1 29 1 := wI_j (by decide)
    rw [a1, ob, c_peek hR' g5 a8, ob, if_pos a7]
    try dsimp only
    have em : cv (chr t N (sk t N p')) = -1 ↔ sk t N p' = N := by rw [cv_m1 cb]; exact chr_N (fun i hi => (hb i hi).1) hk.2
    by_cases g : sk t N p' = N
    · rw [if_pos (em.mpr g), if_pos g, c_read44, e1, if_pos a7]
      refine ⟨_, _, ex', n', sl', U', nd', rfl, (a2.wI).wI, a3, ((f1.tr (mo a4)).w29 (by decide)).w29 (by decide), ?_, by omega, i, rfl, a5, a6, ?_⟩
      · exact wI_s
      · exact ((wI_j (by decide)).trans (wI_j (by decide))).trans a7
    · rw [if_neg (fun z => g (em.mp z)), if_neg g, q_29_4, ob, c_fail, ob]
      have e4 : (wI w' 29 4 (mI (sk t N p'))).1 29 4 = mI (sk t N p') := wI_s
      rw [e1, if_pos a7, e4, c_read44]
      have e5 : (wI (wI w' 29 4 (mI (sk t N p'))) 29 1 (mI (sk t N p'))).1 29 1 = mI (sk t N p') := wI_s
      rw [e5, if_neg (mI_m1 (by omega))]
      refine ⟨_, _, ex', n', sl', U', nd', rfl, ((a2.wI).wI).wI, a3, (((f1.tr (mo a4)).w29 (by decide)).w29 (by decide)).w29 (by decide), ?_, by omega, hk.2, rfl, ?_⟩
      · exact wI_s
      · exact (wI_j (by decide)).trans wI_s
end CRd
