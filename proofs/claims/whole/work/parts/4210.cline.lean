/-! the class's books: lines and what is told -/
theorem i_and1 (z : Int32) : z &&& 1 = 0 ∨ z &&& 1 = 1 := by
  have h : (z &&& 1).toBitVec = BitVec.setWidth 32 (BitVec.ofBool (z.toBitVec.getLsbD 0)) := BitVec.and_one_eq_setWidth_ofBool_getLsbD
  cases hb : z.toBitVec.getLsbD 0 with
  | false => rw [hb] at h; exact Or.inl (Int32.toBitVec_inj.mp h)
  | true => rw [hb] at h; exact Or.inr (Int32.toBitVec_inj.mp h)
theorem bit_0 {x : Int32} {k : Nat} : ((x >>> (mI k &&& 31)) &&& 1 = 0) = ¬ bit x k := by
  refine propext ⟨fun h g => ?_, fun h => (i_and1 _).resolve_right h⟩
  unfold bit at g
  rw [h] at g
  exact absurd g (by decide)
theorem bit_n {x : Int32} {k : Nat} (h : bit x k) : ¬ ((x >>> (mI k &&& 31)) &&& 1 = 0) := fun g => by rw [bit_0] at g; exact g h
theorem bit_z {x : Int32} {k : Nat} (h : ¬ bit x k) : (x >>> (mI k &&& 31)) &&& 1 = 0 := by rw [bit_0]; exact h
def CW (w : sW) (D F L U : Nat) (y : sLn) (φ nd : Nat → List Nat) (nf : Nat → Nat) : Prop := 1 ≤ D ∧ D ≤ 3 ∧ F ≤ 30 ∧ L ≤ 40 ∧ w.1 9 0 = mI D ∧ w.1 9 2 = mI F ∧ w.1 9 6 = mI L ∧ hasLn (w.2.2.1 17) 0 L y ∧ okLn F L y ∧ NT w U D nd ∧ ∀ f, f < F → nf f < U ∧ w.2.2.1 15 f = mI (nf f) ∧ nd (nf f) = φ f
section CLn
variable {P : sP} {w : sW} {ex : Nat → Option sC} {n sl : Nat} {D F L U : Nat} {y : sLn} {φ nd : Nat → List Nat} {nf : Nat → Nat}
theorem c_line {l j : Nat} {x v : Int32} (hC : CW w D F L U y φ nd nf) (hx : x = mI l) (hv : v = mI j) (hl : l < L) (hj : j < 6) : F_X1_ofLine (P.2.1 + 9) x v (hp P w ex n sl) = some (w.2.2.1 17 (0 + 6 * l + j), hp P w ex n sl) := by
  obtain ⟨-, -, -, h40, -, -, hL, -⟩ := hC
  rw [c_ofLine hL h40 hx hv hl hj, show l * 6 + j = 0 + 6 * l + j by omega]
theorem c_house {l : Nat} {x : Int32} (hC : CW w D F L U y φ nd nf) (hx : x = mI l) (hl : l < L) : F_X1_ofLine (P.2.1 + 9) x 0 (hp P w ex n sl) = some (mI (y.1 l), hp P w ex n sl) := by
  rw [c_line (v := 0) (j := 0) hC hx rfl hl (by decide), (hC.2.2.2.2.2.2.2.1 l hl).1]
theorem c_said {l : Nat} {x : Int32} (hC : CW w D F L U y φ nd nf) (hx : x = mI l) (hl : l < L) : F_X1_ofLine (P.2.1 + 9) x 1 (hp P w ex n sl) = some (mI (y.2.1 l), hp P w ex n sl) := by
  rw [c_line (v := 1) (j := 1) hC hx rfl hl (by decide), (hC.2.2.2.2.2.2.2.1 l hl).2.1]
theorem c_rule {l : Nat} {x : Int32} (hC : CW w D F L U y φ nd nf) (hx : x = mI l) (hl : l < L) : F_X1_ofLine (P.2.1 + 9) x 2 (hp P w ex n sl) = some (mI (y.2.2.1 l), hp P w ex n sl) := by
  rw [c_line (v := 2) (j := 2) hC hx rfl hl (by decide), (hC.2.2.2.2.2.2.2.1 l hl).2.2.1]
theorem c_premiseOf {l j : Nat} {x v : Int32} (hC : CW w D F L U y φ nd nf) (hx : x = mI l) (hv : v = mI j) (hl : l < L) (hj : j < 3) : F_X1_premiseOf (P.2.1 + 9) x v (hp P w ex n sl) = some (thOf (prem y l j), hp P w ex n sl) := by
  subst hv
  have ho := hC.2.2.2.2.2.2.2.2.1
  have hr := (ho l hl).2.2.1
  have e : (3 : Int32) + mI j = mI (3 + j) := mI_add 3 j
  have e0 : (mI (y.2.2.1 l) = 0) = (y.2.2.1 l = 0) := m_eqN (b := 0) (by omega) (by decide)
  simp only [E_X1_premiseOf, E_X1_premiseOf_0, z_9, ob, c_rule hC hx hl, e0, e, c_line (v := mI (3 + j)) (j := 3 + j) hC hx rfl hl (show 3 + j < 6 by omega), (hC.2.2.2.2.2.2.2.1 l hl).2.2.2 j hj]
  unfold prem
  by_cases g : y.2.2.1 l = 0
  · rw [if_pos g, if_pos g]; rfl
  · rw [if_neg g, if_neg g]
theorem c_nodeOfLine {l : Nat} {x : Int32} (hC : CW w D F L U y φ nd nf) (hx : x = mI l) (hl : l < L) : F_X1_nodeOfLine (P.2.1 + 9) x (hp P w ex n sl) = some (mI (nf (y.2.1 l)), hp P w ex n sl) := by
  have hf := (hC.2.2.2.2.2.2.2.2.1 l hl).2.1
  simp only [E_X1_nodeOfLine, E_X1_nodeOfLine_0, z_9, ob, c_said hC hx hl, c_nodeOf (x := mI (y.2.1 l)) hC.2.2.2.2.2.1 hC.2.2.1 rfl hf, (hC.2.2.2.2.2.2.2.2.2.2 _ hf).2.1]
theorem c_nodeOfLineN (hC : CW w D F L U y φ nd nf) : F_X1_nodeOfLine (P.2.1 + 9) (-1) (hp P w ex n sl) = some (-1, hp P w ex n sl) := by
  have g : ∀ k, ¬ inN (-1) k := fun k z => z.1 (by decide)
  simp only [E_X1_nodeOfLine, E_X1_nodeOfLine_0, z_9, ob, c_ofLineN (x := -1) (v := 1) hC.2.2.2.2.2.2.1 (g L), c_nodeOfN (x := -1) hC.2.2.2.2.2.1 (g F)]
theorem c_hasRule {h r : Nat} {x v : Int32} (hx : x = mI h) (hv : v = mI r) (hh : h < 3) : F_X1_hasRule (P.2.1 + 9) x v (hp P w ex n sl) = some (b2 (bit (w.2.2.1 11 h) r), hp P w ex n sl) := by
  subst hx hv
  have h0 : ¬ mI h < 0 := mI_0 (by omega)
  have h1 : ¬ (3 : Int32) ≤ mI h := by
    have e := mI_le (a := 3) (b := h) (by decide) (by omega)
    intro g
    have := e.mp g
    omega
  simp only [E_X1_hasRule, E_X1_hasRule_0, z_9, q_9_4, ob, h0, h1, if_false, a_11 (mI_out hh (by decide)), mI_nat (show h < 2 ^ 31 by omega)]
  by_cases g : bit (w.2.2.1 11 h) r
  · rw [if_neg (bit_n g), b2_t g]
  · rw [if_pos (bit_z g), b2_f g]
theorem c_isAmong {i : Nat} {s x : Int32} (hC : CW w D F L U y φ nd nf) (hx : x = mI i) (hi : i < U) : F_X1_isAmong (P.2.1 + 9) s x (hp P w ex n sl) = some (b2 (tol F φ s (nd i)), hp P w ex n sl) := by
  subst hx
  have hF := hC.2.2.2.2.2.1
  have h30 := hC.2.2.1
  have hN := hC.2.2.2.2.2.2.2.2.2.1
  have hf := hC.2.2.2.2.2.2.2.2.2.2
  have hU : U ≤ 2 ^ 17 := Nat.le_trans hN.2.1 hN.2.2.1
  have step : ∀ (d k : Nat), k + d = F → R_X1_isAmong_2 (P.2.1 + 9) s (mI i) (mI k) (hp P w ex n sl) = some (b2 (∃ j, k ≤ j ∧ j < F ∧ bit s j ∧ φ j = nd i), hp P w ex n sl) := by
    intro d
    induction d with
    | zero =>
      intro k hk
      have hk : k = F := by omega
      subst hk
      rw [E_X1_isAmong_2, q_9_2, ob, hF, if_pos ((mI_le (by omega) (by omega)).mpr (Nat.le_refl _)), b2_f (fun ⟨j, h1, h2, _⟩ => by omega)]
    | succ d ih =>
      intro k hk
      have e3 : mI k + 1 = mI (k + 1) := mI_add k 1
      have skip : ¬ (bit s k ∧ φ k = nd i) → b2 (∃ j, k ≤ j ∧ j < F ∧ bit s j ∧ φ j = nd i) = b2 (∃ j, k + 1 ≤ j ∧ j < F ∧ bit s j ∧ φ j = nd i) := fun g => b2_congr ⟨fun ⟨j, h1, h2, h3⟩ => ⟨j, by
          by_cases e : j = k
          · subst e; exact absurd h3 g
          · omega, h2, h3⟩, fun ⟨j, h1, h2, h3⟩ => ⟨j, by omega, h2, h3⟩⟩
      have f3 := hf k (by omega)
      have en : (mI (nf k) = mI i) = (φ k = nd i) := propext ⟨fun z => by
          have z := (mI_inj (by omega) (by omega)).mp z
          rw [← f3.2.2, z], fun z => by
          rw [← f3.2.2] at z
          rw [hN.2.2.2.2 _ _ f3.1 hi z]⟩
      rw [E_X1_isAmong_2, q_9_2, ob, hF, if_neg (by rw [mI_le (by omega) (by omega)]; omega)]
      simp only [E_X1_isAmong_30, e3, q_9_11, ob, a_15 (mI_out (show k < 30 by omega) (by decide)), mI_nat (show k < 2 ^ 31 by omega), f3.2.1, en]
      by_cases hb : bit s k
      · rw [if_neg (bit_n hb)]
        by_cases hs : φ k = nd i
        · have ht : b2 (∃ j, k ≤ j ∧ j < F ∧ bit s j ∧ φ j = nd i) = 1 := b2_t ⟨k, Nat.le_refl _, by omega, hb, hs⟩
          rw [if_pos hs, ht]
        · rw [if_neg hs, ih (k + 1) (by omega), skip (fun g => hs g.2)]
      · rw [if_pos (bit_z hb), ih (k + 1) (by omega), skip (fun g => hb g.1)]
  rw [E_X1_isAmong, z_9, ob, E_X1_isAmong_0]
  unfold tol
  rw [b2_congr (p := ∃ k, k < F ∧ bit s k ∧ φ k = nd i) (q := ∃ j, 0 ≤ j ∧ j < F ∧ bit s j ∧ φ j = nd i) ⟨fun ⟨j, h⟩ => ⟨j, Nat.zero_le _, h⟩, fun ⟨j, _, h⟩ => ⟨j, h⟩⟩]
  exact step F 0 (by omega)
end CLn
