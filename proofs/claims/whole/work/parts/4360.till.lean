/-! receipts: line, buyer, coins, day, whether undone -/
abbrev sRc : Type := (Nat → Nat) × (Nat → Nat) × (Nat → Nat) × (Nat → Nat) × (Nat → Prop)
def okRc (L R : Nat) (y : sLn) (ρ : sRc) : Prop := R ≤ 30 ∧ ∀ r, r < R → ρ.1 r < L ∧ ρ.2.1 r < 7 ∧ ρ.2.2.1 r ≤ 9999 ∧ ρ.2.2.2.1 r ≤ 9999 ∧ ρ.2.1 r ≠ 4 + y.1 (ρ.1 r)
def CR (w : sW) (R : Nat) (ρ : sRc) : Prop := w.1 9 9 = mI R ∧ (∀ r, r < R → w.2.2.1 18 (r * 4 + 0) = mI (ρ.1 r) ∧ w.2.2.1 18 (r * 4 + 1) = mI (ρ.2.1 r) ∧ w.2.2.1 18 (r * 4 + 2) = mI (ρ.2.2.1 r) ∧ w.2.2.1 18 (r * 4 + 3) = mI (ρ.2.2.2.1 r)) ∧ ∀ i, i < 32 → (bt (w.1 9 10) i = true ↔ i < R ∧ ρ.2.2.2.2 i)
def MR (w : sW) (R : Nat) (ρ : sRc) : Prop := w.2.2.1 47 3 = mI R ∧ ∀ r, r < R → w.2.2.1 47 (1532 + 5 * r + 0) = mI (ρ.1 r) ∧ w.2.2.1 47 (1532 + 5 * r + 1) = mI (ρ.2.1 r) ∧ w.2.2.1 47 (1532 + 5 * r + 2) = mI (ρ.2.2.1 r) ∧ w.2.2.1 47 (1532 + 5 * r + 3) = mI (ρ.2.2.2.1 r) ∧ w.2.2.1 47 (1532 + 5 * r + 4) = b2 (ρ.2.2.2.2 r)
theorem CR.fr {A B : List Nat} {w w' : sW} (h : Fr A B w w') {R : Nat} {ρ : sRc} (g : CR w R ρ) (h1 : 18 ∉ A) (h2 : 909 ∉ B) (h3 : 910 ∉ B) : CR w' R ρ := by
  unfold CR
  rw [h.a h1, h.i (k := 9) (j := 9) h2, h.i (k := 9) (j := 10) h3]
  exact g
theorem MR.fr {A B : List Nat} {w w' : sW} (h : Fr A B w w') {R : Nat} {ρ : sRc} (g : MR w R ρ) (h1 : 47 ∉ A) : MR w' R ρ := by
  unfold MR
  rw [h.a h1]
  exact g
theorem nsubI {a b : Nat} (ha : a < 2 ^ 31) (hb : b < 2 ^ 31) : (mI a - mI b).toInt = (a : Int) - b := by
  show (Int32.ofNat a - Int32.ofNat b).toInt = _
  rw [← Int32.ofInt_eq_ofNat, ← Int32.ofInt_eq_ofNat, ← Int32.ofInt_sub, Int32.toInt_ofInt_of_le (by omega) (by omega)]
theorem nsublt {a b : Nat} (ha : a < 2 ^ 31) (hb : b < 2 ^ 31) : (mI a - mI b < 0) = (a < b) := by
  rw [Int32.lt_iff_toInt_lt, nsubI ha hb]
  apply propext
  show ((a : Int) - b < 0) ↔ _
  omega
theorem nsub0 {a b : Nat} (ha : a < 2 ^ 31) (hb : b < 2 ^ 31) : (mI a - mI b = 0) = (a = b) := by
  rw [← Int32.toInt_inj, nsubI ha hb]
  apply propext
  show ((a : Int) - b = 0) ↔ _
  omega
theorem sumI_s {f : Nat → Int32} {k : Nat} : sumI f (k + 1) = sumI f k + f k := rfl
def ahdP (ρ : sRc) (k r : Nat) : Prop := ρ.2.2.2.1 k < ρ.2.2.2.1 r ∨ (ρ.2.2.2.1 k = ρ.2.2.2.1 r ∧ k < r)
def agnP (R : Nat) (φ : Nat → List Nat) (y : sLn) (ρ : sRc) (r : Nat) : Prop := ∃ k, k < R ∧ (¬ ρ.2.2.2.2 k ∧ ahdP ρ k r ∧ ρ.2.1 k = ρ.2.1 r ∧ φ (y.2.1 (ρ.1 k)) = φ (y.2.1 (ρ.1 r)))
def backP (v : Int32) (H S O T V : Nat → Prop) (A : Nat → Prop) (l r : Nat) : Prop := (¬ v &&& 1 = 0 ∧ ¬ H l) ∨ (¬ v &&& 2 = 0 ∧ ¬ S l) ∨ (¬ v &&& 4 = 0 ∧ T l ∧ ¬ V l) ∨ (¬ v &&& 8 = 0 ∧ O l) ∨ (¬ v &&& 16 = 0 ∧ A r)
section TL
variable {P : sP} {w : sW} {ex : Nat → Option sC} {n sl : Nat} {D F L U R : Nat} {y : sLn} {φ nd : Nat → List Nat} {nf : Nat → Nat} {ρ : sRc} {H S O T : Nat → Prop}
theorem c_isVoid {r : Nat} {x : Int32} (hR : CR w R ρ) (h30 : R ≤ 30) (hx : x = mI r) (hr : r < R) : F_X1_isVoid (P.2.1 + 9) x (hp P w ex n sl) = some (b2 (ρ.2.2.2.2 r), hp P w ex n sl) := by
  subst hx
  have hb := hR.2.2 r (by omega)
  rw [E_X1_isVoid, z_9, ob, E_X1_isVoid_0, q_9_10, ob]
  by_cases g : ρ.2.2.2.2 r
  · rw [if_neg (by rw [t32 (by omega), hb.mpr ⟨hr, g⟩]; decide), b2_t g]
  · rw [if_pos (by rw [t32 (by omega), ← Bool.not_eq_true]; exact fun z => g (hb.mp z).2), b2_f g]
theorem c_rc0 {r : Nat} {x : Int32} (hR : CR w R ρ) (h30 : R ≤ 30) (hx : x = mI r) (hr : r < R) : F_X1_ofReceipt (P.2.1 + 9) x 0 (hp P w ex n sl) = some (mI (ρ.1 r), hp P w ex n sl) := by rw [c_ofReceipt (v := 0) (j := 0) hR.1 h30 hx rfl hr (by decide), (hR.2.1 r hr).1]
theorem c_rc1 {r : Nat} {x : Int32} (hR : CR w R ρ) (h30 : R ≤ 30) (hx : x = mI r) (hr : r < R) : F_X1_ofReceipt (P.2.1 + 9) x 1 (hp P w ex n sl) = some (mI (ρ.2.1 r), hp P w ex n sl) := by rw [c_ofReceipt (v := 1) (j := 1) hR.1 h30 hx rfl hr (by decide), (hR.2.1 r hr).2.1]
theorem c_rc2 {r : Nat} {x : Int32} (hR : CR w R ρ) (h30 : R ≤ 30) (hx : x = mI r) (hr : r < R) : F_X1_ofReceipt (P.2.1 + 9) x 2 (hp P w ex n sl) = some (mI (ρ.2.2.1 r), hp P w ex n sl) := by rw [c_ofReceipt (v := 2) (j := 2) hR.1 h30 hx rfl hr (by decide), (hR.2.1 r hr).2.2.1]
theorem c_rc3 {r : Nat} {x : Int32} (hR : CR w R ρ) (h30 : R ≤ 30) (hx : x = mI r) (hr : r < R) : F_X1_ofReceipt (P.2.1 + 9) x 3 (hp P w ex n sl) = some (mI (ρ.2.2.2.1 r), hp P w ex n sl) := by rw [c_ofReceipt (v := 3) (j := 3) hR.1 h30 hx rfl hr (by decide), (hR.2.1 r hr).2.2.2]
theorem c_isBefore {k r : Nat} {x v : Int32} (hR : CR w R ρ) (hK : okRc L R y ρ) (hx : x = mI k) (hv : v = mI r) (hk : k < R) (hr : r < R) : F_X6_isBefore (P.2.1 + 45) x v (hp P w ex n sl) = some (b2 (ahdP ρ k r), hp P w ex n sl) := by
  subst hx hv
  have h30 := hK.1
  have d1 := (hK.2 k hk).2.2.2.1
  have d2 := (hK.2 r hr).2.2.2.1
  rw [E_X6_isBefore, z_45, ob, E_X6_isBefore_0, q_45_0, ob, c_rc3 hR h30 rfl hk, ob, q_45_0, ob, c_rc3 hR h30 rfl hr, ob]
  try dsimp only
  unfold ahdP
  by_cases g : ρ.2.2.2.1 k < ρ.2.2.2.1 r
  · rw [if_pos (by rw [nsublt (by omega) (by omega)]; exact g), b2_t (Or.inl g)]
  · rw [if_neg (by rw [nsublt (by omega) (by omega)]; exact g)]
    by_cases g1 : ρ.2.2.2.1 k = ρ.2.2.2.1 r
    · rw [if_pos (by rw [nsub0 (by omega) (by omega)]; exact g1)]
      by_cases g2 : k < r
      · rw [if_neg (by rw [nle (by omega) (by omega)]; omega), b2_t (Or.inr ⟨g1, g2⟩)]
      · rw [if_pos (by rw [nle (by omega) (by omega)]; omega), b2_f (fun z => z.elim g fun m => g2 m.2)]
    · rw [if_neg (by rw [nsub0 (by omega) (by omega)]; exact g1), b2_f (fun z => z.elim g fun m => g1 m.1)]
theorem c_sameN {f g : Nat} (hC : CW w D F L U y φ nd nf) (hf : f < F) (hg : g < F) : (mI (nf f) = mI (nf g)) = (φ f = φ g) := by
  have hN := hC.2.2.2.2.2.2.2.2.2.1
  have hU : U ≤ 2 ^ 17 := Nat.le_trans hN.2.1 hN.2.2.1
  have f1 := hC.2.2.2.2.2.2.2.2.2.2 _ hf
  have f2 := hC.2.2.2.2.2.2.2.2.2.2 _ hg
  exact propext ⟨fun e => by
    have e := (mI_inj (by omega) (by omega)).mp e
    rw [← f1.2.2, e, f2.2.2], fun e => by
    rw [← f1.2.2, ← f2.2.2] at e
    exact congrArg mI (hN.2.2.2.2 _ _ f1.1 f2.1 e)⟩
theorem c_wasSold {r : Nat} {x : Int32} (hC : CW w D F L U y φ nd nf) (hR : CR w R ρ) (hK : okRc L R y ρ) (hx : x = mI r) (hr : r < R) : F_X6_wasSoldBefore (P.2.1 + 45) x (hp P w ex n sl) = some (b2 (agnP R φ y ρ r), hp P w ex n sl) := by
  subst hx
  have h30 := hK.1
  have ho := hC.2.2.2.2.2.2.2.2.1
  have lr := (hK.2 r hr).1
  have br := (hK.2 r hr).2.1
  rw [E_X6_wasSoldBefore, z_45, ob, E_X6_wasSoldBefore_0, q_45_0, ob, ob, c_rc0 hR h30 rfl hr, ob, c_nodeOfLine (x := mI (ρ.1 r)) hC rfl lr, ob, q_45_0, ob, c_rc1 hR h30 rfl hr, ob]
  refine loopB (f := fun k => R_X6_wasSoldBefore_30 (P.2.1 + 45) (mI r) (mI (nf (y.2.1 (ρ.1 r)))) (mI (ρ.2.1 r)) (mI k) (hp P w ex n sl)) (N := R) (fun k hk hn => ?_) (fun k hk hy => ?_) ?_
  · have lk := (hK.2 k hk).1
    have bk := (hK.2 k hk).2.1
    have go : R_X6_wasSoldBefore_101 (P.2.1 + 45) (mI r) (mI (nf (y.2.1 (ρ.1 r)))) (mI (ρ.2.1 r)) (mI k) (hp P w ex n sl) = R_X6_wasSoldBefore_30 (P.2.1 + 45) (mI r) (mI (nf (y.2.1 (ρ.1 r)))) (mI (ρ.2.1 r)) (mI (k + 1)) (hp P w ex n sl) := by rw [E_X6_wasSoldBefore_101, naddL]
    rw [E_X6_wasSoldBefore_30, q_45_0, ob, q_9_9, ob, hR.1, if_neg (show ¬ mI R ≤ mI k by rw [nle (by omega) (by omega)]; omega), ob, c_isVoid hR h30 rfl hk, ob]
    try dsimp only
    by_cases g : ρ.2.2.2.2 k
    · rw [if_neg (show ¬ b2 _ = 0 from fun z => b2_0.mp z g), go]
    · rw [if_pos (b2_0.mpr g), c_isBefore hR hK rfl rfl hk hr, ob]
      try dsimp only
      by_cases g1 : ahdP ρ k r
      · rw [if_neg (show ¬ b2 _ = 0 from fun z => b2_0.mp z g1), q_45_0, ob, c_rc1 hR h30 rfl hk, ob]
        try dsimp only
        by_cases g2 : ρ.2.1 k = ρ.2.1 r
        · rw [if_pos (by rw [neq (by omega) (by omega)]; exact g2), q_45_0, ob, ob, c_rc0 hR h30 rfl hk, ob, c_nodeOfLine (x := mI (ρ.1 k)) hC rfl lk, ob]
          try dsimp only
          rw [if_neg (by rw [c_sameN hC (ho _ lk).2.1 (ho _ lr).2.1]; exact fun g3 => hn ⟨g, g1, g2, g3⟩), go]
        · rw [if_neg (by rw [neq (by omega) (by omega)]; exact g2), go]
      · rw [if_pos (b2_0.mpr g1), go]
  · have lk := (hK.2 k hk).1
    have bk := (hK.2 k hk).2.1
    obtain ⟨g, g1, g2, g3⟩ := hy
    rw [E_X6_wasSoldBefore_30, q_45_0, ob, q_9_9, ob, hR.1, if_neg (show ¬ mI R ≤ mI k by rw [nle (by omega) (by omega)]; omega), ob, c_isVoid hR h30 rfl hk, ob]
    try dsimp only
    rw [if_pos (b2_0.mpr g), c_isBefore hR hK rfl rfl hk hr, ob]
    try dsimp only
    rw [if_neg (show ¬ b2 _ = 0 from fun z => b2_0.mp z g1), q_45_0, ob, c_rc1 hR h30 rfl hk, ob]
    try dsimp only
    rw [if_pos (by rw [neq (by omega) (by omega)]; exact g2), q_45_0, ob, ob, c_rc0 hR h30 rfl hk, ob, c_nodeOfLine (x := mI (ρ.1 k)) hC rfl lk, ob]
    try dsimp only
    rw [if_pos (by rw [c_sameN hC (ho _ lk).2.1 (ho _ lr).2.1]; exact g3)]
  · rw [E_X6_wasSoldBefore_30, q_45_0, ob, q_9_9, ob, hR.1, if_pos (show mI R ≤ mI R by rw [nle (by omega) (by omega)]; omega)]
theorem c_isRefunded {r : Nat} {x v : Int32} (hC : CW w D F L U y φ nd nf) (hR : CR w R ρ) (hK : okRc L R y ρ) (hx : x = mI r) (hr : r < R) (h0 : w.2.1 37 0 = mk64 H L) (h1 : w.2.1 37 1 = mk64 S L) (h2 : w.2.1 37 2 = mk64 O L) (h3 : w.2.1 37 3 = mk64 T L) : F_X6_isRefunded (P.2.1 + 45) x v (hp P w ex n sl) = some (b2 (backP v H S O T (savP L φ y S O T) (agnP R φ y ρ) (ρ.1 r) r), hp P w ex n sl) := by
  subst hx
  have h30 := hK.1
  have lr := (hK.2 r hr).1
  have t0 := c_tells (P := P) (ex := ex) (n := n) (sl := sl) (x := mI (ρ.1 r)) (v := 0) (j := 0) hC rfl rfl (by decide) lr h0 h1 h2 h3
  have t1 := c_tells (P := P) (ex := ex) (n := n) (sl := sl) (x := mI (ρ.1 r)) (v := 1) (j := 1) hC rfl rfl (by decide) lr h0 h1 h2 h3
  have t2 := c_tells (P := P) (ex := ex) (n := n) (sl := sl) (x := mI (ρ.1 r)) (v := 2) (j := 2) hC rfl rfl (by decide) lr h0 h1 h2 h3
  have t3 := c_tells (P := P) (ex := ex) (n := n) (sl := sl) (x := mI (ρ.1 r)) (v := 3) (j := 3) hC rfl rfl (by decide) lr h0 h1 h2 h3
  have t4 := c_tells (P := P) (ex := ex) (n := n) (sl := sl) (x := mI (ρ.1 r)) (v := 4) (j := 4) hC rfl rfl (by decide) lr h0 h1 h2 h3
  rw [if_pos rfl] at t0
  rw [if_neg (by decide), if_pos rfl] at t1
  rw [if_neg (by decide), if_neg (by decide), if_pos rfl] at t2
  rw [if_neg (by decide), if_neg (by decide), if_neg (by decide), if_pos rfl] at t3
  rw [if_neg (by decide), if_neg (by decide), if_neg (by decide), if_neg (by decide)] at t4
  have t5 := c_wasSold (P := P) (ex := ex) (n := n) (sl := sl) (x := mI r) hC hR hK rfl hr
  generalize savP L φ y S O T = V at *
  generalize agnP R φ y ρ = A at *
  have s95 : R_X6_isRefunded_95 (P.2.1 + 45) (mI r) v (hp P w ex n sl) = some (b2 (¬ v &&& 16 = 0 ∧ A r), hp P w ex n sl) := by
    rw [E_X6_isRefunded_95]
    by_cases g : v &&& 16 = 0
    · rw [if_pos g, b2_f (fun z => z.1 g)]
    · rw [if_neg g, t5, ob, m_bool]
      exact congrArg (fun z => some (z, hp P w ex n sl)) (b2_congr ⟨fun z => ⟨g, z⟩, fun z => z.2⟩)
  have s76 : R_X6_isRefunded_76 (P.2.1 + 45) (mI r) v (mI (ρ.1 r)) (hp P w ex n sl) = some (b2 ((¬ v &&& 8 = 0 ∧ O (ρ.1 r)) ∨ (¬ v &&& 16 = 0 ∧ A r)), hp P w ex n sl) := by
    rw [E_X6_isRefunded_76]
    by_cases g : v &&& 8 = 0
    · rw [if_pos g, s95, b2_congr (p := (¬ v &&& 8 = 0 ∧ O (ρ.1 r)) ∨ (¬ v &&& 16 = 0 ∧ A r)) ⟨fun z => z.resolve_left (fun m => m.1 g), Or.inr⟩]
    · rw [if_neg g, q_45_1, ob, t2, ob]
      try dsimp only
      by_cases g1 : O (ρ.1 r)
      · rw [if_neg (show ¬ b2 _ = 0 from fun z => b2_0.mp z g1), b2_t (Or.inl ⟨g, g1⟩)]
      · rw [if_pos (b2_0.mpr g1), s95, b2_congr (p := (¬ v &&& 8 = 0 ∧ O (ρ.1 r)) ∨ (¬ v &&& 16 = 0 ∧ A r)) ⟨fun z => z.resolve_left (fun m => g1 m.2), Or.inr⟩]
  have s46 : R_X6_isRefunded_46 (P.2.1 + 45) (mI r) v (mI (ρ.1 r)) (hp P w ex n sl) = some (b2 ((¬ v &&& 4 = 0 ∧ T (ρ.1 r) ∧ ¬ V (ρ.1 r)) ∨ (¬ v &&& 8 = 0 ∧ O (ρ.1 r)) ∨ (¬ v &&& 16 = 0 ∧ A r)), hp P w ex n sl) := by
    rw [E_X6_isRefunded_46]
    have skip : ¬ (¬ v &&& 4 = 0 ∧ T (ρ.1 r) ∧ ¬ V (ρ.1 r)) → some (b2 ((¬ v &&& 8 = 0 ∧ O (ρ.1 r)) ∨ (¬ v &&& 16 = 0 ∧ A r)), hp P w ex n sl) = some (b2 ((¬ v &&& 4 = 0 ∧ T (ρ.1 r) ∧ ¬ V (ρ.1 r)) ∨ (¬ v &&& 8 = 0 ∧ O (ρ.1 r)) ∨ (¬ v &&& 16 = 0 ∧ A r)), hp P w ex n sl) := fun h => congrArg (fun z => some (z, hp P w ex n sl)) (b2_congr ⟨Or.inr, fun z => z.resolve_left h⟩)
    by_cases g : v &&& 4 = 0
    · rw [if_pos g, s76]
      exact skip fun m => m.1 g
    · rw [if_neg g, q_45_1, ob, t3, ob]
      try dsimp only
      by_cases g1 : T (ρ.1 r)
      · rw [if_neg (show ¬ b2 _ = 0 from fun z => b2_0.mp z g1), q_45_1, ob, t4, ob]
        try dsimp only
        by_cases g2 : V (ρ.1 r)
        · rw [if_neg (show ¬ b2 _ = 0 from fun z => b2_0.mp z g2), s76]
          exact skip fun m => m.2.2 g2
        · rw [if_pos (b2_0.mpr g2), b2_t (Or.inl ⟨g, g1, g2⟩)]
      · rw [if_pos (b2_0.mpr g1), s76]
        exact skip fun m => g1 m.2.1
  have s28 : R_X6_isRefunded_28 (P.2.1 + 45) (mI r) v (mI (ρ.1 r)) (hp P w ex n sl) = some (b2 ((¬ v &&& 2 = 0 ∧ ¬ S (ρ.1 r)) ∨ (¬ v &&& 4 = 0 ∧ T (ρ.1 r) ∧ ¬ V (ρ.1 r)) ∨ (¬ v &&& 8 = 0 ∧ O (ρ.1 r)) ∨ (¬ v &&& 16 = 0 ∧ A r)), hp P w ex n sl) := by
    rw [E_X6_isRefunded_28]
    by_cases g : v &&& 2 = 0
    · rw [if_pos g, s46]
      exact congrArg (fun z => some (z, hp P w ex n sl)) (b2_congr ⟨Or.inr, fun z => z.resolve_left fun m => m.1 g⟩)
    · rw [if_neg g, q_45_1, ob, t1, ob]
      try dsimp only
      by_cases g1 : S (ρ.1 r)
      · rw [if_neg (show ¬ b2 _ = 0 from fun z => b2_0.mp z g1), s46]
        exact congrArg (fun z => some (z, hp P w ex n sl)) (b2_congr ⟨Or.inr, fun z => z.resolve_left fun m => m.2 g1⟩)
      · rw [if_pos (b2_0.mpr g1), b2_t (Or.inl ⟨g, g1⟩)]
  rw [E_X6_isRefunded, z_45, ob, E_X6_isRefunded_0, q_45_0, ob, c_rc0 hR h30 rfl hr, ob]
  try dsimp only
  unfold backP
  by_cases g : v &&& 1 = 0
  · rw [if_pos g, s28]
    exact congrArg (fun z => some (z, hp P w ex n sl)) (b2_congr ⟨Or.inr, fun z => z.resolve_left fun m => m.1 g⟩)
  · rw [if_neg g, q_45_1, ob, t0, ob]
    try dsimp only
    by_cases g1 : H (ρ.1 r)
    · rw [if_neg (show ¬ b2 _ = 0 from fun z => b2_0.mp z g1), s28]
      exact congrArg (fun z => some (z, hp P w ex n sl)) (b2_congr ⟨Or.inr, fun z => z.resolve_left fun m => m.2 g1⟩)
    · rw [if_pos (b2_0.mpr g1), b2_t (Or.inl ⟨g, g1⟩)]
/-- who gets coins back -/
def bakP (v : Int32) (L R : Nat) (φ : Nat → List Nat) (y : sLn) (ρ : sRc) (H S O T : Nat → Prop) (r : Nat) : Prop := ¬ ρ.2.2.2.2 r ∧ backP v H S O T (savP L φ y S O T) (agnP R φ y ρ) (ρ.1 r) r
theorem c_refunded {v : Int32} (hC : CW w D F L U y φ nd nf) (hR : CR w R ρ) (hK : okRc L R y ρ) (h0 : w.2.1 37 0 = mk64 H L) (h1 : w.2.1 37 1 = mk64 S L) (h2 : w.2.1 37 2 = mk64 O L) (h3 : w.2.1 37 3 = mk64 T L) : F_X6_refunded (P.2.1 + 45) v (hp P w ex n sl) = some (mk32 (bakP v L R φ y ρ H S O T) R, hp P w ex n sl) := by
  have h30 := hK.1
  rw [E_X6_refunded, z_45, ob, E_X6_refunded_0]
  refine loopE (f := fun k => R_X6_refunded_4 (P.2.1 + 45) v (mk32 (bakP v L R φ y ρ H S O T) k) (mI k) (hp P w ex n sl)) (N := R) (fun k hk => ?_) ?_
  · rw [E_X6_refunded_4, q_45_0, ob, q_9_9, ob, hR.1, if_neg (show ¬ mI R ≤ mI k by rw [nle (by omega) (by omega)]; omega), ob, c_isVoid hR h30 rfl hk, ob]
    try dsimp only
    by_cases g : ρ.2.2.2.2 k
    · rw [if_neg (show ¬ b2 _ = 0 from fun z => b2_0.mp z g), mk32_f (fun z => z.1 g), E_X6_refunded_41, naddL]
    · rw [if_pos (b2_0.mpr g), c_isRefunded hC hR hK rfl hk h0 h1 h2 h3, ob]
      try dsimp only
      by_cases g1 : backP v H S O T (savP L φ y S O T) (agnP R φ y ρ) (ρ.1 k) k
      · rw [if_neg (show ¬ b2 _ = 0 from fun z => b2_0.mp z g1), mk32_t (p := bakP v L R φ y ρ H S O T) ⟨g, g1⟩, E_X6_refunded_41, naddL]
      · rw [if_pos (b2_0.mpr g1), mk32_f (fun z => g1 z.2), E_X6_refunded_41, naddL]
  · rw [E_X6_refunded_4, q_45_0, ob, q_9_9, ob, hR.1, if_pos (show mI R ≤ mI R by rw [nle (by omega) (by omega)]; omega)]
theorem c_sellerOf {r : Nat} {x : Int32} (hC : CW w D F L U y φ nd nf) (hR : CR w R ρ) (hK : okRc L R y ρ) (hx : x = mI r) (hr : r < R) : F_X6_sellerOf (P.2.1 + 45) x (hp P w ex n sl) = some (mI (y.1 (ρ.1 r)), hp P w ex n sl) := by
  subst hx
  rw [E_X6_sellerOf, z_45, ob, E_X6_sellerOf_0, q_45_0, ob, ob, c_rc0 hR hK.1 rfl hr, ob, c_house (x := mI (ρ.1 r)) hC rfl (hK.2 r hr).1, ob]
theorem mk32_t32 {p : Nat → Prop} {k N : Nat} (hN : N ≤ 32) (hk : k < N) : ((mk32 p N >>> (mI k &&& 31)) &&& 1 = 0) = ¬ p k := by
  rw [t32 (by omega)]
  apply propext
  rw [← Bool.not_eq_true, bt_mk hN (by omega)]
  exact ⟨fun z m => z ⟨hk, m⟩, fun z m => z m.2⟩
noncomputable def oweT (y : sLn) (ρ : sRc) (B : Nat → Prop) (h b : Int32) (r : Nat) : Int32 := @ite _ (B r ∧ (b = -1 ∨ mI (ρ.2.1 r) = b) ∧ mI (y.1 (ρ.1 r)) = h) (Classical.propDecidable _) (mI (ρ.2.2.1 r)) 0
theorem c_owedBy {h b v : Int32} (hC : CW w D F L U y φ nd nf) (hR : CR w R ρ) (hK : okRc L R y ρ) (h0 : w.2.1 37 0 = mk64 H L) (h1 : w.2.1 37 1 = mk64 S L) (h2 : w.2.1 37 2 = mk64 O L) (h3 : w.2.1 37 3 = mk64 T L) : F_X6_owedBy (P.2.1 + 45) h b v (hp P w ex n sl) = some (sumI (oweT y ρ (bakP v L R φ y ρ H S O T) h b) R, hp P w ex n sl) := by
  have h30 := hK.1
  rw [E_X6_owedBy, z_45, ob, E_X6_owedBy_0, c_refunded hC hR hK h0 h1 h2 h3, ob]
  generalize bakP v L R φ y ρ H S O T = B
  refine loopE (f := fun k => R_X6_owedBy_13 (P.2.1 + 45) h b (mk32 B R) (sumI (oweT y ρ B h b) k) (mI k) (hp P w ex n sl)) (N := R) (fun k hk => ?_) ?_
  · have add0 : ¬ (B k ∧ (b = -1 ∨ mI (ρ.2.1 k) = b) ∧ mI (y.1 (ρ.1 k)) = h) → R_X6_owedBy_91 (P.2.1 + 45) h b (mk32 B R) (sumI (oweT y ρ B h b) k) (mI k) (hp P w ex n sl) = R_X6_owedBy_13 (P.2.1 + 45) h b (mk32 B R) (sumI (oweT y ρ B h b) (k + 1)) (mI (k + 1)) (hp P w ex n sl) := by
      intro g
      rw [E_X6_owedBy_91, naddL, sumI_s, show oweT y ρ B h b k = 0 from if_neg g, Int32.add_zero]
    have s49 : ∀ c : Int32, (c = 0 → ¬ (b = -1 ∨ mI (ρ.2.1 k) = b)) → (¬ c = 0 → (b = -1 ∨ mI (ρ.2.1 k) = b)) → R_X6_owedBy_49 (P.2.1 + 45) h b (mk32 B R) (sumI (oweT y ρ B h b) k) (mI k) c (hp P w ex n sl) = R_X6_owedBy_13 (P.2.1 + 45) h b (mk32 B R) (sumI (oweT y ρ B h b) (k + 1)) (mI (k + 1)) (hp P w ex n sl) := by
      intro c c0 c1
      rw [E_X6_owedBy_49]
      by_cases g : B k
      · rw [if_neg (by rw [mk32_t32 (by omega) hk]; exact fun z => z g)]
        by_cases g1 : c = 0
        · rw [if_pos g1, add0 fun m => c0 g1 m.2.1]
        · rw [if_neg g1, c_sellerOf hC hR hK rfl hk, ob]
          try dsimp only
          by_cases g2 : mI (y.1 (ρ.1 k)) = h
          · rw [if_pos g2, q_45_0, ob, c_rc2 hR h30 rfl hk, ob, E_X6_owedBy_91, naddL, sumI_s, show oweT y ρ B h b k = mI (ρ.2.2.1 k) from if_pos ⟨g, c1 g1, g2⟩]
          · rw [if_neg g2, add0 fun m => g2 m.2.2]
      · rw [if_pos (by rw [mk32_t32 (by omega) hk]; exact g), add0 fun m => g m.1]
    rw [E_X6_owedBy_13, q_45_0, ob, q_9_9, ob, hR.1, if_neg (show ¬ mI R ≤ mI k by rw [nle (by omega) (by omega)]; omega)]
    by_cases g : b = -1
    · rw [if_pos g, E_X6_owedBy_44]
      exact s49 1 (fun z => absurd z (by decide)) fun _ => Or.inl g
    · rw [if_neg g, ob, c_rc1 hR h30 rfl hk, ob]
      try dsimp only
      by_cases g1 : mI (ρ.2.1 k) = b
      · rw [if_pos g1, E_X6_owedBy_44]
        exact s49 1 (fun z => absurd z (by decide)) fun _ => Or.inr g1
      · rw [if_neg g1]
        exact s49 0 (fun _ z => z.elim g g1) fun z => absurd rfl z
  · rw [E_X6_owedBy_13, q_45_0, ob, q_9_9, ob, hR.1, if_pos (show mI R ≤ mI R by rw [nle (by omega) (by omega)]; omega)]
noncomputable def ganT (y : sLn) (ρ : sRc) (B : Nat → Prop) (h : Int32) (r : Nat) : Int32 := @ite _ (ρ.2.2.2.2 r ∨ B r) (Classical.propDecidable _) 0 (if mI (y.1 (ρ.1 r)) = h then mI (ρ.2.2.1 r) else if mI (ρ.2.1 r) = 4 + h then -mI (ρ.2.2.1 r) else 0)
theorem c_gainOf {v : Int32} {q : Nat} (hq : q < 3) (hC : CW w D F L U y φ nd nf) (hR : CR w R ρ) (hK : okRc L R y ρ) (h0 : w.2.1 37 0 = mk64 H L) (h1 : w.2.1 37 1 = mk64 S L) (h2 : w.2.1 37 2 = mk64 O L) (h3 : w.2.1 37 3 = mk64 T L) : F_X6_gainOf (P.2.1 + 45) (mI q) v (hp P w ex n sl) = some (sumI (ganT y ρ (bakP v L R φ y ρ H S O T) (mI q)) R, hp P w ex n sl) := by
  have h30 := hK.1
  have ho := hC.2.2.2.2.2.2.2.2.1
  rw [E_X6_gainOf, z_45, ob, E_X6_gainOf_0, c_refunded hC hR hK h0 h1 h2 h3, ob]
  generalize bakP v L R φ y ρ H S O T = B
  refine loopE (f := fun k => R_X6_gainOf_12 (P.2.1 + 45) (mI q) (mk32 B R) (sumI (ganT y ρ B (mI q)) k) (mI k) (hp P w ex n sl)) (N := R) (fun k hk => ?_) ?_
  · have hk9 := hK.2 k hk
    have hh := (ho _ hk9.1).1
    have e4 : (4 : Int32) + mI q = mI (4 + q) := naddR
    have bq : (mI (ρ.2.1 k) = 4 + mI q) = (ρ.2.1 k = 4 + q) := by rw [e4]; exact neq (by omega) (by omega)
    have hq9 : (mI (y.1 (ρ.1 k)) = mI q) = (y.1 (ρ.1 k) = q) := neq (by omega) (by omega)
    have z0 : (ρ.2.2.2.2 k ∨ B k) → R_X6_gainOf_97 (P.2.1 + 45) (mI q) (mk32 B R) (sumI (ganT y ρ B (mI q)) k) (mI k) (hp P w ex n sl) = R_X6_gainOf_12 (P.2.1 + 45) (mI q) (mk32 B R) (sumI (ganT y ρ B (mI q)) (k + 1)) (mI (k + 1)) (hp P w ex n sl) := by
      intro g
      rw [E_X6_gainOf_97, naddL, sumI_s, show ganT y ρ B (mI q) k = 0 from if_pos g, Int32.add_zero]
    rw [E_X6_gainOf_12, q_45_0, ob, q_9_9, ob, hR.1, if_neg (show ¬ mI R ≤ mI k by rw [nle (by omega) (by omega)]; omega), ob, c_isVoid hR h30 rfl hk, ob]
    try dsimp only
    by_cases g : ρ.2.2.2.2 k
    · rw [if_neg (show ¬ b2 _ = 0 from fun z => b2_0.mp z g), z0 (Or.inl g)]
    · rw [if_pos (b2_0.mpr g)]
      by_cases g1 : B k
      · rw [if_neg (by rw [mk32_t32 (by omega) hk]; exact fun z => z g1), z0 (Or.inr g1)]
      · have gt : ganT y ρ B (mI q) k = (if mI (y.1 (ρ.1 k)) = mI q then mI (ρ.2.2.1 k) else if mI (ρ.2.1 k) = 4 + mI q then -mI (ρ.2.2.1 k) else 0) := if_neg (fun z => z.elim g g1)
        rw [if_pos (by rw [mk32_t32 (by omega) hk]; exact g1), q_45_0, ob, c_rc2 hR h30 rfl hk, ob, c_sellerOf hC hR hK rfl hk, ob]
        try dsimp only
        by_cases g2 : y.1 (ρ.1 k) = q
        · rw [if_pos (by rw [hq9]; exact g2), E_X6_gainOf_74, q_45_0, ob, c_rc1 hR h30 rfl hk, ob]
          try dsimp only
          rw [if_neg (by rw [bq]; exact fun z => hk9.2.2.2.2 (by rw [g2]; exact z)), E_X6_gainOf_97, naddL, sumI_s, gt, if_pos (by rw [hq9]; exact g2)]
        · rw [if_neg (by rw [hq9]; exact g2), E_X6_gainOf_74, q_45_0, ob, c_rc1 hR h30 rfl hk, ob]
          try dsimp only
          by_cases g3 : ρ.2.1 k = 4 + q
          · rw [if_pos (by rw [bq]; exact g3), E_X6_gainOf_97, naddL, sumI_s, gt, if_neg (by rw [hq9]; exact g2), if_pos (by rw [bq]; exact g3), Int32.sub_eq_add_neg]
          · rw [if_neg (by rw [bq]; exact g3), E_X6_gainOf_97, naddL, sumI_s, gt, if_neg (by rw [hq9]; exact g2), if_neg (by rw [bq]; exact g3), Int32.add_zero]
  · rw [E_X6_gainOf_12, q_45_0, ob, q_9_9, ob, hR.1, if_pos (show mI R ≤ mI R by rw [nle (by omega) (by omega)]; omega)]
def deaP (y : sLn) (ρ : sRc) (C : Nat → Int32) (r : Nat) : Prop := y.2.2.1 (ρ.1 r) = 15 ∧ ¬ mI (ρ.2.2.1 r) ≤ C (ρ.1 r)
theorem c_dearerOnes (hC : CW w D F L U y φ nd nf) (hR : CR w R ρ) (hK : okRc L R y ρ) : F_X6_dearerOnes (P.2.1 + 45) (hp P w ex n sl) = some (mk32 (deaP y ρ (fun l => sumI (fun k => if bl (w.2.2.2.1 14 l) k = true then lcost (fun h r => w.2.2.1 16 (h * 17 + r)) φ y k else 0) L)) R, hp P w ex n sl) := by
  have h30 := hK.1
  have ho := hC.2.2.2.2.2.2.2.2.1
  have cost := fun (l : Nat) (hl : l < L) => c_costOfAll (P := P) (ex := ex) (n := n) (sl := sl) (x := mI l) hC rfl hl
  generalize hCC : (fun l => sumI (fun k => if bl (w.2.2.2.1 14 l) k = true then lcost (fun h r => w.2.2.1 16 (h * 17 + r)) φ y k else 0) L) = C
  have cost : ∀ l, l < L → F_X0_costOfAll (P.2.1 + 37) (mI l) (hp P w ex n sl) = some (C l, hp P w ex n sl) := fun l hl => by rw [← hCC]; exact cost l hl
  rw [E_X6_dearerOnes, z_45, ob, E_X6_dearerOnes_0]
  refine loopE (f := fun k => R_X6_dearerOnes_4 (P.2.1 + 45) (mk32 (deaP y ρ C) k) (mI k) (hp P w ex n sl)) (N := R) (fun k hk => ?_) ?_
  · have hk9 := hK.2 k hk
    have hr := (ho _ hk9.1).2.2.1
    have e15 : (mI (y.2.2.1 (ρ.1 k)) = 15) = (y.2.2.1 (ρ.1 k) = 15) := neqL (by omega) (by decide)
    rw [E_X6_dearerOnes_4, q_45_0, ob, q_9_9, ob, hR.1, if_neg (show ¬ mI R ≤ mI k by rw [nle (by omega) (by omega)]; omega), ob, c_rc0 hR h30 rfl hk, ob, q_45_0, ob, c_rule (x := mI (ρ.1 k)) hC rfl hk9.1, ob]
    try dsimp only
    by_cases g : y.2.2.1 (ρ.1 k) = 15
    · rw [if_pos (by rw [e15]; exact g), E_X6_dearerOnes_44, if_neg (by decide), q_45_0, ob, c_rc2 hR h30 rfl hk, ob, q_45_1, ob, cost _ hk9.1, ob]
      try dsimp only
      by_cases g1 : mI (ρ.2.2.1 k) ≤ C (ρ.1 k)
      · rw [if_pos g1, mk32_f (fun z => z.2 g1), E_X6_dearerOnes_77, naddL]
      · rw [if_neg g1, mk32_t (p := deaP y ρ C) ⟨g, g1⟩, E_X6_dearerOnes_77, naddL]
    · rw [if_neg (by rw [e15]; exact g), E_X6_dearerOnes_44, if_pos rfl, mk32_f (fun z => g z.1), E_X6_dearerOnes_77, naddL]
  · rw [E_X6_dearerOnes_4, q_45_0, ob, q_9_9, ob, hR.1, if_pos (show mI R ≤ mI R by rw [nle (by omega) (by omega)]; omega)]
noncomputable def coiT (ρ : sRc) (r : Nat) : Int32 := @ite _ (ρ.2.2.2.2 r) (Classical.propDecidable _) 0 (mI (ρ.2.2.1 r))
theorem c_coinsOfAll (hR : CR w R ρ) (h30 : R ≤ 30) : F_X6_coinsOfAll (P.2.1 + 45) (hp P w ex n sl) = some (sumI (coiT ρ) R, hp P w ex n sl) := by
  rw [E_X6_coinsOfAll, z_45, ob, E_X6_coinsOfAll_0]
  refine loopE (f := fun k => R_X6_coinsOfAll_4 (P.2.1 + 45) (sumI (coiT ρ) k) (mI k) (hp P w ex n sl)) (N := R) (fun k hk => ?_) ?_
  · rw [E_X6_coinsOfAll_4, q_45_0, ob, q_9_9, ob, hR.1, if_neg (show ¬ mI R ≤ mI k by rw [nle (by omega) (by omega)]; omega), ob, c_isVoid hR h30 rfl hk, ob]
    try dsimp only
    by_cases g : ρ.2.2.2.2 k
    · rw [if_neg (show ¬ b2 _ = 0 from fun z => b2_0.mp z g), E_X6_coinsOfAll_38, naddL, sumI_s, show coiT ρ k = 0 from if_pos g, Int32.add_zero]
    · rw [if_pos (b2_0.mpr g), q_45_0, ob, c_rc2 hR h30 rfl hk, ob, E_X6_coinsOfAll_38, naddL, sumI_s, show coiT ρ k = mI (ρ.2.2.1 k) from if_neg g]
  · rw [E_X6_coinsOfAll_4, q_45_0, ob, q_9_9, ob, hR.1, if_pos (show mI R ≤ mI R by rw [nle (by omega) (by omega)]; omega)]
end TL
