/-! receipts in the model -/
section MT
variable {P : sP} {w : sW} {ex : Nat → Option sC} {n sl : Nat} {D F L R : Nat} {y : sLn} {φ : Nat → List Nat} {ρ : sRc} {S : Nat → Prop}
theorem m_ofReceipt {r j : Nat} {x v : Int32} (hx : x = mI r) (hv : v = mI j) (hr : r < 30) (hj : j < 5) : F_X8_ofReceipt (P.2.1 + 46) x v (hp P w ex n sl) = some (w.2.2.1 47 (1532 + 5 * r + j), hp P w ex n sl) := by
  subst hx hv
  rw [E_X8_ofReceipt, z_46, ob, E_X8_ofReceipt_0, q_46_1, ob, nmulR, naddR, nadd, ra_47 (show 1532 + 5 * r + j < 1682 by omega), ob]
theorem m_rc0 {r : Nat} {x : Int32} (hR : MR w R ρ) (h30 : R ≤ 30) (hx : x = mI r) (hr : r < R) : F_X8_ofReceipt (P.2.1 + 46) x 0 (hp P w ex n sl) = some (mI (ρ.1 r), hp P w ex n sl) := by rw [m_ofReceipt (v := 0) (j := 0) hx rfl (by omega) (by decide), (hR.2 r hr).1]
theorem m_rc1 {r : Nat} {x : Int32} (hR : MR w R ρ) (h30 : R ≤ 30) (hx : x = mI r) (hr : r < R) : F_X8_ofReceipt (P.2.1 + 46) x 1 (hp P w ex n sl) = some (mI (ρ.2.1 r), hp P w ex n sl) := by rw [m_ofReceipt (v := 1) (j := 1) hx rfl (by omega) (by decide), (hR.2 r hr).2.1]
theorem m_rc2 {r : Nat} {x : Int32} (hR : MR w R ρ) (h30 : R ≤ 30) (hx : x = mI r) (hr : r < R) : F_X8_ofReceipt (P.2.1 + 46) x 2 (hp P w ex n sl) = some (mI (ρ.2.2.1 r), hp P w ex n sl) := by rw [m_ofReceipt (v := 2) (j := 2) hx rfl (by omega) (by decide), (hR.2 r hr).2.2.1]
theorem m_rc3 {r : Nat} {x : Int32} (hR : MR w R ρ) (h30 : R ≤ 30) (hx : x = mI r) (hr : r < R) : F_X8_ofReceipt (P.2.1 + 46) x 3 (hp P w ex n sl) = some (mI (ρ.2.2.2.1 r), hp P w ex n sl) := by rw [m_ofReceipt (v := 3) (j := 3) hx rfl (by omega) (by decide), (hR.2 r hr).2.2.2.1]
theorem m_isVoid {r : Nat} {x : Int32} (hR : MR w R ρ) (h30 : R ≤ 30) (hx : x = mI r) (hr : r < R) : F_X8_isVoid (P.2.1 + 46) x (hp P w ex n sl) = some (b2 (ρ.2.2.2.2 r), hp P w ex n sl) := by
  rw [E_X8_isVoid, z_46, ob, E_X8_isVoid_0, m_ofReceipt (v := 4) (j := 4) hx rfl (by omega) (by decide), ob, (hR.2 r hr).2.2.2.2]
  try dsimp only
  by_cases g : ρ.2.2.2.2 r
  · rw [if_pos (b2_t g), b2_t g]
  · rw [if_neg (by rw [b2_f g]; decide), b2_f g]
theorem m_receiptsR (hR : MR w R ρ) : F_X8_receipts (P.2.1 + 46) (hp P w ex n sl) = some (mI R, hp P w ex n sl) := by rw [m_receipts, hR.1]
theorem m_isAhead {k r : Nat} {x v : Int32} (hR : MR w R ρ) (hK : okRc L R y ρ) (hx : x = mI k) (hv : v = mI r) (hk : k < R) (hr : r < R) : F_X8_isAhead (P.2.1 + 46) x v (hp P w ex n sl) = some (b2 (ahdP ρ k r), hp P w ex n sl) := by
  subst hx hv
  have h30 := hK.1
  have d1 := (hK.2 k hk).2.2.2.1
  have d2 := (hK.2 r hr).2.2.2.1
  rw [E_X8_isAhead, z_46, ob, E_X8_isAhead_0, m_rc3 hR h30 rfl hk, ob, m_rc3 hR h30 rfl hr, ob]
  try dsimp only
  unfold ahdP
  by_cases g1 : ρ.2.2.2.1 k = ρ.2.2.2.1 r
  · rw [if_pos (by rw [neq (by omega) (by omega)]; exact g1)]
    by_cases g2 : k < r
    · rw [if_neg (by rw [nle (by omega) (by omega)]; omega), b2_t (Or.inr ⟨g1, g2⟩)]
    · rw [if_pos (by rw [nle (by omega) (by omega)]; omega), b2_f (fun z => z.elim (fun m => by omega) fun m => g2 m.2)]
  · rw [if_neg (by rw [neq (by omega) (by omega)]; exact g1), m_rc3 hR h30 rfl hk, ob, m_rc3 hR h30 rfl hr, ob]
    try dsimp only
    by_cases g : ρ.2.2.2.1 k < ρ.2.2.2.1 r
    · rw [if_neg (by rw [nle (by omega) (by omega)]; omega), b2_t (Or.inl g)]
    · rw [if_pos (by rw [nle (by omega) (by omega)]; omega), b2_f (fun z => z.elim g fun m => g1 m.1)]
theorem m_isAgain {r : Nat} {x : Int32} (hM : MW w D F L y φ) (hR : MR w R ρ) (hK : okRc L R y ρ) (hx : x = mI r) (hr : r < R) : F_X8_isAgain (P.2.1 + 46) x (hp P w ex n sl) = some (b2 (agnP R φ y ρ r), hp P w ex n sl) := by
  subst hx
  have h30 := hK.1
  have hF30 := hM.2.2.1
  have h40 := hM.2.2.2.1
  have ho := hM.2.2.2.2.2.2.2.2.1
  have hLn := hM.2.2.2.2.2.2.2.1
  have hφ := hM.2.2.2.2.2.2.2.2.2
  have lr := (hK.2 r hr).1
  have br := (hK.2 r hr).2.1
  rw [E_X8_isAgain, z_46, ob, E_X8_isAgain_0]
  unfold agnP
  have h0 : R_X8_isAgain_4 (P.2.1 + 46) (mI r) 0 0 (hp P w ex n sl) = R_X8_isAgain_4 (P.2.1 + 46) (mI r) (b2 (∃ k, k < 0 ∧ (¬ ρ.2.2.2.2 k ∧ ahdP ρ k r ∧ ρ.2.1 k = ρ.2.1 r ∧ φ (y.2.1 (ρ.1 k)) = φ (y.2.1 (ρ.1 r))))) (mI 0) (hp P w ex n sl) := by rw [ex0]; rfl
  rw [h0]
  refine loopE (f := fun k => R_X8_isAgain_4 (P.2.1 + 46) (mI r) (b2 (∃ i, i < k ∧ (¬ ρ.2.2.2.2 i ∧ ahdP ρ i r ∧ ρ.2.1 i = ρ.2.1 r ∧ φ (y.2.1 (ρ.1 i)) = φ (y.2.1 (ρ.1 r))))) (mI k) (hp P w ex n sl)) (N := R) (fun k hk => ?_) ?_
  · have lk := (hK.2 k hk).1
    have bk := (hK.2 k hk).2.1
    rw [b2_congr (exS (p := fun i => ¬ ρ.2.2.2.2 i ∧ ahdP ρ i r ∧ ρ.2.1 i = ρ.2.1 r ∧ φ (y.2.1 (ρ.1 i)) = φ (y.2.1 (ρ.1 r))) (k := k))]
    generalize (∃ i, i < k ∧ (¬ ρ.2.2.2.2 i ∧ ahdP ρ i r ∧ ρ.2.1 i = ρ.2.1 r ∧ φ (y.2.1 (ρ.1 i)) = φ (y.2.1 (ρ.1 r)))) = q
    have y1 : (q ∨ (¬ ρ.2.2.2.2 k ∧ ahdP ρ k r ∧ ρ.2.1 k = ρ.2.1 r ∧ φ (y.2.1 (ρ.1 k)) = φ (y.2.1 (ρ.1 r)))) → R_X8_isAgain_82 (P.2.1 + 46) (mI r) (mI k) (hp P w ex n sl) = R_X8_isAgain_4 (P.2.1 + 46) (mI r) (b2 (q ∨ (¬ ρ.2.2.2.2 k ∧ ahdP ρ k r ∧ ρ.2.1 k = ρ.2.1 r ∧ φ (y.2.1 (ρ.1 k)) = φ (y.2.1 (ρ.1 r))))) (mI (k + 1)) (hp P w ex n sl) := by
      intro h
      rw [E_X8_isAgain_82, E_X8_isAgain_87, b2_t h, naddL]
    have y0 : ¬ (q ∨ (¬ ρ.2.2.2.2 k ∧ ahdP ρ k r ∧ ρ.2.1 k = ρ.2.1 r ∧ φ (y.2.1 (ρ.1 k)) = φ (y.2.1 (ρ.1 r)))) → R_X8_isAgain_86 (P.2.1 + 46) (mI r) (mI k) (hp P w ex n sl) = R_X8_isAgain_4 (P.2.1 + 46) (mI r) (b2 (q ∨ (¬ ρ.2.2.2.2 k ∧ ahdP ρ k r ∧ ρ.2.1 k = ρ.2.1 r ∧ φ (y.2.1 (ρ.1 k)) = φ (y.2.1 (ρ.1 r))))) (mI (k + 1)) (hp P w ex n sl) := by
      intro h
      rw [E_X8_isAgain_86, E_X8_isAgain_87, b2_f h, naddL]
    rw [E_X8_isAgain_4, m_receiptsR hR, ob, if_neg (show ¬ mI R ≤ mI k by rw [nle (by omega) (by omega)]; omega)]
    by_cases g0 : q
    · rw [if_neg (show ¬ b2 q = 0 from fun z => b2_0.mp z g0), y1 (Or.inl g0)]
    · rw [if_pos (b2_0.mpr g0)]
      by_cases ekr : k = r
      · subst ekr
        rw [if_pos rfl, y0 (fun z => z.elim g0 fun m => m.2.1.elim (fun u => by omega) fun u => by omega)]
      · rw [if_neg (by rw [neq (by omega) (by omega)]; exact ekr), m_isVoid hR h30 rfl hk, ob]
        try dsimp only
        by_cases g : ρ.2.2.2.2 k
        · rw [if_neg (show ¬ b2 _ = 0 from fun z => b2_0.mp z g), y0 (fun z => z.elim g0 fun m => m.1 g)]
        · rw [if_pos (b2_0.mpr g), m_isAhead hR hK rfl rfl hk hr, ob]
          try dsimp only
          by_cases g1 : ahdP ρ k r
          · rw [if_neg (show ¬ b2 _ = 0 from fun z => b2_0.mp z g1), m_rc1 hR h30 rfl hk, ob, m_rc1 hR h30 rfl hr, ob]
            try dsimp only
            by_cases g2 : ρ.2.1 k = ρ.2.1 r
            · have f1 := (ho _ lk).2.1
              have f2 := (ho _ lr).2.1
              rw [if_pos (by rw [neq (by omega) (by omega)]; exact g2), m_rc0 hR h30 rfl hk, ob, m_said (x := mI (ρ.1 k)) rfl hLn h40 lk, ob, m_rc0 hR h30 rfl hr, ob, m_said (x := mI (ρ.1 r)) rfl hLn h40 lr, ob, m_isSame (x := mI (y.2.1 (ρ.1 k))) (y := mI (y.2.1 (ρ.1 r))) rfl rfl (by omega) (by omega) (hφ _ f1).1 (hφ _ f2).1, ob]
              try dsimp only
              by_cases g3 : φ (y.2.1 (ρ.1 k)) = φ (y.2.1 (ρ.1 r))
              · rw [if_neg (show ¬ b2 _ = 0 from fun z => b2_0.mp z g3), y1 (Or.inr ⟨g, g1, g2, g3⟩)]
              · rw [if_pos (b2_0.mpr g3), y0 (fun z => z.elim g0 fun m => g3 m.2.2.2)]
            · rw [if_neg (by rw [neq (by omega) (by omega)]; exact g2), y0 (fun z => z.elim g0 fun m => g2 m.2.2.1)]
          · rw [if_pos (b2_0.mpr g1), y0 (fun z => z.elim g0 fun m => g1 m.2.1)]
  · rw [E_X8_isAgain_4, m_receiptsR hR, ob, if_pos (show mI R ≤ mI R by rw [nle (by omega) (by omega)]; omega), if_pos b2_or]
theorem m_isBack {r : Nat} {x v : Int32} (hM : MW w D F L y φ) (hR : MR w R ρ) (hK : okRc L R y ρ) (hx : x = mI r) (hr : r < R) (hS : ∀ k, k < L → w.2.2.1 54 k = b2 (S k)) : F_X8_isBack (P.2.1 + 46) x v (hp P w ex n sl) = some (b2 (bakP v L R φ y ρ (honM w D F φ y) S (opnP L (w.2.2.2.1 55) y) (stlP L (w.2.2.2.1 55) (unbP F φ (tolM w) y)) r), hp P w ex n sl) := by
  subst hx
  have h30 := hK.1
  have h40 := hM.2.2.2.1
  have lr := (hK.2 r hr).1
  have t0 := m_isHonest (P := P) (ex := ex) (n := n) (sl := sl) (x := mI (ρ.1 r)) rfl hM lr
  have t2 := m_isOpen (P := P) (ex := ex) (n := n) (sl := sl) (x := mI (ρ.1 r)) hM rfl lr
  have t3 := m_isStale (P := P) (ex := ex) (n := n) (sl := sl) (x := mI (ρ.1 r)) hM rfl lr
  have t4 := m_isSaved (P := P) (ex := ex) (n := n) (sl := sl) (x := mI (ρ.1 r)) hM rfl lr hS
  have t5 := m_isAgain (P := P) (ex := ex) (n := n) (sl := sl) (x := mI r) hM hR hK rfl hr
  unfold bakP
  generalize opnP L (w.2.2.2.1 55) y = O at *
  generalize stlP L (w.2.2.2.1 55) (unbP F φ (tolM w) y) = T at *
  generalize savP L φ y S O T = V at *
  generalize agnP R φ y ρ = A at *
  have t0 : F_X8_isHonest (P.2.1 + 46) (mI (ρ.1 r)) (hp P w ex n sl) = some (b2 (honM w D F φ y (ρ.1 r)), hp P w ex n sl) := t0
  generalize honM w D F φ y = H at *
  have s95 : R_X8_isBack_83 (P.2.1 + 46) (mI r) v (hp P w ex n sl) = some (b2 (¬ v &&& 16 = 0 ∧ A r), hp P w ex n sl) := by
    rw [E_X8_isBack_83]
    by_cases g : v &&& 16 = 0
    · rw [if_pos g, b2_f (fun z => z.1 g)]
    · rw [if_neg g, t5, ob, m_bool]
      exact congrArg (fun z => some (z, hp P w ex n sl)) (b2_congr ⟨fun z => ⟨g, z⟩, fun z => z.2⟩)
  have s76 : R_X8_isBack_68 (P.2.1 + 46) (mI r) v (mI (ρ.1 r)) (hp P w ex n sl) = some (b2 ((¬ v &&& 8 = 0 ∧ O (ρ.1 r)) ∨ (¬ v &&& 16 = 0 ∧ A r)), hp P w ex n sl) := by
    rw [E_X8_isBack_68]
    by_cases g : v &&& 8 = 0
    · rw [if_pos g, s95, b2_congr (p := (¬ v &&& 8 = 0 ∧ O (ρ.1 r)) ∨ (¬ v &&& 16 = 0 ∧ A r)) ⟨fun z => z.resolve_left (fun m => m.1 g), Or.inr⟩]
    · rw [if_neg g, t2, ob]
      try dsimp only
      by_cases g1 : O (ρ.1 r)
      · rw [if_neg (show ¬ b2 _ = 0 from fun z => b2_0.mp z g1), b2_t (Or.inl ⟨g, g1⟩)]
      · rw [if_pos (b2_0.mpr g1), s95, b2_congr (p := (¬ v &&& 8 = 0 ∧ O (ρ.1 r)) ∨ (¬ v &&& 16 = 0 ∧ A r)) ⟨fun z => z.resolve_left (fun m => g1 m.2), Or.inr⟩]
  have s46 : R_X8_isBack_46 (P.2.1 + 46) (mI r) v (mI (ρ.1 r)) (hp P w ex n sl) = some (b2 ((¬ v &&& 4 = 0 ∧ T (ρ.1 r) ∧ ¬ V (ρ.1 r)) ∨ (¬ v &&& 8 = 0 ∧ O (ρ.1 r)) ∨ (¬ v &&& 16 = 0 ∧ A r)), hp P w ex n sl) := by
    rw [E_X8_isBack_46]
    have skip : ¬ (¬ v &&& 4 = 0 ∧ T (ρ.1 r) ∧ ¬ V (ρ.1 r)) → some (b2 ((¬ v &&& 8 = 0 ∧ O (ρ.1 r)) ∨ (¬ v &&& 16 = 0 ∧ A r)), hp P w ex n sl) = some (b2 ((¬ v &&& 4 = 0 ∧ T (ρ.1 r) ∧ ¬ V (ρ.1 r)) ∨ (¬ v &&& 8 = 0 ∧ O (ρ.1 r)) ∨ (¬ v &&& 16 = 0 ∧ A r)), hp P w ex n sl) := fun h => congrArg (fun z => some (z, hp P w ex n sl)) (b2_congr ⟨Or.inr, fun z => z.resolve_left h⟩)
    by_cases g : v &&& 4 = 0
    · rw [if_pos g, s76]
      exact skip fun m => m.1 g
    · rw [if_neg g, t3, ob]
      try dsimp only
      by_cases g1 : T (ρ.1 r)
      · rw [if_neg (show ¬ b2 _ = 0 from fun z => b2_0.mp z g1), t4, ob]
        try dsimp only
        by_cases g2 : V (ρ.1 r)
        · rw [if_neg (show ¬ b2 _ = 0 from fun z => b2_0.mp z g2), s76]
          exact skip fun m => m.2.2 g2
        · rw [if_pos (b2_0.mpr g2), b2_t (Or.inl ⟨g, g1, g2⟩)]
      · rw [if_pos (b2_0.mpr g1), s76]
        exact skip fun m => g1 m.2.1
  have s28 : R_X8_isBack_31 (P.2.1 + 46) (mI r) v (mI (ρ.1 r)) (hp P w ex n sl) = some (b2 ((¬ v &&& 2 = 0 ∧ ¬ S (ρ.1 r)) ∨ (¬ v &&& 4 = 0 ∧ T (ρ.1 r) ∧ ¬ V (ρ.1 r)) ∨ (¬ v &&& 8 = 0 ∧ O (ρ.1 r)) ∨ (¬ v &&& 16 = 0 ∧ A r)), hp P w ex n sl) := by
    rw [E_X8_isBack_31]
    by_cases g : v &&& 2 = 0
    · rw [if_pos g, s46]
      exact congrArg (fun z => some (z, hp P w ex n sl)) (b2_congr ⟨Or.inr, fun z => z.resolve_left fun m => m.1 g⟩)
    · rw [if_neg g, q_46_17, ob, ra_54 (show ρ.1 r < 40 by omega), ob, hS _ lr]
      by_cases g1 : S (ρ.1 r)
      · rw [if_neg (show ¬ b2 _ = 0 from fun z => b2_0.mp z g1), s46]
        exact congrArg (fun z => some (z, hp P w ex n sl)) (b2_congr ⟨Or.inr, fun z => z.resolve_left fun m => m.2 g1⟩)
      · rw [if_pos (b2_0.mpr g1), b2_t (Or.inl ⟨g, g1⟩)]
  rw [E_X8_isBack, z_46, ob, E_X8_isBack_0, m_isVoid hR h30 rfl hr, ob]
  try dsimp only
  by_cases gv : ρ.2.2.2.2 r
  · rw [if_neg (show ¬ b2 _ = 0 from fun z => b2_0.mp z gv), b2_f (fun z => z.1 gv)]
  · rw [if_pos (b2_0.mpr gv), m_rc0 hR h30 rfl hr, ob]
    try dsimp only
    unfold backP
    by_cases g : v &&& 1 = 0
    · rw [if_pos g, s28]
      exact congrArg (fun z => some (z, hp P w ex n sl)) (b2_congr ⟨fun z => ⟨gv, Or.inr z⟩, fun z => z.2.resolve_left fun m => m.1 g⟩)
    · rw [if_neg g, t0, ob]
      try dsimp only
      by_cases g1 : H (ρ.1 r)
      · rw [if_neg (show ¬ b2 _ = 0 from fun z => b2_0.mp z g1), s28]
        exact congrArg (fun z => some (z, hp P w ex n sl)) (b2_congr ⟨fun z => ⟨gv, Or.inr z⟩, fun z => z.2.resolve_left fun m => m.2 g1⟩)
      · rw [if_pos (b2_0.mpr g1), b2_t ⟨gv, Or.inl ⟨g, g1⟩⟩]
theorem m_seller {r : Nat} {x : Int32} (hM : MW w D F L y φ) (hR : MR w R ρ) (hK : okRc L R y ρ) (hx : x = mI r) (hr : r < R) : F_X8_seller (P.2.1 + 46) x (hp P w ex n sl) = some (mI (y.1 (ρ.1 r)), hp P w ex n sl) := by
  subst hx
  rw [E_X8_seller, z_46, ob, E_X8_seller_0, m_rc0 hR hK.1 rfl hr, ob, m_house (x := mI (ρ.1 r)) rfl hM.2.2.2.2.2.2.2.1 hM.2.2.2.1 (hK.2 r hr).1, ob]
end MT
