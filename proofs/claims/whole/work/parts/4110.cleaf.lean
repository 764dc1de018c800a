/-! the class's leaves -/
theorem mI_ix (l c j : Nat) : mI l * mI c + mI j = mI (l * c + j) := by rw [mI_mul, mI_add]
theorem inN_lt {x : Int32} {F : Nat} (h0 : ¬ x < 0) : (x < mI F) ↔ ¬ mI F ≤ x := by
  rw [Int32.lt_iff_toInt_lt, Int32.le_iff_toInt_le]
  omega
abbrev eIX : String := "java/lang/IndexOutOfBoundsException"
abbrev eIA : String := "java/lang/IllegalArgumentException"
section CL
variable {P : sP} {w : sW} {ex : Nat → Option sC} {n sl : Nat} {σ : sS}
theorem hp_ex : s_ex (hp P w ex n sl) = hp P w ex (n + 1) (sl + 6) := rfl
theorem c_needFT {F : Nat} {x : Int32} (hF : w.1 9 2 = mI F) (h : inN x F) : F_X7_needFormula P.2.1 x (hp P w ex n sl) = some (.inl (), hp P w ex n sl) := by
  simp only [E_X7_needFormula, E_X7_needFormula_0, z_0, q_0_1, q_9_2, ob, hF]
  rw [if_neg h.1]
  first
    | rw [if_neg h.2]
    | rw [if_pos ((inN_lt h.1).mpr h.2)]
theorem c_needFF {F : Nat} {x : Int32} (hF : w.1 9 2 = mI F) (h : ¬ inN x F) : F_X7_needFormula P.2.1 x (hp P w ex n sl) = some (.inr eIX, hp P w ex (n + 1) (sl + 6)) := by
  simp only [E_X7_needFormula, E_X7_needFormula_0, z_0, q_0_1, q_9_2, ob, hF]
  by_cases h0 : x < 0
  · rw [if_pos h0]; rfl
  · have h1 : mI F ≤ x := Classical.byContradiction fun g => h ⟨h0, g⟩
    rw [if_neg h0]
    first
      | (rw [if_pos h1]; rfl)
      | (rw [if_neg (fun g => (inN_lt h0).mp g h1)]; rfl)
theorem c_needLT {F : Nat} {x : Int32} (hF : w.1 9 6 = mI F) (h : inN x F) : F_X7_needLine P.2.1 x (hp P w ex n sl) = some (.inl (), hp P w ex n sl) := by
  simp only [E_X7_needLine, E_X7_needLine_0, z_0, q_0_1, q_9_6, ob, hF]
  rw [if_neg h.1]
  first
    | rw [if_neg h.2]
    | rw [if_pos ((inN_lt h.1).mpr h.2)]
theorem c_needLF {F : Nat} {x : Int32} (hF : w.1 9 6 = mI F) (h : ¬ inN x F) : F_X7_needLine P.2.1 x (hp P w ex n sl) = some (.inr eIX, hp P w ex (n + 1) (sl + 6)) := by
  simp only [E_X7_needLine, E_X7_needLine_0, z_0, q_0_1, q_9_6, ob, hF]
  by_cases h0 : x < 0
  · rw [if_pos h0]; rfl
  · have h1 : mI F ≤ x := Classical.byContradiction fun g => h ⟨h0, g⟩
    rw [if_neg h0]
    first
      | (rw [if_pos h1]; rfl)
      | (rw [if_neg (fun g => (inN_lt h0).mp g h1)]; rfl)
theorem c_needHT {x : Int32} (h : inN x 3) : F_X7_needHouse P.2.1 x (hp P w ex n sl) = some (.inl (), hp P w ex n sl) := by
  simp only [E_X7_needHouse, E_X7_needHouse_0, z_0, ob]
  rw [if_neg h.1, if_pos (show x < 3 from (inN_lt h.1).mpr h.2)]
theorem c_needHF {x : Int32} (h : ¬ inN x 3) : F_X7_needHouse P.2.1 x (hp P w ex n sl) = some (.inr eIX, hp P w ex (n + 1) (sl + 6)) := by
  simp only [E_X7_needHouse, E_X7_needHouse_0, z_0, ob]
  by_cases h0 : x < 0
  · rw [if_pos h0]; rfl
  · have h1 : mI 3 ≤ x := Classical.byContradiction fun g => h ⟨h0, g⟩
    rw [if_neg h0, if_neg (fun g : x < 3 => (inN_lt h0).mp g h1)]; rfl
theorem c_needCT {x : Int32} (h : inN x 4) : F_X7_needCustomer P.2.1 x (hp P w ex n sl) = some (.inl (), hp P w ex n sl) := by
  simp only [E_X7_needCustomer, E_X7_needCustomer_0, z_0, ob]
  rw [if_neg h.1, if_pos (show x < 4 from (inN_lt h.1).mpr h.2)]
theorem c_needCF {x : Int32} (h : ¬ inN x 4) : F_X7_needCustomer P.2.1 x (hp P w ex n sl) = some (.inr eIX, hp P w ex (n + 1) (sl + 6)) := by
  simp only [E_X7_needCustomer, E_X7_needCustomer_0, z_0, ob]
  by_cases h0 : x < 0
  · rw [if_pos h0]; rfl
  · have h1 : mI 4 ≤ x := Classical.byContradiction fun g => h ⟨h0, g⟩
    rw [if_neg h0, if_neg (fun g : x < 4 => (inN_lt h0).mp g h1)]; rfl
theorem c_needPT {F : Nat} {x : Int32} (hF : w.1 9 6 = mI F) (h : x = -1 ∨ inN x F) : F_X7_needPremise P.2.1 x (hp P w ex n sl) = some (.inl (), hp P w ex n sl) := by
  simp only [E_X7_needPremise, E_X7_needPremise_0, z_0, ob]
  by_cases e : x = -1
  · rw [if_pos e]
  · rw [if_neg e, c_needLT hF (h.resolve_left e)]
    rfl
theorem c_needPF {F : Nat} {x : Int32} (hF : w.1 9 6 = mI F) (h : ¬ (x = -1 ∨ inN x F)) : F_X7_needPremise P.2.1 x (hp P w ex n sl) = some (.inr eIX, hp P w ex (n + 1) (sl + 6)) := by
  simp only [E_X7_needPremise, E_X7_needPremise_0, z_0, ob]
  rw [if_neg (fun e => h (Or.inl e)), c_needLF hF (fun e => h (Or.inr e))]
  rfl
theorem c_needWT {x : Int32} (h : inN x 32) : F_X7_needLaw P.2.1 x (hp P w ex n sl) = some (.inl (), hp P w ex n sl) := by
  simp only [E_X7_needLaw, E_X7_needLaw_0, z_0, ob]
  obtain ⟨a, ha, rfl⟩ := inN_to (by decide) h
  rw [if_neg h.1, if_pos (show mI a ≤ 31 from (mI_le (b := 31) (by omega) (by decide)).mpr (by omega))]
theorem c_needWF {x : Int32} (h : ¬ inN x 32) : F_X7_needLaw P.2.1 x (hp P w ex n sl) = some (.inr eIA, hp P w ex (n + 1) (sl + 6)) := by
  simp only [E_X7_needLaw, E_X7_needLaw_0, z_0, ob]
  by_cases h0 : x < 0
  · rw [if_pos h0]; rfl
  · obtain ⟨a, ha, rfl⟩ := mI_of h0
    have h1 : ¬ a < 32 := fun g => h (inN_of (by decide) g)
    rw [if_neg h0, if_neg (fun g : mI a ≤ 31 => h1 (by have := (mI_le (b := 31) ha (by decide)).mp g; omega))]; rfl
/-- reading the books -/
theorem c_nodeOf {F i : Nat} {x : Int32} (hF : w.1 9 2 = mI F) (h30 : F ≤ 30) (hx : x = mI i) (hi : i < F) : F_X1_nodeOf (P.2.1 + 9) x (hp P w ex n sl) = some (w.2.2.1 15 i, hp P w ex n sl) := by
  subst hx
  have h0 : ¬ mI i < 0 := mI_0 (by omega)
  have h1 : ¬ mI F ≤ mI i := by rw [mI_le (by omega) (by omega)]; omega
  simp only [E_X1_nodeOf, E_X1_nodeOf_0, z_9, q_9_2, q_9_11, ob, hF, h0, h1, if_false, a_15 (mI_out (show i < 30 by omega) (by decide)), mI_nat (show i < 2 ^ 31 by omega)]
theorem c_nodeOfN {F : Nat} {x : Int32} (hF : w.1 9 2 = mI F) (h : ¬ inN x F) : F_X1_nodeOf (P.2.1 + 9) x (hp P w ex n sl) = some (-1, hp P w ex n sl) := by
  simp only [E_X1_nodeOf, E_X1_nodeOf_0, z_9, q_9_2, q_9_11, ob, hF]
  by_cases h0 : x < 0
  · rw [if_pos h0]
  · rw [if_neg h0, if_pos (Classical.byContradiction fun g => h ⟨h0, g⟩)]
theorem c_ofLine {L l j : Nat} {x v : Int32} (hL : w.1 9 6 = mI L) (h40 : L ≤ 40) (hx : x = mI l) (hv : v = mI j) (hl : l < L) (hj : j < 6) : F_X1_ofLine (P.2.1 + 9) x v (hp P w ex n sl) = some (w.2.2.1 17 (l * 6 + j), hp P w ex n sl) := by
  subst hx hv
  have h0 : ¬ mI l < 0 := mI_0 (by omega)
  have h1 : ¬ mI L ≤ mI l := by rw [mI_le (by omega) (by omega)]; omega
  have h2 : ¬ mI j < 0 := mI_0 (by omega)
  have h3 : ¬ (6 : Int32) ≤ mI j := by
    have e := mI_le (a := 6) (b := j) (by decide) (by omega)
    intro g
    have := e.mp g
    omega
  have e : mI l * 6 + mI j = mI (l * 6 + j) := mI_ix l 6 j
  simp only [E_X1_ofLine, E_X1_ofLine_0, E_X1_ofLine_26, E_X1_ofLine_27, z_9, q_9_6, q_9_13, ob, hL, h0, h1, h2, h3, if_false, e, a_17 (mI_out (show l * 6 + j < 240 by omega) (by decide)), mI_nat (show l * 6 + j < 2 ^ 31 by omega)]
  rfl
theorem c_ofLineN {L : Nat} {x v : Int32} (hL : w.1 9 6 = mI L) (h : ¬ inN x L) : F_X1_ofLine (P.2.1 + 9) x v (hp P w ex n sl) = some (-1, hp P w ex n sl) := by
  simp only [E_X1_ofLine, E_X1_ofLine_0, E_X1_ofLine_26, E_X1_ofLine_27, z_9, q_9_6, q_9_13, ob, hL]
  by_cases h0 : x < 0
  · rw [if_pos h0]; rfl
  · rw [if_neg h0, if_pos (Classical.byContradiction fun g => h ⟨h0, g⟩)]; rfl
theorem c_ofReceipt {R l j : Nat} {x v : Int32} (hL : w.1 9 9 = mI R) (h30 : R ≤ 30) (hx : x = mI l) (hv : v = mI j) (hl : l < R) (hj : j < 4) : F_X1_ofReceipt (P.2.1 + 9) x v (hp P w ex n sl) = some (w.2.2.1 18 (l * 4 + j), hp P w ex n sl) := by
  subst hx hv
  have h0 : ¬ mI l < 0 := mI_0 (by omega)
  have h1 : ¬ mI R ≤ mI l := by rw [mI_le (by omega) (by omega)]; omega
  have h2 : ¬ mI j < 0 := mI_0 (by omega)
  have h3 : ¬ (4 : Int32) ≤ mI j := by
    have e := mI_le (a := 4) (b := j) (by decide) (by omega)
    intro g
    have := e.mp g
    omega
  have e : mI l * 4 + mI j = mI (l * 4 + j) := mI_ix l 4 j
  simp only [E_X1_ofReceipt, E_X1_ofReceipt_0, E_X1_ofReceipt_25, E_X1_ofReceipt_26, z_9, q_9_9, q_9_14, ob, hL, h0, h1, h2, h3, if_false, e, a_18 (mI_out (show l * 4 + j < 120 by omega) (by decide)), mI_nat (show l * 4 + j < 2 ^ 31 by omega)]
  rfl
theorem c_priceOf {h r : Nat} {x v : Int32} (hx : x = mI h) (hv : v = mI r) (hh : h < 3) (hr : r < 17) : F_X1_priceOf (P.2.1 + 9) x v (hp P w ex n sl) = some (w.2.2.1 16 (h * 17 + r), hp P w ex n sl) := by
  subst hx hv
  have h0 : ¬ mI h < 0 := mI_0 (by omega)
  have h2 : ¬ mI r < 0 := mI_0 (by omega)
  have h1 : ¬ (3 : Int32) ≤ mI h := by
    have e := mI_le (a := 3) (b := h) (by decide) (by omega)
    intro g
    have := e.mp g
    omega
  have h3 : ¬ (17 : Int32) ≤ mI r := by
    have e := mI_le (a := 17) (b := r) (by decide) (by omega)
    intro g
    have := e.mp g
    omega
  have e : mI h * 17 + mI r = mI (h * 17 + r) := mI_ix h 17 r
  simp only [E_X1_priceOf, E_X1_priceOf_0, E_X1_priceOf_23, E_X1_priceOf_24, z_9, q_9_12, ob, h0, h1, h2, h3, if_false, e, a_16 (mI_out (show h * 17 + r < 51 by omega) (by decide)), mI_nat (show h * 17 + r < 2 ^ 31 by omega)]
  rfl
theorem c_setPrice {h r : Nat} {x v p : Int32} (hx : x = mI h) (hv : v = mI r) (hh : h < 3) (hr : r < 17) : F_X1_setPrice (P.2.1 + 9) x v p (hp P w ex n sl) = some ((), hp P (wA w 16 (h * 17 + r) p) ex n sl) := by
  subst hx hv
  have h0 : ¬ mI h < 0 := mI_0 (by omega)
  have h2 : ¬ mI r < 0 := mI_0 (by omega)
  have h1 : ¬ (3 : Int32) ≤ mI h := by
    have e := mI_le (a := 3) (b := h) (by decide) (by omega)
    intro g
    have := e.mp g
    omega
  have h3 : ¬ (17 : Int32) ≤ mI r := by
    have e := mI_le (a := 17) (b := r) (by decide) (by omega)
    intro g
    have := e.mp g
    omega
  have e : mI h * 17 + mI r = mI (h * 17 + r) := mI_ix h 17 r
  simp only [E_X1_setPrice, E_X1_setPrice_0, z_9, q_9_12, ob, h0, h1, h2, h3, if_false, e, u_16 (mI_out (show h * 17 + r < 51 by omega) (by decide)), mI_nat (show h * 17 + r < 2 ^ 31 by omega)]
theorem c_toldTo {u : Nat} {x : Int32} (hx : x = mI u) (hu : u < 4) : F_X1_toldTo (P.2.1 + 9) x (hp P w ex n sl) = some (w.2.2.1 12 u, hp P w ex n sl) := by
  subst hx
  have h0 : ¬ mI u < 0 := mI_0 (by omega)
  have h1 : ¬ (4 : Int32) ≤ mI u := by
    have e := mI_le (a := 4) (b := u) (by decide) (by omega)
    intro g
    have := e.mp g
    omega
  simp only [E_X1_toldTo, E_X1_toldTo_0, z_9, q_9_5, ob, h0, h1, if_false, a_12 (mI_out hu (by decide)), mI_nat (show u < 2 ^ 31 by omega)]
end CL
