/-! the rules that ask only what the premises and the line say, in the class -/
theorem isLR {s : Nat} {l a b : List Nat} (ha : wff a) (hb : wff b) : (isL s l a ∧ isR s l b) ↔ l = s :: (a ++ b) := by
  constructor
  · rintro ⟨⟨b', hb', e⟩, ⟨a', ha', e'⟩⟩
    rw [e] at e'
    have := wff_uni ha ha' (List.cons.inj e').2
    rw [e, this.2]
  · intro e
    exact ⟨⟨b, hb, e⟩, ⟨a, ha, e⟩⟩
section CP
variable {P : sP} {w : sW} {ex : Nat → Option sC} {n sl : Nat} {D U a b p : Nat} {nd : Nat → List Nat}
theorem f_plain_2 {v : Int32} (hN : NT w U D nd) (hp9 : p < U) (ha : a < U) (hb : b < U) : F_X0_fitsPlain (P.2.1 + 37) (mI 2) (mI a) (mI b) (mI p) (hp P w ex n sl) = some (b2 (isL 13 (nd p) (nd a) ∧ isR 13 (nd p) (nd b)), hp P w ex n sl) := by
  rw [E_X0_fitsPlain, z_37, ob, E_X0_fitsPlain_0, if_pos (show (mI 2 : Int32) = 2 from rfl), q_37_4, ob]
  rw [c_isMade (x := mI p) hN rfl hp9, ob, if_pos b2_or]
  exact congrArg (fun z => some (z, hp P w ex n sl)) (b2_congr ((nd_two hN (i := p) (a := a) (b := b) (k := 2) hp9 ha hb (by omega)).trans (isLR (nd_wff hN a ha) (nd_wff hN b hb)).symm))
theorem f_plain_3 {v : Int32} (hN : NT w U D nd) (hp9 : p < U) (ha : a < U) : F_X0_fitsPlain (P.2.1 + 37) (mI 3) (mI a) v (mI p) (hp P w ex n sl) = some (b2 (isL 13 (nd a) (nd p)), hp P w ex n sl) := by
  rw [E_X0_fitsPlain, z_37, ob, E_X0_fitsPlain_0, if_neg (show ¬ (mI 3 : Int32) = 2 by decide), if_pos (show (mI 3 : Int32) = 3 from rfl), q_37_4, ob]
  rw [c_kindOf (x := mI a) hN rfl ha, ob]
  have key := nd_left hN (i := a) (a := p) (k := 2) ha hp9 (by omega)
  by_cases g1 : w.2.2.1 2 a = 2
  · rw [if_pos g1]
    simp only [q_37_4, ob, c_firstOf (x := mI a) hN rfl ha]
    by_cases g2 : w.2.2.1 3 a = mI p
    · rw [if_pos g2, b2_t (key.mp ⟨g1, g2⟩)]
    · rw [if_neg g2, b2_f (fun z => g2 (key.mpr z).2)]
  · rw [if_neg g1, b2_f (fun z => g1 (key.mpr z).1)]
theorem f_plain_4 {v : Int32} (hN : NT w U D nd) (hp9 : p < U) (ha : a < U) : F_X0_fitsPlain (P.2.1 + 37) (mI 4) (mI a) v (mI p) (hp P w ex n sl) = some (b2 (isR 13 (nd a) (nd p)), hp P w ex n sl) := by
  rw [E_X0_fitsPlain, z_37, ob, E_X0_fitsPlain_0, if_neg (show ¬ (mI 4 : Int32) = 2 by decide), if_neg (show ¬ (mI 4 : Int32) = 3 by decide), if_pos (show (mI 4 : Int32) = 4 from rfl), q_37_4, ob]
  rw [c_kindOf (x := mI a) hN rfl ha, ob]
  have key := nd_right hN (i := a) (a := p) (k := 2) ha hp9 (by omega)
  by_cases g1 : w.2.2.1 2 a = 2
  · rw [if_pos g1]
    simp only [q_37_4, ob, c_secondOf (x := mI a) hN rfl ha]
    by_cases g2 : w.2.2.1 4 a = mI p
    · rw [if_pos g2, b2_t (key.mp ⟨g1, g2⟩)]
    · rw [if_neg g2, b2_f (fun z => g2 (key.mpr z).2)]
  · rw [if_neg g1, b2_f (fun z => g1 (key.mpr z).1)]
theorem f_plain_5 {v : Int32} (hN : NT w U D nd) (hp9 : p < U) (ha : a < U) : F_X0_fitsPlain (P.2.1 + 37) (mI 5) (mI a) v (mI p) (hp P w ex n sl) = some (b2 (isL 14 (nd p) (nd a)), hp P w ex n sl) := by
  rw [E_X0_fitsPlain, z_37, ob, E_X0_fitsPlain_0, if_neg (show ¬ (mI 5 : Int32) = 2 by decide), if_neg (show ¬ (mI 5 : Int32) = 3 by decide), if_neg (show ¬ (mI 5 : Int32) = 4 by decide), if_pos (show (mI 5 : Int32) = 5 from rfl), q_37_4, ob]
  rw [c_kindOf (x := mI p) hN rfl hp9, ob]
  have key := nd_left hN (i := p) (a := a) (k := 3) hp9 ha (by omega)
  by_cases g1 : w.2.2.1 2 p = 3
  · rw [if_pos g1]
    simp only [q_37_4, ob, c_firstOf (x := mI p) hN rfl hp9]
    by_cases g2 : w.2.2.1 3 p = mI a
    · rw [if_pos g2, b2_t (key.mp ⟨g1, g2⟩)]
    · rw [if_neg g2, b2_f (fun z => g2 (key.mpr z).2)]
  · rw [if_neg g1, b2_f (fun z => g1 (key.mpr z).1)]
theorem f_plain_6 {v : Int32} (hN : NT w U D nd) (hp9 : p < U) (ha : a < U) : F_X0_fitsPlain (P.2.1 + 37) (mI 6) (mI a) v (mI p) (hp P w ex n sl) = some (b2 (isR 14 (nd p) (nd a)), hp P w ex n sl) := by
  rw [E_X0_fitsPlain, z_37, ob, E_X0_fitsPlain_0, if_neg (show ¬ (mI 6 : Int32) = 2 by decide), if_neg (show ¬ (mI 6 : Int32) = 3 by decide), if_neg (show ¬ (mI 6 : Int32) = 4 by decide), if_neg (show ¬ (mI 6 : Int32) = 5 by decide), if_pos (show (mI 6 : Int32) = 6 from rfl), q_37_4, ob]
  rw [c_kindOf (x := mI p) hN rfl hp9, ob]
  have key := nd_right hN (i := p) (a := a) (k := 3) hp9 ha (by omega)
  by_cases g1 : w.2.2.1 2 p = 3
  · rw [if_pos g1]
    simp only [q_37_4, ob, c_secondOf (x := mI p) hN rfl hp9]
    by_cases g2 : w.2.2.1 4 p = mI a
    · rw [if_pos g2, b2_t (key.mp ⟨g1, g2⟩)]
    · rw [if_neg g2, b2_f (fun z => g2 (key.mpr z).2)]
  · rw [if_neg g1, b2_f (fun z => g1 (key.mpr z).1)]
theorem f_plain_7 {v : Int32} (hN : NT w U D nd) (hp9 : p < U) (ha : a < U) (hb : b < U) : F_X0_fitsPlain (P.2.1 + 37) (mI 7) (mI a) (mI b) (mI p) (hp P w ex n sl) = some (b2 (isL 15 (nd b) (nd a) ∧ isR 15 (nd b) (nd p)), hp P w ex n sl) := by
  rw [E_X0_fitsPlain, z_37, ob, E_X0_fitsPlain_0, if_neg (show ¬ (mI 7 : Int32) = 2 by decide), if_neg (show ¬ (mI 7 : Int32) = 3 by decide), if_neg (show ¬ (mI 7 : Int32) = 4 by decide), if_neg (show ¬ (mI 7 : Int32) = 5 by decide), if_neg (show ¬ (mI 7 : Int32) = 6 by decide), if_pos (show (mI 7 : Int32) = 7 from rfl), q_37_4, ob]
  rw [c_isMade (x := mI b) hN rfl hb, ob, if_pos b2_or]
  exact congrArg (fun z => some (z, hp P w ex n sl)) (b2_congr ((nd_two hN (i := b) (a := a) (b := p) (k := 4) hb ha hp9 (by omega)).trans (isLR (nd_wff hN a ha) (nd_wff hN p hp9)).symm))
theorem f_plain_8 {v : Int32} (hN : NT w U D nd) (hp9 : p < U) (ha : a < U) : F_X0_fitsPlain (P.2.1 + 37) (mI 8) (mI a) v (mI p) (hp P w ex n sl) = some (b2 (nd a = 12 :: 12 :: nd p), hp P w ex n sl) := by
  rw [E_X0_fitsPlain, z_37, ob, E_X0_fitsPlain_0, if_neg (show ¬ (mI 8 : Int32) = 2 by decide), if_neg (show ¬ (mI 8 : Int32) = 3 by decide), if_neg (show ¬ (mI 8 : Int32) = 4 by decide), if_neg (show ¬ (mI 8 : Int32) = 5 by decide), if_neg (show ¬ (mI 8 : Int32) = 6 by decide), if_neg (show ¬ (mI 8 : Int32) = 7 by decide), if_pos (show (mI 8 : Int32) = 8 from rfl), q_37_4, ob]
  rw [c_kindOf (x := mI a) hN rfl ha, ob]
  have hU : U ≤ 2 ^ 17 := Nat.le_trans hN.2.1 hN.2.2.1
  by_cases g1 : w.2.2.1 2 a = 1
  · rw [if_pos g1]
    simp only [q_37_4, ob, c_firstOf (x := mI a) hN rfl ha]
    rcases (hN.2.2.2.1 a ha).1 with ⟨a', t, z1, -⟩ | ⟨u, z1, z2, z3, h1, e⟩ | ⟨k', a', b', hk', z1, -⟩ | ⟨k', a', hk', z1, -⟩
    · exact absurd (z1.symm.trans g1) (by decide)
    · simp only [z2]
      rw [c_isMade (x := mI u) hN rfl (by omega), ob, m_bool]
      refine congrArg (fun z => some (z, hp P w ex n sl)) (b2_congr ((nd_not hN (i := u) (a := p) (by omega) hp9).trans ⟨fun z => by rw [e, z], fun z => ?_⟩))
      rw [e] at z
      exact (List.cons.inj z).2
    · have : k' = 1 := (mI_inj (b := 1) (by omega) (by decide)).mp (z1.symm.trans g1)
      omega
    · have : k' = 1 := (mI_inj (b := 1) (by omega) (by decide)).mp (z1.symm.trans g1)
      omega
  · rw [if_neg g1]
    refine congrArg (fun z => some (z, hp P w ex n sl)) (b2_f ?_).symm
    intro z
    rcases (hN.2.2.2.1 a ha).1 with ⟨a', t, z1, -, -, h1, h2, -, e⟩ | ⟨u, z1, z2, z3, h1, e⟩ | ⟨k', a', b', hk', z1, -, -, -, -, e⟩ | ⟨k', a', hk', z1, -, -, -, e, -⟩
    · rw [z] at e
      have := congrArg List.length e
      simp at this
    · exact g1 z1
    · rw [z] at e
      have := (List.cons.inj e).1
      omega
    · rw [z] at e
      have := (List.cons.inj e).1
      omega
theorem f_plain_14 {v : Int32} (hN : NT w U D nd) (hp9 : p < U) (ha : a < U) (hb : b < U) : F_X0_fitsPlain (P.2.1 + 37) (mI 14) (mI a) (mI b) (mI p) (hp P w ex n sl) = some (b2 (nd b = 12 :: nd a), hp P w ex n sl) := by
  rw [E_X0_fitsPlain, z_37, ob, E_X0_fitsPlain_0, if_neg (show ¬ (mI 14 : Int32) = 2 by decide), if_neg (show ¬ (mI 14 : Int32) = 3 by decide), if_neg (show ¬ (mI 14 : Int32) = 4 by decide), if_neg (show ¬ (mI 14 : Int32) = 5 by decide), if_neg (show ¬ (mI 14 : Int32) = 6 by decide), if_neg (show ¬ (mI 14 : Int32) = 7 by decide), if_neg (show ¬ (mI 14 : Int32) = 8 by decide), if_neg (show ¬ (mI 14 : Int32) = 9 by decide), if_neg (show ¬ (mI 14 : Int32) = 10 by decide), if_neg (show ¬ (mI 14 : Int32) = 11 by decide), if_neg (show ¬ (mI 14 : Int32) = 12 by decide), if_neg (show ¬ (mI 14 : Int32) = 13 by decide), if_pos (show (mI 14 : Int32) = 14 from rfl), q_37_4, ob]
  rw [c_isMade (x := mI b) hN rfl hb, ob, if_pos b2_or]
  exact congrArg (fun z => some (z, hp P w ex n sl)) (b2_congr (nd_not hN (i := b) (a := a) hb ha))
end CP
