/-! constants that are strings; the class's reader, its leaves -/
def KW (P : sP) (c : Nat) (W : List Nat) : Prop := ∃ b f, P.2.2 c < P.2.1 ∧ b < P.2.1 ∧ P.1 (P.2.2 c) = some (.inr (100, [.ref b, .int 0])) ∧ P.1 b = some (.inl (6, W.length, .inl f)) ∧ W.length < 100 ∧ ∀ i, i < W.length → f i = mI (W.getD i 0) ∧ W.getD i 0 < 128
theorem nar_c : ∀ c, c < 128 → vp_nar .char ((((mI c &&& 255) : Int32).toUInt32 % 65536).toInt32) = ((((mI c &&& 255) : Int32).toUInt32 % 65536).toInt32) ∧ ((((mI c &&& 255) : Int32).toUInt32 % 65536).toInt32) = mI c := by decide +kernel
section STR
variable {P : sP} {w : sW} {ex : Nat → Option sC} {n sl c : Nat} {W : List Nat}
theorem j_length (h : KW P c W) : F_J0_length_8abf5 (P.2.2 c) (hp P w ex n sl) = some (mI W.length, hp P w ex n sl) := by
  obtain ⟨b, f, h1, h2, h3, h4, h5, h6⟩ := h
  have c0 : (hp P w ex n sl).1 (P.2.2 c) = some (.inr (100, [.ref b, .int 0])) := by rw [hp_ro h1]; exact h3
  have c1 : (hp P w ex n sl).1 b = some (.inl (6, W.length, .inl f)) := by rw [hp_ro h2]; exact h4
  have is0 : s_is (hp P w ex n sl) (P.2.2 c) 100 = some () := by unfold s_is; rw [c0]; rfl
  have fr0 : s_fr (hp P w ex n sl) (P.2.2 c) 100 0 = some b := by unfold s_fr s_fv; rw [c0]; rfl
  have fi1 : s_fi (hp P w ex n sl) (P.2.2 c) 100 1 = some 0 := by unfold s_fi s_fv; rw [c0]; rfl
  have ln : s_len (hp P w ex n sl) b = some (mI W.length) := by unfold s_len; rw [c1]; rfl
  rw [E_J0_length_8abf5, is0, ob, E_J0_length_8abf5_0, fr0, ob, ln, ob, E_J0_coder_7d493, is0, ob, E_J0_coder_7d493_0, if_neg (by decide), fi1, ob, if_pos (by decide), ob]
  have e : mI W.length >>> ((0 : Int32) &&& 31) = mI W.length := by
    rw [show ((0 : Int32) &&& 31) = 0 by decide]
    exact Int32.shiftRight_zero
  exact congrArg (fun z => some (z, hp P w ex n sl)) e
theorem j_charAt {i : Nat} (h : KW P c W) (hi : i < W.length) : F_J0_charAt_5068e (P.2.2 c) (mI i) (hp P w ex n sl) = some (mI (W.getD i 0), hp P w ex n sl) := by
  obtain ⟨b, f, h1, h2, h3, h4, h5, h6⟩ := h
  have c0 : (hp P w ex n sl).1 (P.2.2 c) = some (.inr (100, [.ref b, .int 0])) := by rw [hp_ro h1]; exact h3
  have c1 : (hp P w ex n sl).1 b = some (.inl (6, W.length, .inl f)) := by rw [hp_ro h2]; exact h4
  have is0 : s_is (hp P w ex n sl) (P.2.2 c) 100 = some () := by unfold s_is; rw [c0]; rfl
  have fr0 : s_fr (hp P w ex n sl) (P.2.2 c) 100 0 = some b := by unfold s_fr s_fv; rw [c0]; rfl
  have fi1 : s_fi (hp P w ex n sl) (P.2.2 c) 100 1 = some 0 := by unfold s_fi s_fv; rw [c0]; rfl
  have ln : s_len (hp P w ex n sl) b = some (mI W.length) := by unfold s_len; rw [c1]; rfl
  have ab : s_ab (hp P w ex n sl) b (mI i) = some (mI (W.getD i 0)) := by
    unfold s_ab
    rw [c1]
    dsimp only
    rw [if_pos ⟨Or.inr (Or.inr rfl), mI_out hi (by omega)⟩, mI_nat (by omega), (h6 i hi).1]
  have nc := nar_c (W.getD i 0) (h6 i hi).2
  have ck : F_J0_checkIndex_df160 (mI i) (mI W.length) (hp P w ex n sl) = some ((), hp P w ex n sl) := by
    unfold F_J0_checkIndex_df160
    rw [if_neg (mI_0 (by omega)), if_pos (by rw [nlt (by omega) (by omega)]; exact hi)]
  rw [E_J0_charAt_5068e, is0, ob, E_J0_charAt_5068e_0, E_J0_isLatin1_aae02, is0, ob, E_J0_isLatin1_aae02_0, if_neg (by decide), fi1, ob, if_pos rfl, ob]
  try dsimp only
  rw [if_neg (by decide), fr0, ob, E_J1_charAt_3b067, E_J1_charAt_3b067_0, ln, ob, ck, ob, ab, ob, if_pos nc.1, ob, nc.2]
  have : vp_nar .char (mI (W.getD i 0)) = mI (W.getD i 0) := by have := nc.1; rw [nc.2] at this; exact this
  try dsimp only
  rw [if_pos this]
end STR
/-- a byte, or none -/
def cv (c : Nat) : Int32 := if c = 999 then -1 else mI c
theorem cv_eq {c k : Nat} (hk : k < 999) (hc : c = 999 ∨ c < 256) : (cv c = mI k) = (c = k) := by
  unfold cv
  by_cases g : c = 999
  · rw [if_pos g]
    exact propext ⟨fun z => absurd z.symm (mI_m1 (by omega)), fun z => by omega⟩
  · rw [if_neg g]; exact neq (by omega) (by omega)
theorem cv_m1 {c : Nat} (hc : c = 999 ∨ c < 256) : (cv c = -1) = (c = 999) := by
  unfold cv
  by_cases g : c = 999
  · rw [if_pos g]; exact propext ⟨fun _ => g, fun _ => rfl⟩
  · rw [if_neg g]; exact propext ⟨fun z => absurd z (mI_m1 (by omega)), fun z => absurd z g⟩
def RS (w : sW) (t : Nat → Nat) (N D : Nat) : Prop := w.1 29 0 = mI N ∧ N ≤ 400 ∧ w.1 29 6 = mI D ∧ ∀ i, i < N → t i < 256 ∧ w.2.2.1 30 i &&& 255 = mI (t i)
theorem wI_id {w : sW} {k j : Nat} {v : Int32} (h : w.1 k j = v) : wI w k j v = w := by
  show (up2 w.1 k j v, w.2) = w
  have : up2 w.1 k j v = w.1 := by
    funext a b
    unfold up2
    split
    · rename_i g; rw [g.1, g.2]; exact h.symm
    · rfl
  rw [this]
theorem wI_wI {w : sW} {k j : Nat} {v v' : Int32} : wI (wI w k j v) k j v' = wI w k j v' := by
  show (up2 (up2 w.1 k j v) k j v', w.2) = _
  rw [up2_up]
theorem RS.wI {w : sW} {t : Nat → Nat} {N D j : Nat} {v : Int32} (h : RS w t N D) (h0 : j ≠ 0) (h6 : j ≠ 6) : RS (Prod.mk (up2 w.1 29 j v) w.2) t N D := by
  refine ⟨?_, h.2.1, ?_, h.2.2.2⟩
  · show up2 w.1 29 j v 29 0 = _
    rw [up2_j (fun z => h0 z.symm)]; exact h.1
  · show up2 w.1 29 j v 29 6 = _
    rw [up2_j (fun z => h6 z.symm)]; exact h.2.2.1
section CRd
variable {P : sP} {w : sW} {ex : Nat → Option sC} {n sl N D : Nat} {t : Nat → Nat}
theorem chr_b (hR : RS w t N D) (p : Nat) : chr t N p = 999 ∨ chr t N p < 256 := by
  unfold chr
  split
  · rename_i g; exact Or.inr (hR.2.2.2 p g).1
  · exact Or.inl rfl
theorem c_byteAt {p : Nat} {x : Int32} (hx : x = mI p) (hp9 : p < 2 ^ 30) (hR : RS w t N D) : F_X5_byteAt (P.2.1 + 29) x (hp P w ex n sl) = some (cv (chr t N p), hp P w ex n sl) := by
  subst hx
  have h400 := hR.2.1
  rw [E_X5_byteAt, z_29, ob, E_X5_byteAt_0, if_neg (mI_0 (by omega)), q_29_0, ob, hR.1]
  unfold chr
  by_cases g : p < N
  · have b := hR.2.2.2 p g
    rw [if_neg (by rw [nle (by omega) (by omega)]; omega), if_neg (by rw [nleR (by omega) (by decide)]; exact Nat.not_le.mpr (by omega)), q_29_3, ob, ra_30 (show p < 400 by omega), ob, b.2, if_pos g]
    unfold cv
    rw [if_neg (by omega)]
  · rw [if_pos (by rw [nle (by omega) (by omega)]; omega), if_neg g]
    rfl
theorem c_peekL (hR : RS w t N D) : ∀ d p i, p + d = N → i + d ≤ 400 → ∀ u : sW, u = wI w 29 4 (mI p) → R_X5_peek_2 (P.2.1 + 29) (mI i) (hp P u ex n sl) = R_X5_peek_38 (P.2.1 + 29) (hp P (wI w 29 4 (mI (sk t N p))) ex n sl) := by
  have h400 := hR.2.1
  intro d
  induction d with
  | zero =>
    intro p i hp hi u hu
    subst hu
    have hRu : RS (wI w 29 4 (mI p)) t N D := hR.wI (by decide) (by decide)
    have e4 : (wI w 29 4 (mI p)).1 29 4 = mI p := by show up2 w.1 29 4 (mI p) 29 4 = _; rw [up2_s]
    have hN : p = N := by omega
    have ec : chr t N p = 999 := if_neg (by omega)
    rw [sk_n (fun z => by omega), E_X5_peek_2]
    by_cases g : (400 : Int32) ≤ mI i
    · rw [if_pos g]
    · rw [if_neg g, q_29_4, ob, e4, c_byteAt rfl (by omega) hRu, ob, ec]
      try dsimp only
      rw [if_neg (by decide)]
  | succ d ih =>
    intro p i hp hi u hu
    subst hu
    have hRu : RS (wI w 29 4 (mI p)) t N D := hR.wI (by decide) (by decide)
    have e4 : (wI w 29 4 (mI p)).1 29 4 = mI p := by show up2 w.1 29 4 (mI p) 29 4 = _; rw [up2_s]
    have ec : chr t N p = t p := if_pos (by omega)
    rw [E_X5_peek_2, if_neg (by rw [nleR (by omega) (by decide)]; exact Nat.not_le.mpr (by omega)), q_29_4, ob, e4, c_byteAt rfl (by omega) hRu, ob]
    try dsimp only
    have e32 : (cv (chr t N p) = 32) = (chr t N p = 32) := cv_eq (k := 32) (by decide) (chr_b hR p)
    by_cases g : chr t N p = 32
    · rw [if_pos (by rw [e32]; exact g), q_29_4, ob, e4, p_29_4, ob, naddL, naddL, sk_s (by omega) (by rw [← ec]; exact g)]
      exact ih (p + 1) (i + 1) (by omega) (by omega) _ wI_wI
    · rw [if_neg (by rw [e32]; exact g), sk_n (fun z => g (by rw [ec]; exact z.2))]
theorem c_peek {p : Nat} (hR : RS w t N D) (hp9 : p ≤ N) (hat : w.1 29 4 = mI p) : F_X5_peek (P.2.1 + 29) (hp P w ex n sl) = some (if w.1 29 1 = -1 then cv (chr t N (sk t N p)) else -1, hp P (wI w 29 4 (mI (sk t N p))) ex n sl) := by
  have h400 := hR.2.1
  have hk := sk_le (t := t) hp9
  have hRu : RS (wI w 29 4 (mI (sk t N p))) t N D := hR.wI (by decide) (by decide)
  have e4 : (wI w 29 4 (mI (sk t N p))).1 29 4 = mI (sk t N p) := by show up2 w.1 29 4 (mI (sk t N p)) 29 4 = _; rw [up2_s]
  have e1 : (wI w 29 4 (mI (sk t N p))).1 29 1 = w.1 29 1 := by show up2 w.1 29 4 (mI (sk t N p)) 29 1 = _; rw [up2_j (by decide)]
  rw [E_X5_peek, z_29, ob, E_X5_peek_0]
  refine Eq.trans (c_peekL hR (N - p) p 0 (by omega) (by omega) w (wI_id hat).symm) ?_
  rw [E_X5_peek_38, q_29_1, ob, e1]
  by_cases g : w.1 29 1 = -1
  · rw [if_pos g, if_pos g, q_29_4, ob, e4, c_byteAt rfl (by omega) hRu, ob]
  · rw [if_neg g, if_neg g]
theorem c_fail {x : Int32} : F_X5_fail (P.2.1 + 29) x (hp P w ex n sl) = some (-1, hp P (if w.1 29 1 = -1 then wI w 29 1 x else w) ex n sl) := by
  rw [E_X5_fail, z_29, ob, E_X5_fail_0, q_29_1, ob]
  by_cases g : w.1 29 1 = -1
  · rw [if_pos g, if_pos g, p_29_1, ob]
  · rw [if_neg g, if_neg g]
theorem c_deepT {d : Nat} (hd : d < 8) : F_X5_mayGoDeeper (P.2.1 + 29) (mI d) (hp P w ex n sl) = some (1, hp P w ex n sl) := by
  rw [E_X5_mayGoDeeper, z_29, ob, E_X5_mayGoDeeper_0, if_pos (by rw [nltL (by omega) (by decide)]; exact hd)]
theorem c_deepF {d : Nat} (hd : d = 8) (hf : w.1 29 1 = -1) : F_X5_mayGoDeeper (P.2.1 + 29) (mI d) (hp P w ex n sl) = some (0, hp P (wI w 29 1 (w.1 29 4)) ex n sl) := by
  rw [E_X5_mayGoDeeper, z_29, ob, E_X5_mayGoDeeper_0, if_neg (by rw [nltL (by omega) (by decide)]; exact Nat.not_lt.mpr (by omega)), q_29_4, ob, c_fail, ob, if_pos hf]
theorem c_signT {s : Nat} {x : Int32} (hs : s < 40) (hw : w.1 29 5 = mI s) : F_X5_mayTakeSign (P.2.1 + 29) x (hp P w ex n sl) = some (1, hp P (wI w 29 5 (mI (s + 1))) ex n sl) := by
  rw [E_X5_mayTakeSign, z_29, ob, E_X5_mayTakeSign_0, q_29_5, ob, hw, if_pos (by rw [nltL (by omega) (by decide)]; exact hs), ob, p_29_5, ob, naddL]
theorem c_signF {s : Nat} {x : Int32} (hs : 40 ≤ s) (hs2 : s < 100) (hw : w.1 29 5 = mI s) (hf : w.1 29 1 = -1) : F_X5_mayTakeSign (P.2.1 + 29) x (hp P w ex n sl) = some (0, hp P (wI w 29 1 x) ex n sl) := by
  rw [E_X5_mayTakeSign, z_29, ob, E_X5_mayTakeSign_0, q_29_5, ob, hw, if_neg (by rw [nltL (by omega) (by decide)]; exact Nat.not_lt.mpr hs), c_fail, ob, if_pos hf]
theorem c_isLetter {p : Nat} {x : Int32} (hx : x = mI p) (hp9 : p < 2 ^ 30) (hR : RS w t N D) : F_X5_isLetter (P.2.1 + 29) x (hp P w ex n sl) = some (b2 (p < N ∧ 97 ≤ t p ∧ t p ≤ 122), hp P w ex n sl) := by
  rw [E_X5_isLetter, z_29, ob, E_X5_isLetter_0, c_byteAt hx hp9 hR, ob]
  try dsimp only
  unfold chr
  by_cases g : p < N
  · have b := (hR.2.2.2 p g).1
    have ecv : cv (t p) = mI (t p) := if_neg (by omega)
    rw [if_pos g, ecv]
    by_cases g1 : t p < 97
    · rw [if_pos (by rw [nltL (by omega) (by decide)]; exact g1), b2_f (fun z => by omega)]
    · rw [if_neg (by rw [nltL (by omega) (by decide)]; exact g1)]
      by_cases g2 : 122 < t p
      · rw [if_pos (by rw [nltR (by omega) (by decide)]; exact g2), b2_f (fun z => by omega)]
      · rw [if_neg (by rw [nltR (by omega) (by decide)]; exact g2), b2_t ⟨g, by omega, by omega⟩]
  · rw [if_neg g]
    show (if (-1 : Int32) < 97 then _ else _) = _
    rw [if_pos (by decide), b2_f (fun z => g z.1)]
theorem c_wordEnd {p : Nat} (hR : RS w t N D) (hp9 : p ≤ N) (hat : w.1 29 4 = mI p) : F_X5_wordEnd (P.2.1 + 29) (hp P w ex n sl) = some (mI (we t N p), hp P w ex n sl) := by
  have h400 := hR.2.1
  have key : ∀ d p i, p + d = N → i + d ≤ 400 → R_X5_wordEnd_7 (P.2.1 + 29) (mI p) (mI i) (hp P w ex n sl) = some (mI (we t N p), hp P w ex n sl) := by
    intro d
    induction d with
    | zero =>
      intro p i hp hi
      rw [we_n (fun z => by omega), E_X5_wordEnd_7]
      by_cases g : (400 : Int32) ≤ mI i
      · rw [if_pos g]
      · rw [if_neg g, c_isLetter rfl (by omega) hR, ob]
        try dsimp only
        rw [if_pos (b2_0.mpr (fun z => by omega))]
    | succ d ih =>
      intro p i hp hi
      rw [E_X5_wordEnd_7, if_neg (by rw [nleR (by omega) (by decide)]; exact Nat.not_le.mpr (by omega)), c_isLetter rfl (by omega) hR, ob]
      try dsimp only
      by_cases g : p < N ∧ 97 ≤ t p ∧ t p ≤ 122
      · rw [if_neg (show ¬ b2 _ = 0 from fun z => b2_0.mp z g), naddL, naddL, we_s g.1 g.2]
        exact ih (p + 1) (i + 1) (by omega) (by omega)
      · rw [if_pos (b2_0.mpr g), we_n g]
  rw [E_X5_wordEnd, z_29, ob, E_X5_wordEnd_0, q_29_4, ob, hat]
  exact key (N - p) p 0 (by omega) (by omega)
theorem c_isWord {q e c : Nat} {W : List Nat} (hR : RS w t N D) (hK : KW P c W) (hq : q ≤ e) (he : e ≤ N) : F_X5_isWord (P.2.1 + 29) (mI q) (mI e) (P.2.2 c) (hp P w ex n sl) = some (b2 (isW t W q e), hp P w ex n sl) := by
  have h400 := hR.2.1
  have hW : W.length < 100 := by obtain ⟨b, f, h1, h2, h3, h4, h5, h6⟩ := hK; exact h5
  have hWb : ∀ i, i < W.length → W.getD i 0 < 128 := by obtain ⟨b, f, h1, h2, h3, h4, h5, h6⟩ := hK; exact fun i hi => (h6 i hi).2
  rw [E_X5_isWord, z_29, ob, E_X5_isWord_0, j_length hK, ob, nsub hq]
  try dsimp only
  unfold isW
  by_cases g : e - q = W.length
  · rw [if_pos (by rw [neq (by omega) (by omega)]; exact g)]
    have := loopX (f := fun i => R_X5_isWord_15 (P.2.1 + 29) (mI q) (P.2.2 c) (mI i) (hp P w ex n sl)) (N := W.length) (p := fun i => ¬ t (q + i) = W.getD i 0) (r0 := ((1 : Int32), hp P w ex n sl)) (r1 := fun _ => ((0 : Int32), hp P w ex n sl)) (fun i hi hn => by
        have eb : chr t N (q + i) = t (q + i) := if_pos (by omega)
        have tb := (hR.2.2.2 (q + i) (by omega)).1
        have wb := hWb i hi
        rw [E_X5_isWord_15, j_length hK, ob, if_neg (by rw [nle (by omega) (by omega)]; omega), nadd, c_byteAt rfl (by omega) hR, ob, j_charAt hK hi, ob]
        try dsimp only
        rw [if_pos (by rw [cv_eq (by omega) (chr_b hR _), eb]; exact Classical.not_not.mp hn), naddL]) (fun i hi hn => by
        have eb : chr t N (q + i) = t (q + i) := if_pos (by omega)
        have wb := hWb i hi
        rw [E_X5_isWord_15, j_length hK, ob, if_neg (by rw [nle (by omega) (by omega)]; omega), nadd, c_byteAt rfl (by omega) hR, ob, j_charAt hK hi, ob]
        try dsimp only
        rw [if_neg (by rw [cv_eq (by omega) (chr_b hR _), eb]; exact hn)]) (by
        rw [E_X5_isWord_15, j_length hK, ob, if_pos (by rw [nle (by omega) (by omega)]; omega)])
    rcases this with ⟨k, g1, g2, g3, g4⟩ | ⟨g1, g2⟩
    · refine Eq.trans g4 ?_
      rw [b2_f (fun z => g2 (z.2 k g1))]
    · refine Eq.trans g2 ?_
      rw [b2_t ⟨g, fun i hi => Classical.not_not.mp (g1 i hi)⟩]
  · rw [if_neg (by rw [neq (by omega) (by omega)]; exact g), b2_f (fun z => g z.1)]
end CRd
