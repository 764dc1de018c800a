/-! the model's reader: its small steps -/
abbrev mrB : List Nat := [4608, 4610, 4611, 4612, 4614]
/-- what the model's reader may change -/
def FM (w w' : sW) : Prop := (∀ k, k ≠ 49 → k ≠ 50 → w'.2.2.1 k = w.2.2.1 k) ∧ (∀ i, i ≠ 70 → w'.2.2.1 49 i = w.2.2.1 49 i) ∧ (∀ i, i < 2800 ∨ 2840 ≤ i → w'.2.2.1 50 i = w.2.2.1 50 i) ∧ (∀ k j, 100 * k + j ∉ mrB → w'.1 k j = w.1 k j) ∧ w'.2.1 = w.2.1 ∧ w'.2.2.2 = w.2.2.2
theorem FM.rf {w : sW} : FM w w := ⟨fun _ _ _ => rfl, fun _ _ => rfl, fun _ _ => rfl, fun _ _ _ => rfl, rfl, rfl⟩
theorem FM.tr {w w' w'' : sW} (h : FM w w') (g : FM w' w'') : FM w w'' := ⟨fun k a b => (g.1 k a b).trans (h.1 k a b), fun i a => (g.2.1 i a).trans (h.2.1 i a), fun i a => (g.2.2.1 i a).trans (h.2.2.1 i a), fun k j a => (g.2.2.2.1 k j a).trans (h.2.2.2.1 k j a), g.2.2.2.2.1.trans h.2.2.2.2.1, g.2.2.2.2.2.trans h.2.2.2.2.2⟩
theorem FM.pI {w w' : sW} {j : Nat} {v : Int32} (h : FM w w') (hj : 100 * 46 + j ∈ mrB) : FM w (Prod.mk (up2 w'.1 46 j v) w'.2) := by
  refine ⟨h.1, h.2.1, h.2.2.1, fun k' j' hk => ?_, h.2.2.2.2⟩
  show up2 w'.1 46 j v k' j' = _
  unfold up2
  split
  · rename_i g; exact absurd hj (by rw [g.1, g.2] at hk; exact hk)
  · exact h.2.2.2.1 k' j' hk
theorem FM.a49 {w w' : sW} {v : Int32} (h : FM w w') : FM w (Prod.mk w'.1 (Prod.mk w'.2.1 (Prod.mk (up2 w'.2.2.1 49 70 v) w'.2.2.2))) := by
  refine ⟨fun k a b => ?_, fun i a => ?_, fun i a => ?_, h.2.2.2.1, h.2.2.2.2⟩
  · show up2 w'.2.2.1 49 70 v k = _; rw [up2_k a]; exact h.1 k a b
  · show up2 w'.2.2.1 49 70 v 49 i = _; rw [up2_j a]; exact h.2.1 i a
  · show up2 w'.2.2.1 49 70 v 50 i = _; rw [up2_k (by decide)]; exact h.2.2.1 i a
theorem FM.a50 {w w' : sW} {i : Nat} {v : Int32} (h : FM w w') (hi : i < 40) : FM w (Prod.mk w'.1 (Prod.mk w'.2.1 (Prod.mk (up2 w'.2.2.1 50 (2800 + i) v) w'.2.2.2))) := by
  refine ⟨fun k a b => ?_, fun j a => ?_, fun j a => ?_, h.2.2.2.1, h.2.2.2.2⟩
  · show up2 w'.2.2.1 50 (2800 + i) v k = _; rw [up2_k b]; exact h.1 k a b
  · show up2 w'.2.2.1 50 (2800 + i) v 49 j = _; rw [up2_k (by decide)]; exact h.2.1 j a
  · show up2 w'.2.2.1 50 (2800 + i) v 50 j = _; rw [up2_j (by omega)]; exact h.2.2.1 j a
def MT (w : sW) (t : Nat → Nat) (N D : Nat) : Prop := w.1 46 9 = mI N ∧ N ≤ 400 ∧ w.2.2.1 47 0 = mI D ∧ ∀ i, i < N → t i < 256 ∧ w.2.2.1 51 i = sB (t i)
theorem MT.fm {w w' : sW} {t : Nat → Nat} {N D : Nat} (h : MT w t N D) (f : FM w w') : MT w' t N D := by
  unfold MT
  rw [f.2.2.2.1 46 9 (by decide), f.1 47 (by decide) (by decide), f.1 51 (by decide) (by decide)]
  exact h
/-- the state while reading: position, signs, depth, within a binder, what stands -/
def MI (w : sW) (t : Nat → Nat) (N D p s d : Nat) (b : Bool) (L : List Nat) : Prop := MT w t N D ∧ w.1 46 8 = mI p ∧ w.1 46 12 = mI s ∧ w.1 46 11 = mI d ∧ w.1 46 14 = bI b ∧ hasL w 70 L ∧ p ≤ N ∧ s ≤ 40 ∧ L.length ≤ s
section MRd
variable {P : sP} {w : sW} {ex : Nat → Option sC} {n sl N D p s d : Nat} {t : Nat → Nat} {b : Bool} {L : List Nat}
theorem MI.pt {q : Nat} (h : MI w t N D p s d b L) (hq : q ≤ N) : MI (wI w 46 8 (mI q)) t N D q s d b L := ⟨h.1.fm (FM.rf.pI (by decide)), wI_s, (wI_j (by decide)).trans h.2.2.1, (wI_j (by decide)).trans h.2.2.2.1, (wI_j (by decide)).trans h.2.2.2.2.1, h.2.2.2.2.2.1, hq, h.2.2.2.2.2.2.2⟩
theorem MI.bg {v : Int32} (h : MI w t N D p s d b L) : MI (wI w 46 10 v) t N D p s d b L := ⟨h.1.fm (FM.rf.pI (by decide)), (wI_j (by decide)).trans h.2.1, (wI_j (by decide)).trans h.2.2.1, (wI_j (by decide)).trans h.2.2.2.1, (wI_j (by decide)).trans h.2.2.2.2.1, h.2.2.2.2.2⟩
theorem MI.dp {d' : Nat} (h : MI w t N D p s d b L) : MI (wI w 46 11 (mI d')) t N D p s d' b L := ⟨h.1.fm (FM.rf.pI (by decide)), (wI_j (by decide)).trans h.2.1, (wI_j (by decide)).trans h.2.2.1, wI_s, (wI_j (by decide)).trans h.2.2.2.2.1, h.2.2.2.2.2⟩
theorem MI.ct {s' : Nat} (h : MI w t N D p s d b L) (h1 : s' ≤ 40) (h2 : L.length ≤ s') : MI (wI w 46 12 (mI s')) t N D p s' d b L := ⟨h.1.fm (FM.rf.pI (by decide)), (wI_j (by decide)).trans h.2.1, wI_s, (wI_j (by decide)).trans h.2.2.2.1, (wI_j (by decide)).trans h.2.2.2.2.1, h.2.2.2.2.2.1, h.2.2.2.2.2.2.1, h1, h2⟩
theorem MI.wt {b' : Bool} (h : MI w t N D p s d b L) : MI (wI w 46 14 (bI b')) t N D p s d b' L := ⟨h.1.fm (FM.rf.pI (by decide)), (wI_j (by decide)).trans h.2.1, (wI_j (by decide)).trans h.2.2.1, (wI_j (by decide)).trans h.2.2.2.1, wI_s, h.2.2.2.2.2⟩
theorem m_isAt {lo hi : Nat} (hT : MT w t N D) (hp8 : w.1 46 8 = mI p) (hp9 : p ≤ N) (h1 : lo < 128) (h2 : hi < 128) : F_X8_isAt (P.2.1 + 46) (mI lo) (mI hi) (hp P w ex n sl) = some (b2 (lo ≤ chr t N p ∧ chr t N p ≤ hi), hp P w ex n sl) := by
  have h400 := hT.2.1
  rw [E_X8_isAt, z_46, ob, E_X8_isAt_0, q_46_8, ob, q_46_9, ob, hp8, hT.1]
  unfold chr
  by_cases g : p < N
  · have tb := hT.2.2.2 p g
    rw [if_neg (by rw [nle (by omega) (by omega)]; omega), q_46_6, ob, ob, ra_51 (by omega), ob, tb.2, if_pos g]
    by_cases g1 : sB (t p) < mI lo
    · rw [if_pos g1, b2_f]
      have := (sB_lo _ tb.1 _ h1).mp g1
      omega
    · have g1' : ¬ (t p < lo ∨ 128 ≤ t p) := fun z => g1 ((sB_lo _ tb.1 _ h1).mpr z)
      rw [if_neg g1, ob, ob, ra_51 (by omega), ob, tb.2]
      by_cases g2 : mI hi < sB (t p)
      · rw [if_pos g2, b2_f]
        have := (sB_hi _ tb.1 _ h2).mp g2
        omega
      · have g2' : ¬ (hi < t p ∧ t p < 128) := fun z => g2 ((sB_hi _ tb.1 _ h2).mpr z)
        rw [if_neg g2, b2_t]
        omega
  · rw [if_pos (by rw [nle (by omega) (by omega)]; omega), if_neg g, b2_f (by omega)]
theorem chr32 : (32 ≤ chr t N p ∧ chr t N p ≤ 32) ↔ (p < N ∧ t p = 32) := by
  unfold chr
  split <;> constructor <;> intro <;> omega
theorem chr97 : (97 ≤ chr t N p ∧ chr t N p ≤ 122) ↔ (p < N ∧ 97 ≤ t p ∧ t p ≤ 122) := by
  unfold chr
  split <;> constructor <;> intro <;> omega
theorem m_blanksL : ∀ dd p (u : sW), p + dd = N → MT u t N D → u.1 46 8 = mI p → R_X8_blanks_0 (P.2.1 + 46) (hp P u ex n sl) = some ((), hp P (wI (wI u 46 8 (mI (sk t N p))) 46 10 (mI (sk t N p))) ex n sl) := by
  intro dd
  have stop : ∀ p (u : sW), p ≤ N → MT u t N D → u.1 46 8 = mI p → ¬ (p < N ∧ t p = 32) → R_X8_blanks_0 (P.2.1 + 46) (hp P u ex n sl) = some ((), hp P (wI (wI u 46 8 (mI (sk t N p))) 46 10 (mI (sk t N p))) ex n sl) := by
    intro p u h9 hT h8 hn
    have a := m_isAt (P := P) (ex := ex) (n := n) (sl := sl) (lo := 32) (hi := 32) hT h8 h9 (by decide) (by decide)
    rw [E_X8_blanks_0]
    refine Eq.trans (congrArg (fun z => Option.bind z _) a) ?_
    rw [ob, if_pos (b2_0.mpr (fun z => hn (chr32.mp z))), q_46_8, ob, p_46_10, ob, sk_n hn, wI_id h8, h8]
  induction dd with
  | zero => intro p u h1 hT h8; exact stop p u (by omega) hT h8 (by omega)
  | succ dd ih =>
    intro p u h1 hT h8
    by_cases g : p < N ∧ t p = 32
    · have a := m_isAt (P := P) (ex := ex) (n := n) (sl := sl) (lo := 32) (hi := 32) hT h8 (by omega) (by decide) (by decide)
      rw [E_X8_blanks_0]
      refine Eq.trans (congrArg (fun z => Option.bind z _) a) ?_
      rw [ob, if_neg (fun z => b2_0.mp z (chr32.mpr g)), q_46_8, ob, p_46_8, ob, h8, naddL, ih (p + 1) _ (by omega) (hT.fm (FM.rf.pI (by decide))) wI_s, wI_wI, sk_s g.1 g.2]
    · exact stop p u (by omega) hT h8 g
theorem m_blanks (hI : MI w t N D p s d b L) : ∃ w', F_X8_blanks (P.2.1 + 46) (hp P w ex n sl) = some ((), hp P w' ex n sl) ∧ FM w w' ∧ MI w' t N D (sk t N p) s d b L ∧ w'.1 46 10 = mI (sk t N p) := by
  have hk := sk_le (t := t) hI.2.2.2.2.2.2.1
  refine ⟨_, ?_, (FM.rf.pI (by decide)).pI (by decide), (hI.pt hk.2).bg, wI_s⟩
  rw [E_X8_blanks, z_46, ob, m_blanksL (N - p) p w (by have := hI.2.2.2.2.2.2.1; omega) hI.1 hI.2.1]
theorem m_has {c : Nat} (hc : c < 128) (hI : MI w t N D p s d b L) : ∃ w', F_X8_has (P.2.1 + 46) (mI c) (hp P w ex n sl) = some (b2 (chr t N (sk t N p) = c), hp P w' ex n sl) ∧ FM w w' ∧ MI w' t N D (if chr t N (sk t N p) = c then sk t N p + 1 else sk t N p) s d b L ∧ w'.1 46 10 = mI (sk t N p) := by
  obtain ⟨w1, a1, a2, a3, a4⟩ := m_blanks (P := P) (ex := ex) (n := n) (sl := sl) hI
  have e : (c ≤ chr t N (sk t N p) ∧ chr t N (sk t N p) ≤ c) ↔ chr t N (sk t N p) = c := by omega
  rw [E_X8_has, z_46, ob, E_X8_has_0, a1, ob, m_isAt a3.1 a3.2.1 a3.2.2.2.2.2.2.1 hc hc, ob, b2_congr e]
  by_cases g : chr t N (sk t N p) = c
  · have hlt : sk t N p < N := chr_lt (t := t) (N := N) (by omega)
    rw [if_neg (fun z => b2_0.mp z g), q_46_8, ob, p_46_8, ob, a3.2.1, naddL, b2_t g, if_pos g]
    exact ⟨_, rfl, a2.pI (by decide), a3.pt hlt, (wI_j (by decide)).trans a4⟩
  · rw [if_pos (b2_0.mpr g), b2_f g, if_neg g]
    exact ⟨_, rfl, a2, a3, a4⟩
theorem m_lettersL : ∀ dd p (u : sW), p + dd = N → MT u t N D → u.1 46 8 = mI p → R_X8_letters_4 (P.2.1 + 46) (hp P u ex n sl) = some ((), hp P (wI u 46 8 (mI (we t N p))) ex n sl) := by
  intro dd
  have stop : ∀ p (u : sW), p ≤ N → MT u t N D → u.1 46 8 = mI p → ¬ (p < N ∧ 97 ≤ t p ∧ t p ≤ 122) → R_X8_letters_4 (P.2.1 + 46) (hp P u ex n sl) = some ((), hp P (wI u 46 8 (mI (we t N p))) ex n sl) := by
    intro p u h9 hT h8 hn
    have a := m_isAt (P := P) (ex := ex) (n := n) (sl := sl) (lo := 97) (hi := 122) hT h8 h9 (by decide) (by decide)
    rw [E_X8_letters_4]
    refine Eq.trans (congrArg (fun z => Option.bind z _) a) ?_
    rw [ob, if_pos (b2_0.mpr (fun z => hn (chr97.mp z))), we_n hn, wI_id h8]
  induction dd with
  | zero => intro p u h1 hT h8; exact stop p u (by omega) hT h8 (by omega)
  | succ dd ih =>
    intro p u h1 hT h8
    by_cases g : p < N ∧ 97 ≤ t p ∧ t p ≤ 122
    · have a := m_isAt (P := P) (ex := ex) (n := n) (sl := sl) (lo := 97) (hi := 122) hT h8 (by omega) (by decide) (by decide)
      rw [E_X8_letters_4]
      refine Eq.trans (congrArg (fun z => Option.bind z _) a) ?_
      rw [ob, if_neg (fun z => b2_0.mp z (chr97.mpr g)), q_46_8, ob, p_46_8, ob, h8, naddL, ih (p + 1) _ (by omega) (hT.fm (FM.rf.pI (by decide))) wI_s, wI_wI, we_s g.1 g.2]
    · exact stop p u (by omega) hT h8 g
theorem m_letters (hI : MI w t N D p s d b L) : ∃ w', F_X8_letters (P.2.1 + 46) (hp P w ex n sl) = some ((), hp P w' ex n sl) ∧ FM w w' ∧ MI w' t N D (we t N (sk t N p)) s d b L ∧ w'.1 46 10 = mI (sk t N p) := by
  obtain ⟨w1, a1, a2, a3, a4⟩ := m_blanks (P := P) (ex := ex) (n := n) (sl := sl) hI
  have hk := we_le (t := t) a3.2.2.2.2.2.2.1
  refine ⟨_, ?_, a2.pI (by decide), a3.pt hk.2, (wI_j (by decide)).trans a4⟩
  rw [E_X8_letters, z_46, ob, E_X8_letters_0, a1, ob, m_lettersL (N - sk t N p) (sk t N p) w1 (by have := a3.2.2.2.2.2.2.1; omega) a3.1 a3.2.1]
theorem m_isWord {q e c : Nat} {W : List Nat} (hT : MT w t N D) (hK : KW P c W) (hq : q ≤ e) (he : e ≤ N) (h8 : w.1 46 8 = mI e) (h10 : w.1 46 10 = mI q) : F_X8_isWord (P.2.1 + 46) (P.2.2 c) (hp P w ex n sl) = some (b2 (isW t W q e), hp P w ex n sl) := by
  have h400 := hT.2.1
  have hW : W.length < 100 := by obtain ⟨b, f, h1, h2, h3, h4, h5, h6⟩ := hK; exact h5
  have hWb : ∀ i, i < W.length → W.getD i 0 < 128 := by obtain ⟨b, f, h1, h2, h3, h4, h5, h6⟩ := hK; exact fun i hi => (h6 i hi).2
  have b01 : ((1 : Int32) = 0 ∨ (1 : Int32) = 1) := Or.inr rfl
  have b00 : ((0 : Int32) = 0 ∨ (0 : Int32) = 1) := Or.inl rfl
  have zero : ∀ i : Int32, R_X8_isWord_24 (P.2.1 + 46) (P.2.2 c) 0 i (hp P w ex n sl) = some (0, hp P w ex n sl) := by
    intro i
    rw [E_X8_isWord_24, if_pos rfl, if_pos b00]
  rw [E_X8_isWord, z_46, ob, E_X8_isWord_0, q_46_8, ob, q_46_10, ob, h8, h10, j_length hK, ob, nsub hq]
  unfold isW
  by_cases g : e - q = W.length
  · rw [if_pos (by rw [neq (by omega) (by omega)]; exact g), E_X8_isWord_21]
    have step : ∀ i, i < W.length → R_X8_isWord_24 (P.2.1 + 46) (P.2.2 c) 1 (mI i) (hp P w ex n sl) = if t (q + i) = W.getD i 0 then R_X8_isWord_24 (P.2.1 + 46) (P.2.2 c) 1 (mI (i + 1)) (hp P w ex n sl) else some (0, hp P w ex n sl) := by
      intro i hi
      have tb := hT.2.2.2 (q + i) (by omega)
      have wb := hWb i hi
      rw [E_X8_isWord_24, if_neg (by decide), j_length hK, ob, if_neg (by rw [nle (by omega) (by omega)]; omega), q_46_6, ob, q_46_10, ob, h10, nadd, ra_51 (by omega), ob, tb.2, j_charAt hK hi, ob]
      by_cases g1 : t (q + i) = W.getD i 0
      · rw [if_pos ((sB_eq _ tb.1 _ wb).mpr g1), if_pos g1, E_X8_isWord_60, naddL]
      · rw [if_neg (fun z => g1 ((sB_eq _ tb.1 _ wb).mp z)), if_neg g1, E_X8_isWord_60, zero]
    have := loopX (f := fun i => R_X8_isWord_24 (P.2.1 + 46) (P.2.2 c) 1 (mI i) (hp P w ex n sl)) (N := W.length) (p := fun i => ¬ t (q + i) = W.getD i 0) (r0 := ((1 : Int32), hp P w ex n sl)) (r1 := fun _ => ((0 : Int32), hp P w ex n sl)) (fun i hi hn => by
        rw [step i hi, if_pos (Classical.not_not.mp hn)]) (fun i hi hn => by
        rw [step i hi, if_neg hn]) (by
        rw [E_X8_isWord_24, if_neg (by decide), j_length hK, ob, if_pos (by rw [nle (by omega) (by omega)]; omega), if_pos b01])
    rcases this with ⟨k, g1, g2, g3, g4⟩ | ⟨g1, g2⟩
    · refine Eq.trans g4 ?_
      rw [b2_f (fun z => g2 (z.2 k g1))]
    · refine Eq.trans g2 ?_
      rw [b2_t ⟨g, fun i hi => Classical.not_not.mp (g1 i hi)⟩]
  · rw [if_neg (by rw [neq (by omega) (by omega)]; exact g), E_X8_isWord_21, zero, b2_f (fun z => g z.1)]
theorem m_deeper (hI : MI w t N D p s d b L) (hd : d ≤ 8) : F_X8_deeper (P.2.1 + 46) (hp P w ex n sl) = some (if d < 8 then 1 else 0, hp P (wI w 46 11 (mI (d + 1))) ex n sl) := by
  rw [E_X8_deeper, z_46, ob, E_X8_deeper_0, q_46_11, ob, p_46_11, ob, q_46_11, ob, hI.2.2.2.1, naddL]
  have e : (wI w 46 11 (mI (d + 1))).1 46 11 = mI (d + 1) := wI_s
  by_cases g : d < 8
  · rw [if_pos g]; exact if_neg (by rw [e, nltR (by omega) (by decide)]; omega)
  · rw [if_neg g]; exact if_pos (by rw [e, nltR (by omega) (by decide)]; omega)
theorem m_counts (hI : MI w t N D p s d b L) : F_X8_counts (P.2.1 + 46) (hp P w ex n sl) = some (if s < 40 then 1 else 0, hp P (wI w 46 12 (mI (s + 1))) ex n sl) := by
  have h40 := hI.2.2.2.2.2.2.2.1
  rw [E_X8_counts, z_46, ob, E_X8_counts_0, q_46_12, ob, p_46_12, ob, q_46_12, ob, hI.2.2.1, naddL]
  have e : (wI w 46 12 (mI (s + 1))).1 46 12 = mI (s + 1) := wI_s
  by_cases g : s < 40
  · rw [if_pos g]; exact if_neg (by rw [e, nltR (by omega) (by decide)]; omega)
  · rw [if_neg g]; exact if_pos (by rw [e, nltR (by omega) (by decide)]; omega)
theorem m_putsF (hI : MI w t N D p s d b L) (hs : ¬ s < 40) {v : Int32} : F_X8_puts (P.2.1 + 46) v (hp P w ex n sl) = some (0, hp P (wI w 46 12 (mI (s + 1))) ex n sl) := by
  rw [E_X8_puts, z_46, ob, E_X8_puts_0, m_counts hI, ob, if_neg hs]
  exact if_pos rfl
theorem m_puts {x : Nat} (hI : MI w t N D p s d b L) (hs : s < 40) (hx : x < 18) : ∃ w', F_X8_puts (P.2.1 + 46) (mI x) (hp P w ex n sl) = some (1, hp P w' ex n sl) ∧ FM w w' ∧ MI w' t N D p (s + 1) d b (L ++ [x]) ∧ w'.1 46 10 = w.1 46 10 := by
  have hL : hasL w 70 L := hI.2.2.2.2.2.1
  have hl := hI.2.2.2.2.2.2.2.2
  have e49 : ∀ u : sW, u.2.2.1 = up2 w.2.2.1 50 (2800 + L.length) (mI x) → u.2.2.1 49 70 = mI L.length := fun u hu => by rw [hu, up2_k (by decide)]; exact hL.1
  have f : FM w (wA (wA (wI w 46 12 (mI (s + 1))) 50 (2800 + L.length) (mI x)) 49 70 (mI (L.length + 1))) := ((FM.rf.pI (by decide)).a50 (by omega)).a49
  have g8 : ∀ j, j ≠ 12 → (wI w 46 12 (mI (s + 1))).1 46 j = w.1 46 j := fun j hj => wI_j hj
  have g12 : (wI w 46 12 (mI (s + 1))).1 46 12 = mI (s + 1) := wI_s
  refine ⟨_, ?_, f, ⟨hI.1.fm f, (g8 8 (by decide)).trans hI.2.1, g12, (g8 11 (by decide)).trans hI.2.2.2.1, (g8 14 (by decide)).trans hI.2.2.2.2.1, ⟨?_, ?_, ?_, ?_⟩, hI.2.2.2.2.2.2.1, by omega, ?_⟩, g8 10 (by decide)⟩
  · rw [E_X8_puts, z_46, ob, E_X8_puts_0, m_counts hI, ob, if_pos hs]
    refine Eq.trans (if_neg (show ¬ ((1 : Int32) = 0) by decide)) ?_
    rw [q_46_5, ob, q_46_4, ob]
    refine Eq.trans (congrArg (fun z => Option.bind z _) (ra_49 (i := 70) (by decide))) ?_
    rw [ob]
    refine Eq.trans (congrArg (fun z => Option.bind z _) (show s_si _ (P.2.1 + 50) (2800 + w.2.2.1 49 70) (mI x) = _ by rw [hL.1, naddR, wa_50 (by omega)])) ?_
    rw [ob, q_46_4, ob]
    refine Eq.trans (congrArg (fun z => Option.bind z _) (ra_49 (i := 70) (by decide))) ?_
    rw [ob]
    refine Eq.trans (congrArg (fun z => Option.bind z _) (wa_49 (i := 70) (by decide))) ?_
    rw [ob, e49 (wA (wI w 46 12 (mI (s + 1))) 50 (2800 + L.length) (mI x)) rfl, naddL]
  · show up2 (up2 w.2.2.1 50 (2800 + L.length) (mI x)) 49 70 (mI (L.length + 1)) 49 70 = _
    rw [up2_s, List.length_append]; rfl
  · rw [List.length_append]; show L.length + 1 ≤ 40; omega
  · intro y hy
    rcases List.mem_append.mp hy with h | h
    · exact hL.2.2.1 y h
    · rw [List.mem_singleton.mp h]; exact hx
  · intro k hk
    rw [List.length_append] at hk
    have hk' : k < L.length + 1 := hk
    show up2 (up2 w.2.2.1 50 (2800 + L.length) (mI x)) 49 70 (mI (L.length + 1)) 50 (2800 + k) = _
    rw [up2_k (by decide)]
    by_cases g : k = L.length
    · subst g
      rw [up2_s, gd_r (Nat.le_refl _), Nat.sub_self]; rfl
    · rw [up2_j (by omega), gd_l (by omega)]
      exact hL.2.2.2 k (by omega)
  · rw [List.length_append]; show L.length + 1 ≤ s + 1; omega
end MRd
