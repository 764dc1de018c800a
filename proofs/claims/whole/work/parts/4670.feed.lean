/-! feeding the tapes -/
def shF (k : Nat) : Int32 := 24 - 8 * mI k
def bzF (v : Int32) (k : Nat) : Int32 := vp_nar .byte ((v >>> (shF k &&& 31)).toInt8.toInt32)
theorem shF_s : ∀ k, k < 4 → ¬ shF k < 0 ∧ shF k + (-8) = shF (k + 1) := by decide +kernel
theorem shF_m : ∀ k, k < 20 → (mI k) / 4 = mI (k / 4) ∧ 24 - (8 * (mI k - (mI k) / 4 * 4)) = shF (k % 4) := by decide +kernel
theorem sB_and : ∀ c, c < 256 → sB c &&& 255 = mI c := by decide +kernel
section FED
variable {P : sP} {ex : Nat → Option sC} {n sl : Nat} {S0 e U D : Nat} {nd : Nat → List Nat}
/-- one more exception -/
theorem FS.xc {w : sW} (h : FS P S0 e w n sl U (fun _ => D) nd) : FS P S0 (e + 1) w (n + 1) (sl + 6) U (fun _ => D) nd := by
  obtain ⟨a, b, j, c1, c2, c3, c4⟩ := h
  exact ⟨a, b, j, c1, by omega, by omega, by omega⟩
/-- k bytes of the five words stand on the class's tape behind M -/
def fdC (w : sW) (M : Nat) (x : Nat → Int32) (k : Nat) (u : sW) : Prop := Fr [30] [2900] w u ∧ u.1 29 0 = mI (M + k) ∧ (∀ j, j < M → u.2.2.1 30 j = w.2.2.1 30 j) ∧ ∀ i, i < k → u.2.2.1 30 (M + i) = bzF (x (i / 4)) (i % 4)
theorem c_put {w : sW} {M : Nat} {x : Nat → Int32} (hM : M + 20 ≤ 400) {q : Nat} (hq : q < 5) : ∀ m k (u : sW), k + m = 4 → fdC w M x (4 * q + k) u → ∃ w', R_X5_put_3 (P.2.1 + 29) (x q) (shF k) (hp P u ex n sl) = some ((), hp P w' ex n sl) ∧ fdC w M x (4 * q + 4) w' := by
  intro m
  induction m with
  | zero =>
    intro k u hk h
    have e4 : k = 4 := by omega
    subst e4
    exact ⟨u, by rw [E_X5_put_3, if_pos (by decide)], h⟩
  | succ m ih =>
    intro k u hk h
    have hs := shF_s k (by omega)
    obtain ⟨a1, a2, a3, a4⟩ := h
    have e0 : ∀ z : Int32, (wA u 30 (M + (4 * q + k)) z).1 29 0 = mI (M + (4 * q + k)) := fun _ => a2
    have st : R_X5_put_3 (P.2.1 + 29) (x q) (shF k) (hp P u ex n sl) = R_X5_put_3 (P.2.1 + 29) (x q) (shF (k + 1)) (hp P (wI (wA u 30 (M + (4 * q + k)) (bzF (x q) k)) 29 0 (mI (M + (4 * q + (k + 1))))) ex n sl) := by
      rw [E_X5_put_3, if_neg hs.1, q_29_0, ob, a2, if_neg (by rw [nleR (by omega) (by decide)]; omega), q_29_3, ob, ob, wa_30 (by omega), ob, q_29_0, ob, e0, naddL, p_29_0, ob, hs.2]
      rfl
    rw [st]
    refine ih (k + 1) _ (by omega) ⟨(a1.pA (by decide)).pI (by decide), wI_s, fun j hj => ?_, fun i hi => ?_⟩
    · show up2 u.2.2.1 30 (M + (4 * q + k)) (bzF (x q) k) 30 j = _
      rw [up2_j (by omega)]; exact a3 j hj
    · show up2 u.2.2.1 30 (M + (4 * q + k)) (bzF (x q) k) 30 (M + i) = _
      by_cases e : i = 4 * q + k
      · subst e
        rw [up2_s, show (4 * q + k) / 4 = q by omega, show (4 * q + k) % 4 = k by omega]
      · rw [up2_j (by omega)]; exact a4 i (by omega)
theorem c_putF {w u : sW} {M : Nat} {x : Nat → Int32} (hM : M + 20 ≤ 400) {q : Nat} (hq : q < 5) (h : fdC w M x (4 * q) u) : ∃ w', F_X5_put (P.2.1 + 29) (x q) (hp P u ex n sl) = some ((), hp P w' ex n sl) ∧ fdC w M x (4 * (q + 1)) w' := by
  have := c_put (P := P) (ex := ex) (n := n) (sl := sl) hM hq 4 0 u rfl h
  rw [E_X5_put, z_29, ob, E_X5_put_0]
  exact this
theorem c_feed {w : sW} {M : Nat} {x : Nat → Int32} (h0 : w.1 29 0 = mI M) (hM : M ≤ 400) : (M + 20 ≤ 400 → ∃ w', F_X7_feed P.2.1 (x 0) (x 1) (x 2) (x 3) (x 4) (hp P w ex n sl) = some (mI (M + 20), hp P w' ex n sl) ∧ fdC w M x 20 w') ∧ (¬ M + 20 ≤ 400 → F_X7_feed P.2.1 (x 0) (x 1) (x 2) (x 3) (x 4) (hp P w ex n sl) = some (-1, hp P w ex n sl)) := by
  have hr : F_X5_hasRoom (P.2.1 + 29) 20 (hp P w ex n sl) = some (if M + 20 ≤ 400 then 1 else 0, hp P w ex n sl) := by
    rw [E_X5_hasRoom, z_29, ob, E_X5_hasRoom_0, q_29_0, ob, h0, naddL]
    by_cases g : M + 20 ≤ 400
    · rw [if_pos g, if_neg (by rw [nltR (by omega) (by decide)]; omega)]
    · rw [if_neg g, if_pos (by rw [nltR (by omega) (by decide)]; omega)]
  constructor
  · intro g
    obtain ⟨w1, a1, b1⟩ := c_putF (P := P) (ex := ex) (n := n) (sl := sl) (w := w) (u := w) (x := x) (q := 0) g (by decide) ⟨Fr.rf, h0, fun _ _ => rfl, fun i hi => absurd hi (Nat.not_lt_zero i)⟩
    obtain ⟨w2, a2, b2'⟩ := c_putF (P := P) (ex := ex) (n := n) (sl := sl) (q := 1) g (by decide) b1
    obtain ⟨w3, a3, b3⟩ := c_putF (P := P) (ex := ex) (n := n) (sl := sl) (q := 2) g (by decide) b2'
    obtain ⟨w4, a4, b4⟩ := c_putF (P := P) (ex := ex) (n := n) (sl := sl) (q := 3) g (by decide) b3
    obtain ⟨w5, a5, b5⟩ := c_putF (P := P) (ex := ex) (n := n) (sl := sl) (q := 4) g (by decide) b4
    refine ⟨w5, ?_, b5⟩
    rw [E_X7_feed, z_0, ob, E_X7_feed_0, q_0_3, ob, hr, ob, if_pos g]
    refine Eq.trans (if_neg (show ¬ ((1 : Int32) = 0) by decide)) ?_
    rw [q_0_3, ob, a1, ob]
    try dsimp only
    rw [q_0_3, ob, a2, ob]
    try dsimp only
    rw [q_0_3, ob, a3, ob]
    try dsimp only
    rw [q_0_3, ob, a4, ob]
    try dsimp only
    rw [q_0_3, ob, a5, ob]
    try dsimp only
    rw [q_0_3, ob, q_29_0, ob, b5.2.1]
  · intro g
    rw [E_X7_feed, z_0, ob, E_X7_feed_0, q_0_3, ob, hr, ob, if_neg g]
    exact if_pos rfl
/-- k bytes of the five words stand on the model's tape behind M -/
def fdM (w : sW) (M : Nat) (x : Nat → Int32) (k : Nat) (u : sW) : Prop := Fr [51, 52] [4600, 4607] w u ∧ u.1 46 0 = 0 ∧ (∀ j, j < M → u.2.2.1 51 j = w.2.2.1 51 j) ∧ (∀ j, j < 5 → u.2.2.1 52 j = x j) ∧ ∀ i, i < k → u.2.2.1 51 (M + i) = bzF (x (i / 4)) (i % 4)
theorem m_feedL {w : sW} {M : Nat} {x : Nat → Int32} (hM : M + 20 ≤ 400) : ∀ m k (u : sW), k + m = 20 → u.1 46 7 = mI M → fdM w M x k u → ∃ w', R_X8_feed_60 (P.2.1 + 46) (mI k) (hp P u ex n sl) = some (mI (M + 20), hp P w' ex n sl) ∧ w'.1 46 7 = mI (M + 20) ∧ fdM w M x 20 w' := by
  intro m
  induction m with
  | zero =>
    intro k u hk h7 h
    have e20 : k = 20 := by omega
    subst e20
    obtain ⟨a1, a2, a3, a4, a5⟩ := h
    refine ⟨wI u 46 7 (mI (M + 20)), ?_, wI_s, a1.pI (by decide), (wI_j (by decide)).trans a2, a3, a4, a5⟩
    have e7 : (wI u 46 7 (mI (M + 20))).1 46 7 = mI (M + 20) := wI_s
    rw [E_X8_feed_60, if_pos (by rw [nleR (by omega) (by decide)]; omega), q_46_7, ob, h7, naddL, p_46_7, ob, q_46_7, ob, e7]
  | succ m ih =>
    intro k u hk h7 h
    have hs := shF_m k (by omega)
    obtain ⟨a1, a2, a3, a4, a5⟩ := h
    have st : R_X8_feed_60 (P.2.1 + 46) (mI k) (hp P u ex n sl) = R_X8_feed_60 (P.2.1 + 46) (mI (k + 1)) (hp P (wA u 51 (M + k) (bzF (x (k / 4)) (k % 4))) ex n sl) := by
      rw [E_X8_feed_60, if_neg (by rw [nleR (by omega) (by decide)]; omega), q_46_6, ob, q_46_7, ob, h7, q_46_15, ob, hs.2, hs.1, ra_52 (by omega), ob, a4 _ (by omega), nadd, wa_51 (by omega), ob, naddL]
      rfl
    rw [st]
    refine ih (k + 1) _ (by omega) h7 ⟨a1.pA (by decide), a2, fun j hj => ?_, fun j hj => ?_, fun i hi => ?_⟩
    · show up2 u.2.2.1 51 (M + k) (bzF (x (k / 4)) (k % 4)) 51 j = _
      rw [up2_j (by omega)]; exact a3 j hj
    · show up2 u.2.2.1 51 (M + k) (bzF (x (k / 4)) (k % 4)) 52 j = _
      rw [up2_k (by decide)]; exact a4 j hj
    · show up2 u.2.2.1 51 (M + k) (bzF (x (k / 4)) (k % 4)) 51 (M + i) = _
      by_cases e : i = k
      · subst e; rw [up2_s]
      · rw [up2_j (by omega)]; exact a5 i (by omega)
theorem m_feed {w : sW} {M : Nat} {x : Nat → Int32} (h7 : w.1 46 7 = mI M) (hM : M ≤ 400) : (M + 20 ≤ 400 → ∃ w', F_X8_feed (P.2.1 + 46) (x 0) (x 1) (x 2) (x 3) (x 4) (hp P w ex n sl) = some (mI (M + 20), hp P w' ex n sl) ∧ w'.1 46 7 = mI (M + 20) ∧ fdM w M x 20 w') ∧ (¬ M + 20 ≤ 400 → F_X8_feed (P.2.1 + 46) (x 0) (x 1) (x 2) (x 3) (x 4) (hp P w ex n sl) = some (-1, hp P (wI w 46 0 0) ex n sl)) := by
  have e7 : (wI w 46 0 0).1 46 7 = mI M := (wI_j (by decide)).trans h7
  constructor
  · intro g
    have s0 : ∀ (u : sW) (v : Int32), s_si (hp P u ex n sl) (P.2.1 + 52) 0 v = some (hp P (wA u 52 0 v) ex n sl) := fun u v => wa_52 (i := 0) (by decide)
    have s1 : ∀ (u : sW) (v : Int32), s_si (hp P u ex n sl) (P.2.1 + 52) 1 v = some (hp P (wA u 52 1 v) ex n sl) := fun u v => wa_52 (i := 1) (by decide)
    have s2 : ∀ (u : sW) (v : Int32), s_si (hp P u ex n sl) (P.2.1 + 52) 2 v = some (hp P (wA u 52 2 v) ex n sl) := fun u v => wa_52 (i := 2) (by decide)
    have s3 : ∀ (u : sW) (v : Int32), s_si (hp P u ex n sl) (P.2.1 + 52) 3 v = some (hp P (wA u 52 3 v) ex n sl) := fun u v => wa_52 (i := 3) (by decide)
    have s4 : ∀ (u : sW) (v : Int32), s_si (hp P u ex n sl) (P.2.1 + 52) 4 v = some (hp P (wA u 52 4 v) ex n sl) := fun u v => wa_52 (i := 4) (by decide)
    have f0 : Fr [51, 52] [4600, 4607] w (wA (wA (wA (wA (wA (wI w 46 0 0) 52 0 (x 0)) 52 1 (x 1)) 52 2 (x 2)) 52 3 (x 3)) 52 4 (x 4)) := ((((((Fr.rf.pI (by decide)).pA (by decide)).pA (by decide)).pA (by decide)).pA (by decide)).pA (by decide))
    have key := m_feedL (P := P) (ex := ex) (n := n) (sl := sl) (w := w) (x := x) g 20 0 (wA (wA (wA (wA (wA (wI w 46 0 0) 52 0 (x 0)) 52 1 (x 1)) 52 2 (x 2)) 52 3 (x 3)) 52 4 (x 4)) rfl e7 ⟨f0, wI_s (w := w) (k := 46) (j := 0) (v := 0), fun j hj => ?_, fun j hj => ?_, fun i hi => absurd hi (Nat.not_lt_zero i)⟩
    · obtain ⟨w', c1, c2⟩ := key
      refine ⟨w', ?_, c2⟩
      rw [E_X8_feed, z_46, ob, E_X8_feed_0, p_46_0, ob, q_46_7, ob, e7, naddL, if_pos (by rw [nleL (by omega) (by decide)]; exact g), q_46_15, ob, s0, ob, q_46_15, ob, s1, ob, q_46_15, ob, s2, ob, q_46_15, ob, s3, ob, q_46_15, ob, s4, ob]
      exact c1
    · show up2 (up2 (up2 (up2 (up2 w.2.2.1 52 0 (x 0)) 52 1 (x 1)) 52 2 (x 2)) 52 3 (x 3)) 52 4 (x 4) 51 j = _
      rw [up2_k (by decide), up2_k (by decide), up2_k (by decide), up2_k (by decide), up2_k (by decide)]
    · show up2 (up2 (up2 (up2 (up2 w.2.2.1 52 0 (x 0)) 52 1 (x 1)) 52 2 (x 2)) 52 3 (x 3)) 52 4 (x 4) 52 j = _
      rcases (show j = 0 ∨ j = 1 ∨ j = 2 ∨ j = 3 ∨ j = 4 by omega) with rfl | rfl | rfl | rfl | rfl
      · rw [up2_j (by decide), up2_j (by decide), up2_j (by decide), up2_j (by decide), up2_s]
      · rw [up2_j (by decide), up2_j (by decide), up2_j (by decide), up2_s]
      · rw [up2_j (by decide), up2_j (by decide), up2_s]
      · rw [up2_j (by decide), up2_s]
      · rw [up2_s]
  · intro g
    rw [E_X8_feed, z_46, ob, E_X8_feed_0, p_46_0, ob, q_46_7, ob, e7, naddL, if_neg (by rw [nleL (by omega) (by decide)]; exact g)]
/-- a byte that was fed -/
theorem bzF_sB {v : Int32} {k : Nat} : ∃ c, c < 256 ∧ bzF v k = sB c := by
  unfold bzF
  generalize (v >>> (shF k &&& 31)).toInt8 = b
  have key : ∀ i : Fin 256, ∃ c : Fin 256, vp_nar .byte ((Int8.ofBitVec (BitVec.ofFin (w := 8) i)).toInt32) = sB c := by decide +kernel
  obtain ⟨c, hc⟩ := key b.toBitVec.toFin
  exact ⟨c.1, c.2, hc⟩
end FED
