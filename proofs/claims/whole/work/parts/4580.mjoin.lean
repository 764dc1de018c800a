/-! the model's reader: joins, atoms -/
section MJn
variable {P : sP} {w : sW} {ex : Nat → Option sC} {n sl N D p s d : Nat} {t : Nat → Nat} {b : Bool} {L : List Nat}
theorem m_joinsL {l : List Nat} {x : Nat} (hx : x < 18) (hI : MI w t N D p s d b (L ++ l)) (hs : (L ++ l).length < s) : ∀ m (u : sW), m ≤ l.length → FM w u → u.1 = w.1 → u.2.2.1 49 70 = mI (L ++ l).length → (∀ i, i < L.length + m → u.2.2.1 50 (2800 + i) = mI ((L ++ l).getD i 0)) → (∀ i, L.length + m < i → i ≤ (L ++ l).length → u.2.2.1 50 (2800 + i) = mI ((L ++ l).getD (i - 1) 0)) → ∃ w', R_X8_joins_8 (P.2.1 + 46) (mI L.length) (mI x) (mI (L.length + m)) (hp P u ex n sl) = some ((), hp P w' ex n sl) ∧ FM w w' ∧ MI w' t N D p s d b (L ++ x :: l) ∧ w'.1 46 10 = w.1 46 10 := by
  have h40 := hI.2.2.2.2.2.2.2.1
  have hl : (L ++ l).length = L.length + l.length := List.length_append
  intro m
  induction m with
  | zero =>
    intro u hm f hu h49 hlo hhi
    have f' : FM w (wA (wA u 50 (2800 + L.length) (mI x)) 49 70 (mI ((L ++ l).length + 1))) := (f.a50 (by omega)).a49
    have hlen : (L ++ x :: l).length = (L ++ l).length + 1 := by rw [List.length_append, List.length_append, List.length_cons]; omega
    have h1 : ∀ j, (wA (wA u 50 (2800 + L.length) (mI x)) 49 70 (mI ((L ++ l).length + 1))).1 46 j = w.1 46 j := fun j => by show u.1 46 j = _; rw [hu]
    refine ⟨_, ?_, f', ⟨hI.1.fm f', (h1 8).trans hI.2.1, (h1 12).trans hI.2.2.1, (h1 11).trans hI.2.2.2.1, (h1 14).trans hI.2.2.2.2.1, ⟨?_, ?_, ?_, ?_⟩, hI.2.2.2.2.2.2.1, h40, by omega⟩, h1 10⟩
    · rw [E_X8_joins_8, if_pos (by rw [nle (by omega) (by omega)]; omega), q_46_5, ob, naddR, wa_50 (by omega), ob, q_46_4, ob]
      refine Eq.trans (congrArg (fun z => Option.bind z _) (ra_49 (i := 70) (by decide))) ?_
      rw [ob]
      refine Eq.trans (congrArg (fun z => Option.bind z _) (wa_49 (i := 70) (by decide))) ?_
      have e49 : (wA u 50 (2800 + L.length) (mI x)).2.2.1 49 70 = mI (L ++ l).length := by show up2 u.2.2.1 50 (2800 + L.length) (mI x) 49 70 = _; rw [up2_k (by decide)]; exact h49
      rw [ob, e49, naddL]
    · show up2 (up2 u.2.2.1 50 (2800 + L.length) (mI x)) 49 70 (mI ((L ++ l).length + 1)) 49 70 = _
      rw [up2_s, hlen]
    · omega
    · intro y hy
      rcases List.mem_append.mp hy with h | h
      · exact hI.2.2.2.2.2.1.2.2.1 y (List.mem_append.mpr (Or.inl h))
      · rcases List.mem_cons.mp h with h | h
        · rw [h]; exact hx
        · exact hI.2.2.2.2.2.1.2.2.1 y (List.mem_append.mpr (Or.inr h))
    · intro k hk
      rw [hlen] at hk
      show up2 (up2 u.2.2.1 50 (2800 + L.length) (mI x)) 49 70 (mI ((L ++ l).length + 1)) 50 (2800 + k) = _
      rw [up2_k (by decide)]
      by_cases g : k = L.length
      · subst g
        rw [up2_s, gd_r (Nat.le_refl _), Nat.sub_self]; rfl
      · rw [up2_j (by omega)]
        by_cases g1 : k < L.length
        · rw [hlo k (by omega), gd_l g1, gd_l g1]
        · rw [hhi k (by omega) (by omega), gd_r (by omega), gd_r (by omega), show k - L.length = (k - 1 - L.length) + 1 by omega, List.getD_cons_succ]
  | succ m ih =>
    intro u hm f hu h49 hlo hhi
    have e1 : mI (2800 + (L.length + (m + 1))) - 1 = mI (2800 + (L.length + m)) := by
      rw [show 2800 + (L.length + (m + 1)) = (2800 + (L.length + m)) + 1 by omega, nsubL (by omega)]; rfl
    have f' : FM w (wA u 50 (2800 + (L.length + (m + 1))) (mI ((L ++ l).getD (L.length + m) 0))) := f.a50 (by omega)
    have st : R_X8_joins_8 (P.2.1 + 46) (mI L.length) (mI x) (mI (L.length + (m + 1))) (hp P u ex n sl) = R_X8_joins_8 (P.2.1 + 46) (mI L.length) (mI x) (mI (L.length + m)) (hp P (wA u 50 (2800 + (L.length + (m + 1))) (mI ((L ++ l).getD (L.length + m) 0))) ex n sl) := by
      rw [E_X8_joins_8, if_neg (by rw [nle (by omega) (by omega)]; omega), q_46_5, ob, ob, naddR, e1, ra_50 (by omega), ob, hlo _ (by omega), wa_50 (by omega), ob, show L.length + (m + 1) = (L.length + m) + 1 by omega, mI_m]
    rw [st]
    refine ih _ (by omega) f' hu ?_ ?_ ?_
    · show up2 u.2.2.1 50 (2800 + (L.length + (m + 1))) (mI ((L ++ l).getD (L.length + m) 0)) 49 70 = _; rw [up2_k (by decide)]; exact h49
    · intro i hi
      show up2 u.2.2.1 50 (2800 + (L.length + (m + 1))) (mI ((L ++ l).getD (L.length + m) 0)) 50 (2800 + i) = _
      rw [up2_j (by omega)]; exact hlo i (by omega)
    · intro i hi hi2
      show up2 u.2.2.1 50 (2800 + (L.length + (m + 1))) (mI ((L ++ l).getD (L.length + m) 0)) 50 (2800 + i) = _
      by_cases g : i = L.length + (m + 1)
      · subst g
        rw [up2_s]; rfl
      · rw [up2_j (by omega)]; exact hhi i (by omega) hi2
theorem m_joins {l : List Nat} {x : Nat} (hx : x < 18) (hI : MI w t N D p s d b (L ++ l)) (hs : (L ++ l).length < s) : ∃ w', F_X8_joins (P.2.1 + 46) (mI L.length) (mI x) (hp P w ex n sl) = some ((), hp P w' ex n sl) ∧ FM w w' ∧ MI w' t N D p s d b (L ++ x :: l) ∧ w'.1 46 10 = w.1 46 10 := by
  have hL : hasL w 70 (L ++ l) := hI.2.2.2.2.2.1
  have hl : (L ++ l).length = L.length + l.length := List.length_append
  have := m_joinsL (P := P) (ex := ex) (n := n) (sl := sl) hx hI hs l.length w (Nat.le_refl _) FM.rf rfl hL.1 (fun i hi => hL.2.2.2 i (by omega)) (fun i h1 h2 => by omega)
  rw [E_X8_joins, z_46, ob, E_X8_joins_0, q_46_4, ob]
  obtain ⟨w', a1, a2⟩ := this
  refine ⟨w', ?_, a2⟩
  refine Eq.trans (congrArg (fun z => Option.bind z _) (ra_49 (i := 70) (by decide))) ?_
  rw [ob, hL.1, hl]
  exact a1
end MJn
