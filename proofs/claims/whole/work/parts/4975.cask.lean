/-! what the class answers about proofs -/
section CAK
variable {P : sP} {S0 e : Nat} {w w' u u' v : sW} {ex : Nat → Option sC} {n sl D F L R U k s f cu h : Nat} {y : sLn} {φ : Nat → List Nat} {nf ν : Nat → Nat} {ρ : sRc} {nd : Nat → List Nat} {S : List (List Nat)} {A : List Nat} {Z : List zT} {told : Int32} {H : Nat → Prop} {q : Nat → Nat} {c c0 : nN → Nat} {kn : Nat → Prop} {z : zT}
theorem LKf_pre {D : Nat} : ∀ (T : List (List Nat)) S', ∃ X, T.foldl (LK D) S' = S' ++ X := by
  intro T
  induction T with
  | nil => intro S'; exact ⟨[], (List.append_nil _).symm⟩
  | cons p T ih =>
    intro S'
    rw [List.foldl_cons]
    obtain ⟨X, hX⟩ := lk_pre (D := D) 40 S' p
    obtain ⟨Y, hY⟩ := ih (LK D S' p)
    exact ⟨X ++ Y, by rw [hY, show LK D S' p = S' ++ X from hX, List.append_assoc]⟩
theorem LA_pre (hD : D ≤ 3) (hok : okF (φ f)) : ∃ X, LA D F φ told f = φ f :: X := by
  unfold LA
  rw [List.foldl_cons, LK_eq hD hok, if_neg (by simp)]
  obtain ⟨X, hX⟩ := LKf_pre (D := D) (parts D (φ f)) ([] ++ [φ f])
  obtain ⟨Y, hY⟩ := LKf_pre (D := D) (((List.range F).filter (fun f => bt told f)).map φ) ((parts D (φ f)).foldl (LK D) ([] ++ [φ f]))
  exact ⟨X ++ Y, by rw [hY, hX]; simp⟩
theorem LA_0 (hD : D ≤ 3) (hok : okF (φ f)) : 0 < (LA D F φ told f).length ∧ at0 (LA D F φ told f) 0 = φ f := by
  obtain ⟨X, hX⟩ := LA_pre (F := F) (told := told) hD hok
  rw [hX]
  exact ⟨by simp, rfl⟩
theorem att_1 (h1 : INS D S A (fun j => tol F φ told (at0 S j)) H q (q 16) 1 (k, 0) [] s ∨ ∃ ps b, INS D S A (fun j => tol F φ told (at0 S j)) H q (q 16) 1 (k, 0) ps b) : False := by
  have key : ∀ ps b, ¬ INS D S A (fun j => tol F φ told (at0 S j)) H q (q 16) 1 (k, 0) ps b := by
    intro ps b hI
    obtain ⟨-, -, -, ⟨g4, -⟩ | ⟨-, ⟨m, -, -, g4⟩, -⟩ | ⟨g4, -⟩ | ⟨g4, -⟩ | ⟨l, g4, -⟩⟩ := hI
    · cases g4
    · simp at g4
    · cases g4
    · cases g4
    · exact absurd g4.r.1 (by decide)
  rcases h1 with z | ⟨ps, b, z⟩
  · exact key _ _ z
  · exact key _ _ z
/-- the last rule -/
theorem c_last (hE : CE u D F L U y φ nd nf S ν told H q Z) (hS : 0 < S.length) (h0 : kn 0) (hk2 : H 10 → H 1 → ∀ s', s' < 2 ^ (asm S S.length).length → kn s') (hA : CA u S.length kn (mu (IIc D F φ S told H q))) (hv : mu (IIc D F φ S told H q) (0, 0) < 268435456) : ∃ r, r < 15 ∧ ATT (IIc D F φ S told H q) r ∧ (∀ r', r' < r → ¬ ATT (IIc D F φ S told H q) r') ∧ ((F_X4_costAlone (P.2.1 + 38) 0 0 (hp P u ex n sl)).bind fun q2 => if q2.1 = mI (mu (IIc D F φ S told H q) (0, 0)) then (some (0, q2.2)) else (R_X4_lastRuleIn_31 (P.2.1 + 38) (mI (mu (IIc D F φ S told H q) (0, 0))) 14 0 q2.2)) = some (mI r, hp P u ex n sl) := by
  have h40 := hE.K
  have hZ := hE.2.2.2.1
  have hZl := hZ.2.1
  have hl : mu (IIc D F φ S told H q) (0, 0) ≤ 99999 := by obtain ⟨m, z⟩ := mu_dv hv; exact z.lim
  have lV : lmt (mu (IIc D F φ S told H q) (0, 0)) = mu (IIc D F φ S told H q) (0, 0) := if_pos hl
  obtain ⟨a, a1, a2, a3, a4⟩ := c_costAlone (P := P) (ex := ex) (n := n) (sl := sl) (c := mu (IIc D F φ S told H q)) hE (x1 := 0) (x2 := 0) (s := 0) (k := 0) rfl rfl (Nat.two_pow_pos _) hS
  have n1 : ¬ ATT (IIc D F φ S told H q) 1 := fun ⟨ps, b, i1, _⟩ => att_1 (s := 0) (Or.inr ⟨ps, b, i1⟩)
  have e0 : a = mu (IIc D F φ S told H q) (0, 0) ↔ ATT (IIc D F φ S told H q) 0 := by
    constructor
    · intro e
      obtain ⟨r, r1, r2, r3⟩ := a3 (by omega)
      have : r = 0 ∨ r = 1 := by omega
      rcases this with rfl | rfl
      · exact ⟨[], a, r2, by rw [← e]; rfl⟩
      · exact absurd (Or.inr ⟨[], a, r2⟩) (fun z => att_1 (s := 0) z)
    · rintro ⟨ps, b, i1, i2⟩
      have e1 := a4 0 ps b (by decide) i1
      obtain ⟨r, r1, r2, r3⟩ := a3 (by omega)
      have e2 := mu_step r2
      have e3 : sumC (mu (IIc D F φ S told H q)) [] = 0 := rfl
      rw [e3] at e2
      unfold lmt at e2
      rw [if_pos (by omega)] at e2
      omega
  have ins15 : ∀ r, ATT (IIc D F φ S told H q) r → r < 15 := fun r ⟨ps, b, i1, _⟩ => by have := i1.lt.2.2.1; omega
  rw [a1, ob]
  try dsimp only
  by_cases g0 : a = mu (IIc D F φ S told H q) (0, 0)
  · rw [if_pos (by rw [g0])]
    exact ⟨0, by decide, e0.mp g0, fun r' hr' => absurd hr' (Nat.not_lt_zero _), rfl⟩
  rw [if_neg (neqN (by omega) (by omega) g0)]
  have n0 : ¬ ATT (IIc D F φ S told H q) 0 := fun z => g0 (e0.mpr z)
  -- steps and rules
  have fw : ∀ z, z ∈ Z → z.2.1 = 0 → svZ S (asm S S.length) H q (q 16) (mu (IIc D F φ S told H q)) 0 z = mu (IIc D F φ S told H q) (0, 0) → ATT (IIc D F φ S told H q) z.1 := by
    intro z hz hz0 hzv
    obtain ⟨k0, hk0, hg⟩ := (hE.2.2.2.2.1 z).mp hz
    have gH : H z.1 := Classical.byContradiction fun g => by rw [sv_n g] at hzv; omega
    have g1 : z.1 = 10 → H 1 := fun e => Classical.byContradiction fun g => by
      unfold svZ at hzv
      rw [if_pos gH, if_pos e, if_neg g] at hzv
      omega
    obtain ⟨ps, b, i1, i2⟩ := gz_ins (tl := fun j => tol F φ told (at0 S j)) (q := q) (p := q 16) (c := mu (IIc D F φ S told H q)) (s := 0) hE.ln.2.1 ⟨hE.1.1, hE.1.2.1⟩ (asm_ok S.length).2.1 (Nat.two_pow_pos _) hk0 hg gH g1
    rw [hz0] at i1
    refine ⟨ps, b, i1, ?_⟩
    rw [hzv] at i2
    unfold lmt at i2
    by_cases g : b + sumC (mu (IIc D F φ S told H q)) ps ≤ 99999
    · rw [if_pos g] at i2; exact i2.symm
    · rw [if_neg g] at i2; omega
  have bw : ∀ r, 2 ≤ r → r ≠ 14 → ATT (IIc D F φ S told H q) r → ∃ i, i < Z.length ∧ (Z.getD i (0, 0, none, none, none)).1 = r ∧ (Z.getD i (0, 0, none, none, none)).2.1 = 0 ∧ svZ S (asm S S.length) H q (q 16) (mu (IIc D F φ S told H q)) 0 (Z.getD i (0, 0, none, none, none)) = mu (IIc D F φ S told H q) (0, 0) := by
    rintro r hr h14 ⟨ps, b, i1, i2⟩
    obtain ⟨k0, z, z1, z2, z3, z4, z5⟩ := ins_gz (c := mu (IIc D F φ S told H q)) ⟨hE.1.1, hE.1.2.1⟩ (asm_ok S.length).2.1 i1 hr h14
    have hz := (hE.2.2.2.2.1 z).mpr ⟨k0, z1, z2⟩
    obtain ⟨i, j1, j2⟩ := List.mem_iff_getElem.mp hz
    have ei : Z.getD i (0, 0, none, none, none) = z := by
      rw [List.getD_eq_getElem?_getD, List.getElem?_eq_getElem j1]
      exact j2
    refine ⟨i, j1, by rw [ei]; exact z3, by rw [ei]; exact z4, ?_⟩
    rw [ei, z5, i2, lV]
  have key : ∀ m, m ≤ Z.length → ∃ r, R_X4_lastRuleIn_31 (P.2.1 + 38) (mI (mu (IIc D F φ S told H q) (0, 0))) 14 0 (hp P u ex n sl) = R_X4_lastRuleIn_31 (P.2.1 + 38) (mI (mu (IIc D F φ S told H q) (0, 0))) (mI r) (mI m) (hp P u ex n sl) ∧ r ≤ 14 ∧ (r < 14 → ATT (IIc D F φ S told H q) r) ∧ ∀ i, i < m → (Z.getD i (0, 0, none, none, none)).2.1 = 0 → svZ S (asm S S.length) H q (q 16) (mu (IIc D F φ S told H q)) 0 (Z.getD i (0, 0, none, none, none)) = mu (IIc D F φ S told H q) (0, 0) → r ≤ (Z.getD i (0, 0, none, none, none)).1 := by
    intro m
    induction m with
    | zero => intro _; exact ⟨14, rfl, Nat.le_refl _, fun z => absurd z (Nat.lt_irrefl _), fun i hi => absurd hi (Nat.not_lt_zero _)⟩
    | succ m ih =>
      intro hm
      obtain ⟨r, r1, r2, r3, r4⟩ := ih (by omega)
      have hz : Z.getD m (0, 0, none, none, none) ∈ Z := by
        rw [List.getD_eq_getElem?_getD, List.getElem?_eq_getElem (by omega)]
        exact List.getElem_mem _
      obtain ⟨k0, hk0, hg⟩ := (hE.2.2.2.2.1 _).mp hz
      obtain ⟨g1, g2, g3, -, -⟩ := gz_f (by have := hE.1.1; omega) hk0 hg
      obtain ⟨z1, z2, -⟩ := hZ.2.2 m (by omega)
      have hst := c_costOfStep (P := P) (ex := ex) (n := n) (sl := sl) hE hA (fun x => mu_far) (s := 0) (Nat.two_pow_pos _) h0 (fun a b s' _ h2 => hk2 a b s' h2) (i := m) (by omega) (x1 := 0) rfl rfl
      have hsv := sv_far (S := S) (A := asm S S.length) (H := H) (q := q) (c := mu (IIc D F φ S told H q)) (s := 0) (z := Z.getD m (0, 0, none, none, none)) (p := q 16)
      have c5 : mI m * 5 = mI (m * 5) := mI_mul _ 5
      have c6 : mI (m * 5) + 1 = mI (m * 5 + 1) := mI_add _ 1
      have no : ¬ ((Z.getD m (0, 0, none, none, none)).2.1 = 0 ∧ svZ S (asm S S.length) H q (q 16) (mu (IIc D F φ S told H q)) 0 (Z.getD m (0, 0, none, none, none)) = mu (IIc D F φ S told H q) (0, 0)) → R_X4_lastRuleIn_31 (P.2.1 + 38) (mI (mu (IIc D F φ S told H q) (0, 0))) (mI r) (mI m) (hp P u ex n sl) = R_X4_lastRuleIn_31 (P.2.1 + 38) (mI (mu (IIc D F φ S told H q) (0, 0))) (mI r) (mI (m + 1)) (hp P u ex n sl) → ∃ r, R_X4_lastRuleIn_31 (P.2.1 + 38) (mI (mu (IIc D F φ S told H q) (0, 0))) 14 0 (hp P u ex n sl) = R_X4_lastRuleIn_31 (P.2.1 + 38) (mI (mu (IIc D F φ S told H q) (0, 0))) (mI r) (mI (m + 1)) (hp P u ex n sl) ∧ r ≤ 14 ∧ (r < 14 → ATT (IIc D F φ S told H q) r) ∧ ∀ i, i < m + 1 → (Z.getD i (0, 0, none, none, none)).2.1 = 0 → svZ S (asm S S.length) H q (q 16) (mu (IIc D F φ S told H q)) 0 (Z.getD i (0, 0, none, none, none)) = mu (IIc D F φ S told H q) (0, 0) → r ≤ (Z.getD i (0, 0, none, none, none)).1 := by
        intro hn he
        refine ⟨r, r1.trans he, r2, r3, fun i hi h1 h2 => ?_⟩
        by_cases g : i = m
        · rw [g] at h1 h2; exact absurd ⟨h1, h2⟩ hn
        · exact r4 i (by omega) h1 h2
      have e31 : R_X4_lastRuleIn_31 (P.2.1 + 38) (mI (mu (IIc D F φ S told H q) (0, 0))) (mI r) (mI m) (hp P u ex n sl) = (if mI (Z.getD m (0, 0, none, none, none)).2.1 = 0 then (R_X4_lastRuleIn_59 (P.2.1 + 38) (mI (mu (IIc D F φ S told H q) (0, 0))) (mI r) (mI m) 1 (hp P u ex n sl)) else (R_X4_lastRuleIn_59 (P.2.1 + 38) (mI (mu (IIc D F φ S told H q) (0, 0))) (mI r) (mI m) 0 (hp P u ex n sl))) := by
        rw [E_X4_lastRuleIn_31, q_38_10, ob, hZ.1, if_neg (show ¬ mI Z.length ≤ mI m by rw [nle (by omega) (by omega)]; omega), q_38_6, ob, c5, c6, ra_43 (by omega), ob, z2]
      by_cases gz : (Z.getD m (0, 0, none, none, none)).2.1 = 0
      · rw [if_pos (by rw [gz]; rfl), E_X4_lastRuleIn_59, if_neg (by decide), hst, ob] at e31
        try dsimp only at e31
        by_cases gv : svZ S (asm S S.length) H q (q 16) (mu (IIc D F φ S told H q)) 0 (Z.getD m (0, 0, none, none, none)) = mu (IIc D F φ S told H q) (0, 0)
        · rw [if_pos (by rw [gv]), q_38_6, ob, c5, ra_43 (by omega), ob, z1, ite_mI (by omega) (by omega), E_X4_lastRuleIn_91, mI_s] at e31
          refine ⟨_, r1.trans e31, ?_, fun hr => ?_, fun i hi h1 h2 => ?_⟩
          · by_cases g : (Z.getD m (0, 0, none, none, none)).1 < r
            · rw [if_pos g]; omega
            · rw [if_neg g]; exact r2
          · by_cases g : (Z.getD m (0, 0, none, none, none)).1 < r
            · rw [if_pos g]; exact fw _ hz gz gv
            · rw [if_neg g] at hr ⊢; exact r3 hr
          · by_cases gi : i = m
            · rw [gi]
              by_cases g : (Z.getD m (0, 0, none, none, none)).1 < r
              · rw [if_pos g]; exact Nat.le_refl _
              · rw [if_neg g]; omega
            · have := r4 i (by omega) h1 h2
              by_cases g : (Z.getD m (0, 0, none, none, none)).1 < r
              · rw [if_pos g]; omega
              · rw [if_neg g]; exact this
        · rw [if_neg (neqN (by omega) (by omega) gv), E_X4_lastRuleIn_91, mI_s] at e31
          exact no (fun z => gv z.2) e31
      · rw [if_neg (show ¬ mI (Z.getD m (0, 0, none, none, none)).2.1 = 0 from neqN (m := 0) (by omega) (by decide) gz), E_X4_lastRuleIn_59, if_pos rfl, E_X4_lastRuleIn_91, mI_s] at e31
        exact no (fun z => gz z.1) e31
  obtain ⟨r, r1, r2, r3, r4⟩ := key Z.length (Nat.le_refl _)
  have least : ∀ r', r' < r → ¬ ATT (IIc D F φ S told H q) r' := by
    intro r' hr' hat
    have h15 := ins15 r' hat
    have : r' = 0 ∨ r' = 1 ∨ 2 ≤ r' := by omega
    rcases this with rfl | rfl | h2
    · exact n0 hat
    · exact n1 hat
    · obtain ⟨i, i1, i2, i3, i4⟩ := bw r' h2 (by omega) hat
      have := r4 i i1 i3 i4
      omega
  refine ⟨r, by omega, ?_, least, ?_⟩
  · by_cases g : r < 14
    · exact r3 g
    · have e14 : r = 14 := by omega
      obtain ⟨r', ps, b, i1, i2⟩ := att_ex hv
      have hat : ATT (IIc D F φ S told H q) r' := ⟨ps, b, i1, i2⟩
      have h15 := ins15 r' hat
      have : r' = r := Classical.byContradiction fun z => least r' (by omega) hat
      rw [← this]; exact hat
  · rw [r1, E_X4_lastRuleIn_31, q_38_10, ob, hZ.1, if_pos (by rw [nle (by omega) (by omega)]; exact Nat.le_refl _)]
end CAK
