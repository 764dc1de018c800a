/-! sets of bits, sums, built in loops -/
noncomputable def mk64 (p : Nat → Prop) : Nat → Int64
  | 0 => 0
  | k + 1 => @ite _ (p k) (Classical.propDecidable _) (mk64 p k ||| on64 k) (mk64 p k)
noncomputable def mk32 (p : Nat → Prop) : Nat → Int32
  | 0 => 0
  | k + 1 => @ite _ (p k) (Classical.propDecidable _) (mk32 p k ||| on32 k) (mk32 p k)
def sumI (f : Nat → Int32) : Nat → Int32
  | 0 => 0
  | k + 1 => sumI f k + f k
section MK
variable {p q : Nat → Prop} {k i N : Nat}
theorem mk64_t (h : p k) : mk64 p (k + 1) = mk64 p k ||| on64 k := if_pos h
theorem mk64_f (h : ¬ p k) : mk64 p (k + 1) = mk64 p k := if_neg h
theorem mk32_t (h : p k) : mk32 p (k + 1) = mk32 p k ||| on32 k := if_pos h
theorem mk32_f (h : ¬ p k) : mk32 p (k + 1) = mk32 p k := if_neg h
theorem bl_mk (hk : k ≤ 64) (hi : i < 64) : bl (mk64 p k) i = true ↔ i < k ∧ p i := by
  induction k with
  | zero => simp [mk64, bl_0]
  | succ k ih =>
    have ih := ih (by omega)
    by_cases h : p k
    · rw [mk64_t h, bl_or, bl_on (by omega) hi, Bool.or_eq_true, ih, decide_eq_true_iff]
      constructor
      · rintro (⟨h1, h2⟩ | rfl)
        · exact ⟨by omega, h2⟩
        · exact ⟨by omega, h⟩
      · rintro ⟨h1, h2⟩
        by_cases e : i = k
        · exact Or.inr e
        · exact Or.inl ⟨by omega, h2⟩
    · rw [mk64_f h, ih]
      constructor
      · rintro ⟨h1, h2⟩; exact ⟨by omega, h2⟩
      · rintro ⟨h1, h2⟩
        refine ⟨?_, h2⟩
        by_cases e : i = k
        · subst e; exact absurd h2 h
        · omega
theorem bt_mk (hk : k ≤ 32) (hi : i < 32) : bt (mk32 p k) i = true ↔ i < k ∧ p i := by
  induction k with
  | zero => simp [mk32, bt_0]
  | succ k ih =>
    have ih := ih (by omega)
    by_cases h : p k
    · rw [mk32_t h, bt_or, bt_on (by omega) hi, Bool.or_eq_true, ih, decide_eq_true_iff]
      constructor
      · rintro (⟨h1, h2⟩ | rfl)
        · exact ⟨by omega, h2⟩
        · exact ⟨by omega, h⟩
      · rintro ⟨h1, h2⟩
        by_cases e : i = k
        · exact Or.inr e
        · exact Or.inl ⟨by omega, h2⟩
    · rw [mk32_f h, ih]
      constructor
      · rintro ⟨h1, h2⟩; exact ⟨by omega, h2⟩
      · rintro ⟨h1, h2⟩
        refine ⟨?_, h2⟩
        by_cases e : i = k
        · subst e; exact absurd h2 h
        · omega
theorem mk64_congr (h : ∀ i, i < k → (p i ↔ q i)) : mk64 p k = mk64 q k := by
  induction k with
  | zero => rfl
  | succ k ih =>
    have ih := ih fun i hi => h i (by omega)
    by_cases g : p k
    · rw [mk64_t g, mk64_t ((h k (by omega)).mp g), ih]
    · rw [mk64_f g, mk64_f (fun z => g ((h k (by omega)).mpr z)), ih]
theorem mk32_congr (h : ∀ i, i < k → (p i ↔ q i)) : mk32 p k = mk32 q k := by
  induction k with
  | zero => rfl
  | succ k ih =>
    have ih := ih fun i hi => h i (by omega)
    by_cases g : p k
    · rw [mk32_t g, mk32_t ((h k (by omega)).mp g), ih]
    · rw [mk32_f g, mk32_f (fun z => g ((h k (by omega)).mpr z)), ih]
theorem sumI_congr {f g : Nat → Int32} (h : ∀ i, i < k → f i = g i) : sumI f k = sumI g k := by
  induction k with
  | zero => rfl
  | succ k ih => show sumI f k + f k = sumI g k + g k; rw [ih fun i hi => h i (by omega), h k (by omega)]
/-- a loop with a value that grows -/
theorem loopE {R : Type} {f : Nat → Option R} {N : Nat} {r : Option R} (h : ∀ k, k < N → f k = f (k + 1)) (he : f N = r) : f 0 = r := by
  rw [← he]
  exact s_loopA (Nat.zero_le _) fun k _ hk => h k hk
/-- a loop that looks for something: v k is what is found from k on -/
theorem loopX {R : Type} {f : Nat → Option R} {N : Nat} {p : Nat → Prop} {r0 : R} {r1 : Nat → R} (hs : ∀ k, k < N → ¬ p k → f k = f (k + 1)) (hp : ∀ k, k < N → p k → f k = some (r1 k)) (he : f N = some r0) : (∃ k, k < N ∧ p k ∧ (∀ i, i < k → ¬ p i) ∧ f 0 = some (r1 k)) ∨ ((∀ k, k < N → ¬ p k) ∧ f 0 = some r0) := by
  have key : ∀ d m, m + d = N → (∀ i, i < m → ¬ p i) → f 0 = f m → (∃ k, k < N ∧ p k ∧ (∀ i, i < k → ¬ p i) ∧ f 0 = some (r1 k)) ∨ ((∀ k, k < N → ¬ p k) ∧ f 0 = some r0) := by
    intro d
    induction d with
    | zero =>
      intro m hm h1 h2
      have : m = N := by omega
      subst this
      exact Or.inr ⟨h1, h2.trans he⟩
    | succ d ih =>
      intro m hm h1 h2
      by_cases g : p m
      · exact Or.inl ⟨m, by omega, g, h1, h2.trans (hp m (by omega) g)⟩
      · exact ih (m + 1) (by omega) (fun i hi => by
          by_cases e : i = m
          · subst e; exact g
          · exact h1 i (by omega)) (h2.trans (hs m (by omega) g))
  exact key N 0 (by omega) (fun i hi => absurd hi (by omega)) rfl
theorem loopB {S : Type} {f : Nat → Option (Int32 × S)} {N : Nat} {p : Nat → Prop} {σ : S} (hs : ∀ k, k < N → ¬ p k → f k = f (k + 1)) (hp : ∀ k, k < N → p k → f k = some (1, σ)) (he : f N = some (0, σ)) : f 0 = some (b2 (∃ k, k < N ∧ p k), σ) := by
  rcases loopX (r0 := ((0 : Int32), σ)) (r1 := fun _ => ((1 : Int32), σ)) hs hp he with ⟨k, h1, h2, -, h3⟩ | ⟨h1, h2⟩
  · rw [h3, b2_t ⟨k, h1, h2⟩]
  · rw [h2, b2_f (fun ⟨k, g1, g2⟩ => h1 k g1 g2)]
end MK
/-! who is sound, open, stale, saved -/
def sndR (H : Nat → Prop) (y : sLn) : Nat → Nat → Prop
  | 0, _ => True
  | d + 1, l => H l ∧ ∀ j, j < 3 → ∀ p, prem y l j = some p → sndR H y d p
def sndP (H : Nat → Prop) (y : sLn) (l : Nat) : Prop := sndR H y (l + 1) l
theorem snd_d {H : Nat → Prop} {F L : Nat} {y : sLn} (ho : okLn F L y) : ∀ l, l < L → ∀ d e, l < d → l < e → (sndR H y d l ↔ sndR H y e l) := by
  intro l
  induction l using Nat.strongRecOn with
  | _ l ih =>
    intro hl d e hd he
    cases d with
    | zero => omega
    | succ d =>
      cases e with
      | zero => omega
      | succ e =>
        constructor
        · intro h
          exact ⟨h.1, fun j hj p hp => by
            have := prem_lt ho hl hj hp
            exact (ih p this (by omega) d e (by omega) (by omega)).mp (h.2 j hj p hp)⟩
        · intro h
          exact ⟨h.1, fun j hj p hp => by
            have := prem_lt ho hl hj hp
            exact (ih p this (by omega) d e (by omega) (by omega)).mpr (h.2 j hj p hp)⟩
theorem snd_eq {H : Nat → Prop} {F L : Nat} {y : sLn} (ho : okLn F L y) {l : Nat} (hl : l < L) : sndP H y l ↔ H l ∧ allP y l (sndP H y) := by
  constructor
  · intro h
    exact ⟨h.1, fun j hj p hp => by
      have := prem_lt ho hl hj hp
      exact (snd_d ho p (by omega) l (p + 1) (by omega) (by omega)).mp (h.2 j hj p hp)⟩
  · intro h
    exact ⟨h.1, fun j hj p hp => by
      have := prem_lt ho hl hj hp
      exact (snd_d ho p (by omega) l (p + 1) (by omega) (by omega)).mpr (h.2 j hj p hp)⟩
theorem snd_uni {H H' : Nat → Prop} {F L : Nat} {y : sLn} (ho : okLn F L y) {S : Nat → Prop} (hH : ∀ l, l < L → (H l ↔ H' l)) (h : ∀ l, l < L → (S l ↔ H l ∧ allP y l S)) : ∀ l, l < L → (S l ↔ sndP H' y l) := by
  intro l
  induction l using Nat.strongRecOn with
  | _ l ih =>
    intro hl
    rw [h l hl, snd_eq ho hl, hH l hl]
    refine and_congr Iff.rfl ⟨fun z j hj p hp => ?_, fun z j hj p hp => ?_⟩
    · have := prem_lt ho hl hj hp
      exact (ih p this (by omega)).mp (z j hj p hp)
    · have := prem_lt ho hl hj hp
      exact (ih p this (by omega)).mpr (z j hj p hp)
def unbP (F : Nat) (φ : Nat → List Nat) (T : Nat → Int32) (y : sLn) (l : Nat) : Prop := y.2.2.1 l = 0 ∧ ¬ amP F φ T y l
def opnP (L : Nat) (A : Nat → Int64) (y : sLn) (l : Nat) : Prop := ∃ k, k < L ∧ bl (A l) k = true ∧ y.2.2.1 k = 1
def stlP (L : Nat) (A : Nat → Int64) (U : Nat → Prop) (l : Nat) : Prop := ∃ k, k < L ∧ bl (A l) k = true ∧ U k
def savP (L : Nat) (φ : Nat → List Nat) (y : sLn) (S O T : Nat → Prop) (l : Nat) : Prop := T l ∧ ∃ k, k < L ∧ φ (y.2.1 k) = φ (y.2.1 l) ∧ S k ∧ ¬ O k ∧ ¬ T k
theorem and_mk {A : Int64} {p : Nat → Prop} {L : Nat} (hL : L ≤ 64) : (A &&& mk64 p L = 0) = ¬ ∃ k, k < L ∧ bl A k = true ∧ p k := by
  apply propext
  rw [bl_and0]
  constructor
  · rintro h ⟨k, h1, h2, h3⟩
    exact h k (by omega) ⟨h2, (bl_mk hL (by omega)).mpr ⟨h1, h3⟩⟩
  · rintro h i hi ⟨h1, h2⟩
    have := (bl_mk hL hi).mp h2
    exact h ⟨i, this.1, h1, this.2⟩
section AU
variable {P : sP} {w : sW} {ex : Nat → Option sC} {n sl : Nat} {D F L U : Nat} {y : sLn} {φ nd : Nat → List Nat} {nf : Nat → Nat}
theorem c_toldToE {x : Int32} : ∃ v, F_X1_toldTo (P.2.1 + 9) x (hp P w ex n sl) = some (v, hp P w ex n sl) := by
  simp only [E_X1_toldTo, E_X1_toldTo_0, z_9, q_9_5, ob]
  by_cases h0 : x < 0
  · rw [if_pos h0]; exact ⟨_, rfl⟩
  · rw [if_neg h0]
    by_cases h1 : (4 : Int32) ≤ x
    · rw [if_pos h1]; exact ⟨_, rfl⟩
    · rw [if_neg h1]
      obtain ⟨u, hu, rfl⟩ := inN_to (F := 4) (by decide) ⟨h0, h1⟩
      rw [ra_12 hu]
      exact ⟨_, rfl⟩
theorem c_linesOf {r : Nat} {x : Int32} (hC : CW w D F L U y φ nd nf) (hx : x = mI r) (hr : r < 16) : F_X0_linesOf (P.2.1 + 37) x (hp P w ex n sl) = some (mk64 (fun k => y.2.2.1 k = r) L, hp P w ex n sl) := by
  subst hx
  have h40 := hC.2.2.2.1
  have hL := hC.2.2.2.2.2.2.1
  rw [E_X0_linesOf, z_37, ob, E_X0_linesOf_0]
  refine loopE (f := fun k => R_X0_linesOf_5 (P.2.1 + 37) (mI r) (mk64 (fun k => y.2.2.1 k = r) k) (mI k) (hp P w ex n sl)) (N := L) (fun k hk => ?_) ?_
  · have hrk := (hC.2.2.2.2.2.2.2.2.1 k hk).2.2.1
    have en : (mI (y.2.2.1 k) = mI r) = (y.2.2.1 k = r) := neq (by omega) (by omega)
    try dsimp only
    rw [E_X0_linesOf_5, q_37_5, ob, q_9_6, ob, hL, if_neg (show ¬ mI L ≤ mI k by rw [nle (by omega) (by omega)]; omega), ob, c_rule (x := mI k) hC rfl hk, ob]
    try dsimp only
    by_cases g : y.2.2.1 k = r
    · rw [if_pos (by rw [en]; exact g), mk64_t (p := fun k => y.2.2.1 k = r) g, E_X0_linesOf_38, naddL]
    · rw [if_neg (by rw [en]; exact g), mk64_f (p := fun k => y.2.2.1 k = r) g, E_X0_linesOf_38, naddL]
  · try dsimp only
    rw [E_X0_linesOf_5, q_37_5, ob, q_9_6, ob, hL, if_pos (show mI L ≤ mI L by rw [nle (by omega) (by omega)]; omega)]
theorem c_staleIf {v1 v2 : Int32} (hC : CW w D F L U y φ nd nf) : F_X0_staleIf (P.2.1 + 37) v1 v2 (hp P w ex n sl) = some (mk64 (stlP L (w.2.2.2.1 13) (unbP F φ (fun u => if mI u = v1 then v2 else w.2.2.1 12 u) y)) L, hp P w ex n sl) := by
  have h40 := hC.2.2.2.1
  have hL := hC.2.2.2.2.2.2.1
  have ho := hC.2.2.2.2.2.2.2.2.1
  have hLn := hC.2.2.2.2.2.2.2.1
  generalize hT : (fun u => if mI u = v1 then v2 else w.2.2.1 12 u) = T
  rw [E_X0_staleIf, z_37, ob, E_X0_staleIf_0]
  refine loopE (f := fun k => R_X0_staleIf_5 (P.2.1 + 37) v1 v2 (mk64 (unbP F φ T y) k) (mI k) (hp P w ex n sl)) (N := L) (fun k hk => ?_) ?_
  · try dsimp only
    have hrk := (ho k hk).2.2.1
    have e0 : (mI (y.2.2.1 k) = 0) = (y.2.2.1 k = 0) := neqL (by omega) (by decide)
    have a3 : w.2.2.1 17 (0 + 6 * k + 3) = thOf (y.2.2.2 k 0) := (hLn k hk).2.2.2 0 (by decide)
    rw [E_X0_staleIf_5, q_37_5, ob, q_9_6, ob, hL, if_neg (show ¬ mI L ≤ mI k by rw [nle (by omega) (by omega)]; omega), ob, c_line (x := mI k) (v := 3) (j := 3) hC rfl rfl hk (by decide), ob, a3]
    by_cases hr : y.2.2.1 k = 0
    · obtain ⟨⟨u, hu, eu⟩, -, -⟩ := (ho k hk).2.2.2.1 hr
      have f3 := hC.2.2.2.2.2.2.2.2.2.2 _ (ho k hk).2.1
      have to : ∀ v : Int32, v = T u → R_X0_staleIf_48 (P.2.1 + 37) v1 v2 (mk64 (unbP F φ T y) k) (mI k) v (hp P w ex n sl) = R_X0_staleIf_5 (P.2.1 + 37) v1 v2 (mk64 (unbP F φ T y) (k + 1)) (mI (k + 1)) (hp P w ex n sl) := by
        intro v hv
        have am : amP F φ T y k ↔ tol F φ v (nd (nf (y.2.1 k))) := by
          unfold amP
          rw [eu, Option.getD_some, ← hv, f3.2.2]
        rw [E_X0_staleIf_48, q_37_5, ob, c_rule (x := mI k) hC rfl hk, ob]
        try dsimp only
        rw [if_pos (by rw [e0]; exact hr), E_X0_staleIf_68, if_neg (by decide), q_37_5, ob, ob, c_nodeOfLine (x := mI k) hC rfl hk, ob, c_isAmong (x := mI (nf (y.2.1 k))) hC rfl f3.1, ob]
        try dsimp only
        by_cases g : tol F φ v (nd (nf (y.2.1 k)))
        · rw [if_neg (show ¬ b2 _ = 0 from fun z => b2_0.mp z g), mk64_f (fun z => z.2 (am.mpr g)), E_X0_staleIf_103, naddL]
        · rw [if_pos (b2_0.mpr g), mk64_t (p := unbP F φ T y) ⟨hr, fun z => g (am.mp z)⟩, E_X0_staleIf_103, naddL]
      rw [eu, thOf_some]
      try dsimp only
      by_cases g : mI u = v1
      · rw [if_pos g]
        exact to v2 (by rw [← hT]; exact (if_pos g).symm)
      · rw [if_neg g, q_37_5, ob, c_toldTo (x := mI u) rfl hu, ob]
        exact to _ (by rw [← hT]; exact (if_neg g).symm)
    · have to : ∀ v : Int32, R_X0_staleIf_48 (P.2.1 + 37) v1 v2 (mk64 (unbP F φ T y) k) (mI k) v (hp P w ex n sl) = R_X0_staleIf_5 (P.2.1 + 37) v1 v2 (mk64 (unbP F φ T y) (k + 1)) (mI (k + 1)) (hp P w ex n sl) := by
        intro v
        rw [E_X0_staleIf_48, q_37_5, ob, c_rule (x := mI k) hC rfl hk, ob]
        try dsimp only
        rw [if_neg (by rw [e0]; exact hr), E_X0_staleIf_68, if_pos rfl, mk64_f (fun z => hr z.1), E_X0_staleIf_103, naddL]
      try dsimp only
      by_cases g : thOf (y.2.2.2 k 0) = v1
      · rw [if_pos g]
        exact to v2
      · obtain ⟨v, hv⟩ := c_toldToE (P := P) (w := w) (ex := ex) (n := n) (sl := sl) (x := thOf (y.2.2.2 k 0))
        rw [if_neg g, q_37_5, ob, hv, ob]
        exact to v
  · try dsimp only
    rw [E_X0_staleIf_5, q_37_5, ob, q_9_6, ob, hL, if_pos (show mI L ≤ mI L by rw [nle (by omega) (by omega)]; omega)]
    refine loopE (f := fun k => R_X0_staleIf_115 (P.2.1 + 37) (mk64 (unbP F φ T y) L) (mk64 (stlP L (w.2.2.2.1 13) (unbP F φ T y)) k) (mI k) (hp P w ex n sl)) (N := L) (fun k hk => ?_) ?_
    · try dsimp only
      rw [E_X0_staleIf_115, q_37_5, ob, q_9_6, ob, hL, if_neg (show ¬ mI L ≤ mI k by rw [nle (by omega) (by omega)]; omega), ob, q_9_7, ob, ra_13 (show k < 40 by omega), ob]
      have ez : (lg_cmp (w.2.2.2.1 13 k &&& mk64 (unbP F φ T y) L) 0 = 0) = ¬ stlP L (w.2.2.2.1 13) (unbP F φ T y) k := by rw [z64, and_mk (by omega)]; rfl
      by_cases g : stlP L (w.2.2.2.1 13) (unbP F φ T y) k
      · rw [if_neg (by rw [ez]; exact fun z => z g), mk64_t (p := stlP L (w.2.2.2.1 13) (unbP F φ T y)) g, E_X0_staleIf_153, naddL]
      · rw [if_pos (by rw [ez]; exact g), mk64_f (p := stlP L (w.2.2.2.1 13) (unbP F φ T y)) g, E_X0_staleIf_153, naddL]
    · try dsimp only
      rw [E_X0_staleIf_115, q_37_5, ob, q_9_6, ob, hL, if_pos (show mI L ≤ mI L by rw [nle (by omega) (by omega)]; omega)]
theorem c_standsOnSound {l : Nat} {x : Int32} {S : Nat → Prop} (hC : CW w D F L U y φ nd nf) (hx : x = mI l) (hl : l < L) (hS : w.2.1 37 1 = mk64 S l) : F_X0_standsOnSound (P.2.1 + 37) x (hp P w ex n sl) = some (b2 (allP y l S), hp P w ex n sl) := by
  subst hx
  have h40 := hC.2.2.2.1
  have ho := hC.2.2.2.2.2.2.2.2.1
  rw [E_X0_standsOnSound, z_37, ob, E_X0_standsOnSound_0]
  have step : ∀ k, k < 3 → (∀ p, prem y l k = some p → S p) → R_X0_standsOnSound_2 (P.2.1 + 37) (mI l) (mI k) (hp P w ex n sl) = R_X0_standsOnSound_2 (P.2.1 + 37) (mI l) (mI (k + 1)) (hp P w ex n sl) := by
    intro k hk h
    rw [E_X0_standsOnSound_2, if_neg (show ¬ (3 : Int32) ≤ mI k by rw [nleR (by omega) (by decide)]; exact Nat.not_le.mpr hk), q_37_5, ob, c_premiseOf (x := mI l) (v := mI k) hC rfl rfl hl hk, ob]
    cases e : prem y l k with
    | none => rw [if_pos (show thOf none = -1 from rfl), E_X0_standsOnSound_37, naddL]
    | some p =>
      have hpl := prem_lt ho hl hk e
      rw [if_neg (show ¬ thOf (some p) = -1 from mI_m1 (by omega)), q_37_1, ob, hS, thOf_some]
      try dsimp only
      rw [if_neg (by rw [t64u (by omega), Bool.not_eq_false]; exact (bl_mk (by omega) (by omega)).mpr ⟨hpl, h p e⟩), E_X0_standsOnSound_37, naddL]
  have stop : ∀ k, k < 3 → ¬ (∀ p, prem y l k = some p → S p) → R_X0_standsOnSound_2 (P.2.1 + 37) (mI l) (mI k) (hp P w ex n sl) = some (0, hp P w ex n sl) := by
    intro k hk h
    rw [E_X0_standsOnSound_2, if_neg (show ¬ (3 : Int32) ≤ mI k by rw [nleR (by omega) (by decide)]; exact Nat.not_le.mpr hk), q_37_5, ob, c_premiseOf (x := mI l) (v := mI k) hC rfl rfl hl hk, ob]
    cases e : prem y l k with
    | none => exact absurd (fun p hp => by rw [e] at hp; cases hp) h
    | some p =>
      have hpl := prem_lt ho hl hk e
      have hnp : ¬ S p := fun z => h (fun q hq => by rw [e] at hq; cases hq; exact z)
      rw [if_neg (show ¬ thOf (some p) = -1 from mI_m1 (by omega)), q_37_1, ob, hS, thOf_some]
      try dsimp only
      rw [if_pos (by rw [t64u (by omega), ← Bool.not_eq_true]; exact fun z => hnp ((bl_mk (by omega) (by omega)).mp z).2)]
  rcases loopX (f := fun k => R_X0_standsOnSound_2 (P.2.1 + 37) (mI l) (mI k) (hp P w ex n sl)) (N := 3) (p := fun k => ¬ ∀ p, prem y l k = some p → S p) (r0 := ((1 : Int32), hp P w ex n sl)) (r1 := fun _ => ((0 : Int32), hp P w ex n sl)) (fun k hk h => step k hk (Classical.not_not.mp h)) stop (by rw [E_X0_standsOnSound_2, if_pos (by decide)]) with ⟨k, h1, h2, -, h3⟩ | ⟨h1, h2⟩
  · refine Eq.trans h3 ?_
    rw [b2_f (show ¬ allP y l S from fun z => h2 (fun p hp => z k h1 p hp))]
  · refine Eq.trans h2 ?_
    rw [b2_t (show allP y l S from fun j hj p hp => Classical.not_not.mp (h1 j hj) p hp)]
end AU
