/-! what lines rest on and need: one recurrence for class and model -/
def orP (A : Nat → Int64) (o : Option Nat) (z : Int64) : Int64 := match o with
  | none => z
  | some p => z ||| A p
def oR (A : Nat → Int64) (y : sLn) (l : Nat) (z : Int64) : Int64 := orP A (prem y l 2) (orP A (prem y l 1) (orP A (prem y l 0) z))
def disG (y : sLn) (l : Nat) : Option Nat := if y.2.2.1 l = 10 then (match prem y l 0 with
  | none => none
  | some g => if y.2.2.1 g = 1 then some g else none) else none
def dis (o : Option Nat) (x : Int64) : Int64 := match o with
  | none => x
  | some g => x &&& (on64 g ^^^ (-1))
def rstV (A : Nat → Int64) (y : sLn) (l : Nat) : Int64 := if y.2.2.1 l < 2 then on64 l else dis (disG y l) (oR A y l 0)
def nedV (A : Nat → Int64) (y : sLn) (l : Nat) : Int64 := oR A y l (on64 l)
theorem orP_congr {A A' : Nat → Int64} {o : Option Nat} {z : Int64} (h : ∀ p, o = some p → A p = A' p) : orP A o z = orP A' o z := by
  cases o with
  | none => rfl
  | some p => show z ||| A p = z ||| A' p; rw [h p rfl]
theorem oR_congr {F L : Nat} {y : sLn} (ho : okLn F L y) {A A' : Nat → Int64} {l : Nat} {z : Int64} (hl : l < L) (h : ∀ p, p < l → A p = A' p) : oR A y l z = oR A' y l z := by
  unfold oR
  rw [orP_congr (A' := A') (o := prem y l 0) fun p hp => h p (prem_lt ho hl (by decide) hp), orP_congr (A' := A') (o := prem y l 1) fun p hp => h p (prem_lt ho hl (by decide) hp), orP_congr (A' := A') (o := prem y l 2) fun p hp => h p (prem_lt ho hl (by decide) hp)]
theorem rstV_congr {F L : Nat} {y : sLn} (ho : okLn F L y) {A A' : Nat → Int64} {l : Nat} (hl : l < L) (h : ∀ p, p < l → A p = A' p) : rstV A y l = rstV A' y l := by
  unfold rstV
  rw [oR_congr ho hl h]
theorem nedV_congr {F L : Nat} {y : sLn} (ho : okLn F L y) {A A' : Nat → Int64} {l : Nat} (hl : l < L) (h : ∀ p, p < l → A p = A' p) : nedV A y l = nedV A' y l := by
  unfold nedV
  rw [oR_congr ho hl h]
theorem rst_uni {F L : Nat} {y : sLn} (ho : okLn F L y) {A A' : Nat → Int64} (h : ∀ l, l < L → A l = rstV A y l) (h' : ∀ l, l < L → A' l = rstV A' y l) : ∀ l, l < L → A l = A' l := by
  intro l
  induction l using Nat.strongRecOn with
  | _ l ih =>
    intro hl
    rw [h l hl, h' l hl]
    exact rstV_congr ho hl fun p hp => ih p hp (by omega)
theorem ned_uni {F L : Nat} {y : sLn} (ho : okLn F L y) {A A' : Nat → Int64} (h : ∀ l, l < L → A l = nedV A y l) (h' : ∀ l, l < L → A' l = nedV A' y l) : ∀ l, l < L → A l = A' l := by
  intro l
  induction l using Nat.strongRecOn with
  | _ l ih =>
    intro hl
    rw [h l hl, h' l hl]
    exact nedV_congr ho hl fun p hp => ih p hp (by omega)
theorem disG_lt {F L : Nat} {y : sLn} (ho : okLn F L y) {l g : Nat} (hl : l < L) (h : disG y l = some g) : g < l := by
  unfold disG at h
  split at h
  · cases e : prem y l 0 with
    | none => rw [e] at h; cases h
    | some p =>
      rw [e] at h
      dsimp only at h
      split at h
      · cases h; exact prem_lt ho hl (by decide) e
      · cases h
  · cases h
section SO
variable {P : sP} {w : sW} {ex : Nat → Option sC} {n sl : Nat} {D F L U : Nat} {y : sLn} {φ nd : Nat → List Nat} {nf : Nat → Nat}
theorem so_step {l j : Nat} {a b c : Int64} (hC : CW w D F L U y φ nd nf) (hl : l < L) (hj : j < 3) : R_X1_standOn_13 (P.2.1 + 9) (mI l) a b c (mI j) (hp P w ex n sl) = R_X1_standOn_13 (P.2.1 + 9) (mI l) a (orP (w.2.2.2.1 13) (prem y l j) b) (orP (w.2.2.2.1 14) (prem y l j) c) (mI (j + 1)) (hp P w ex n sl) := by
  have h40 := hC.2.2.2.1
  rw [E_X1_standOn_13, if_neg (show ¬ (3 : Int32) ≤ mI j by rw [nleR (by omega) (by decide)]; exact Nat.not_le.mpr hj), c_premiseOf (v := mI j) (j := j) hC rfl rfl hl hj, ob]
  cases e : prem y l j with
  | none =>
    rw [if_pos (show thOf none < 0 by decide), E_X1_standOn_63, naddL]
    rfl
  | some p =>
    have hpl := prem_lt hC.2.2.2.2.2.2.2.2.1 hl hj e
    rw [if_neg (show ¬ thOf (some p) < 0 from mI_0 (by omega)), if_neg (show ¬ mI l ≤ thOf (some p) by rw [thOf_some, mI_le (by omega) (by omega)]; omega)]
    simp only [q_9_7, ob, q_9_8, thOf_some, ra_13 (show p < 40 by omega), ra_14 (show p < 40 by omega), E_X1_standOn_63, naddL]
    rfl
theorem c_standOn {l : Nat} {x : Int32} (hC : CW w D F L U y φ nd nf) (hx : x = mI l) (hl : l < L) : F_X1_standOn (P.2.1 + 9) x (hp P w ex n sl) = some ((), hp P (wL (wL w 13 l (rstV (w.2.2.2.1 13) y l)) 14 l (nedV (w.2.2.2.1 14) y l)) ex n sl) := by
  subst hx
  have h40 := hC.2.2.2.1
  have ho := hC.2.2.2.2.2.2.2.2.1
  have hr := (ho l hl).2.2.1
  have e10 : (mI (y.2.2.1 l) = 10) = (y.2.2.1 l = 10) := neqL (by omega) (by decide)
  have e0 : (mI (y.2.2.1 l) = 0) = (y.2.2.1 l = 0) := neqL (by omega) (by decide)
  have e1 : (mI (y.2.2.1 l) = 1) = (y.2.2.1 l = 1) := neqL (by omega) (by decide)
  rw [E_X1_standOn, z_9, ob, E_X1_standOn_0]
  have s0 := so_step (P := P) (ex := ex) (n := n) (sl := sl) (a := on64 l) (b := 0) (c := on64 l) hC hl (show 0 < 3 by decide)
  have s1 := so_step (P := P) (ex := ex) (n := n) (sl := sl) (a := on64 l) (b := orP (w.2.2.2.1 13) (prem y l 0) 0) (c := orP (w.2.2.2.1 14) (prem y l 0) (on64 l)) hC hl (show 1 < 3 by decide)
  have s2 := so_step (P := P) (ex := ex) (n := n) (sl := sl) (a := on64 l) (b := orP (w.2.2.2.1 13) (prem y l 1) (orP (w.2.2.2.1 13) (prem y l 0) 0)) (c := orP (w.2.2.2.1 14) (prem y l 1) (orP (w.2.2.2.1 14) (prem y l 0) (on64 l))) hC hl (show 2 < 3 by decide)
  refine Eq.trans s0 (Eq.trans s1 (Eq.trans s2 ?_))
  have fin : ∀ (X : Int64) (v8 : Int32), (y.2.2.1 l < 2 → v8 = 0 ∨ v8 = 1) → (¬ y.2.2.1 l < 2 → ¬ v8 = 0 ∧ ¬ v8 = 1) → R_X1_standOn_121 (P.2.1 + 9) (mI l) (on64 l) X (nedV (w.2.2.2.1 14) y l) v8 (hp P w ex n sl) = some ((), hp P (wL (wL w 13 l (if y.2.2.1 l < 2 then on64 l else X)) 14 l (nedV (w.2.2.2.1 14) y l)) ex n sl) := by
    intro X v8 h1 h2
    rw [E_X1_standOn_121, q_9_7, ob]
    by_cases g : y.2.2.1 l < 2
    · rw [if_pos g]
      have : (if v8 = 0 then R_X1_standOn_137 (P.2.1 + 9) (mI l) (on64 l) (nedV (w.2.2.2.1 14) y l) (mI l) (P.2.1 + 13) (hp P w ex n sl) else if v8 = 1 then R_X1_standOn_137 (P.2.1 + 9) (mI l) (on64 l) (nedV (w.2.2.2.1 14) y l) (mI l) (P.2.1 + 13) (hp P w ex n sl) else R_X1_standOn_143 (P.2.1 + 9) (mI l) (nedV (w.2.2.2.1 14) y l) X (mI l) (P.2.1 + 13) (hp P w ex n sl)) = R_X1_standOn_137 (P.2.1 + 9) (mI l) (on64 l) (nedV (w.2.2.2.1 14) y l) (mI l) (P.2.1 + 13) (hp P w ex n sl) := by
        rcases h1 g with g0 | g1
        · rw [if_pos g0]
        · by_cases g0 : v8 = 0
          · rw [if_pos g0]
          · rw [if_neg g0, if_pos g1]
      rw [this, E_X1_standOn_137, E_X1_standOn_143, wa_13 (show l < 40 by omega), ob, q_9_8, ob, wa_14 (show l < 40 by omega), ob]
    · rw [if_neg g, if_neg (h2 g).1, if_neg (h2 g).2, E_X1_standOn_143, wa_13 (show l < 40 by omega), ob, q_9_8, ob, wa_14 (show l < 40 by omega), ob]
  have hv8 : (y.2.2.1 l < 2 → mI (y.2.2.1 l) = 0 ∨ mI (y.2.2.1 l) = 1) ∧ (¬ y.2.2.1 l < 2 → ¬ mI (y.2.2.1 l) = 0 ∧ ¬ mI (y.2.2.1 l) = 1) := by
    rw [e0, e1]
    exact ⟨fun h => by omega, fun h => by omega⟩
  rw [E_X1_standOn_13, if_pos (show (3 : Int32) ≤ mI (2 + 1) by decide), c_rule hC rfl hl, ob, c_premiseOf (v := 0) (j := 0) hC rfl rfl hl (by decide), ob]
  dsimp only
  unfold rstV disG
  by_cases g : y.2.2.1 l = 10
  · rw [if_pos (show mI (y.2.2.1 l) = 10 by rw [e10]; exact g)]
    simp only [if_pos g]
    cases e : prem y l 0 with
    | none =>
      rw [if_pos (show thOf none < 0 by decide)]
      have z := fin (oR (w.2.2.2.1 13) y l 0) (mI (y.2.2.1 l)) hv8.1 hv8.2
      unfold oR nedV oR at z
      rw [e] at z
      unfold nedV oR
      rw [e]
      exact z
    | some p =>
      have hpl := prem_lt ho hl (by decide) e
      have hrp := (ho p (by omega)).2.2.1
      have e1p : (mI (y.2.2.1 p) = 1) = (y.2.2.1 p = 1) := neqL (by omega) (by decide)
      rw [if_neg (show ¬ thOf (some p) < 0 from mI_0 (by omega)), c_rule (x := thOf (some p)) hC rfl (show p < L by omega), ob]
      dsimp only
      by_cases g1 : y.2.2.1 p = 1
      · rw [if_pos (show mI (y.2.2.1 p) = 1 by rw [e1p]; exact g1), if_pos g1]
        have z := fin (dis (some p) (oR (w.2.2.2.1 13) y l 0)) (mI (y.2.2.1 l)) hv8.1 hv8.2
        unfold oR nedV oR at z
        rw [e] at z
        unfold nedV oR
        rw [e]
        exact z
      · rw [if_neg (show ¬ mI (y.2.2.1 p) = 1 by rw [e1p]; exact g1), if_neg g1]
        have z := fin (oR (w.2.2.2.1 13) y l 0) (mI (y.2.2.1 l)) hv8.1 hv8.2
        unfold oR nedV oR at z
        rw [e] at z
        unfold nedV oR
        rw [e]
        exact z
  · rw [if_neg (show ¬ mI (y.2.2.1 l) = 10 by rw [e10]; exact g), if_neg g]
    exact fin (oR (w.2.2.2.1 13) y l 0) (mI (y.2.2.1 l)) hv8.1 hv8.2
end SO
