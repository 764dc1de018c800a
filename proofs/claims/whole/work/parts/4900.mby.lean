/-! what a rule costs in the model -/
def sm (a b : Nat) : Nat := if a + b < 268435456 then a + b else 268435456
theorem sm_le {a b : Nat} : sm a b ≤ a + b ∧ sm a b ≤ 268435456 := by
  unfold sm
  by_cases h : a + b < 268435456
  · rw [if_pos h]; omega
  · rw [if_neg h]; omega
theorem sm_eq {a b : Nat} (h : sm a b < 268435456) : sm a b = a + b ∧ a < 268435456 ∧ b < 268435456 := by
  unfold sm at *
  by_cases g : a + b < 268435456
  · rw [if_pos g]; omega
  · rw [if_neg g] at h; omega
def cO (c : nN → Nat) (o : Option Nat) (s : Nat) : Nat := match o with
  | none => 268435456
  | some k => c (k, s)
def smO (g : Nat → Nat) : Nat → Nat
  | 0 => 0
  | k + 1 => sm (smO g k) (g k)
theorem ite_mI {a b : Nat} (ha : a < 2 ^ 31) (hb : b < 2 ^ 31) : (if mI a < mI b then mI a else mI b) = mI (if a < b then a else b) := by
  by_cases h : a < b
  · rw [if_pos h, if_pos (by rw [nlt ha hb]; exact h)]
  · rw [if_neg h, if_neg (by rw [nlt ha hb]; exact h)]
theorem bit_s : ∀ s, s < 8 → ∀ m, m < 3 → (((mI s >>> (mI m &&& 31)) &&& 1 = 1) ↔ s.testBit m = true) := by decide
theorem or_s : ∀ s, s < 8 → ∀ m, m < 3 → mI s ||| (1 <<< (mI m &&& 31)) = mI (s ||| 2 ^ m) := by decide
theorem loopM {R : Type} {f : Nat → Int32 → Option R} {g : Nat → Nat} {N : Nat} {r : Nat → R} (h : ∀ k, k < N → ∀ v, v ≤ 268435456 → f k (mI v) = f (k + 1) (mI (if g k < v then g k else v))) (he : ∀ v, v ≤ 268435456 → f N (mI v) = some (r v)) : f 0 268435456 = some (r (mnO g N)) := by
  have key : ∀ k, k ≤ N → f 0 268435456 = f k (mI (mnO g k)) := by
    intro k
    induction k with
    | zero => intro _; rfl
    | succ k ih =>
      intro hk
      rw [ih (by omega), h k (by omega) _ (mnO_le k).1]
      rfl
  rw [key N (Nat.le_refl _), he _ (mnO_le N).1]
theorem loopS {R : Type} {f : Nat → Int32 → Option R} {g : Nat → Nat} {N : Nat} {r : Nat → R} (h : ∀ k, k < N → ∀ v, v ≤ 268435456 → f k (mI v) = f (k + 1) (mI (sm v (g k)))) (he : ∀ v, v ≤ 268435456 → f N (mI v) = some (r v)) : f 0 0 = some (r (smO g N)) := by
  have hle : ∀ k, smO g k ≤ 268435456 := by
    intro k
    cases k with
    | zero => exact Nat.zero_le _
    | succ k => exact sm_le.2
  have key : ∀ k, k ≤ N → f 0 0 = f k (mI (smO g k)) := by
    intro k
    induction k with
    | zero => intro _; rfl
    | succ k ih =>
      intro hk
      rw [ih (by omega), h k (by omega) _ (hle k)]
      rfl
  rw [key N (Nat.le_refl _), he _ (hle N)]
abbrev sgm (s : Nat) (l : List Nat) : List nN := l.map (fun i => (i, s))
theorem sum_1 {c : nN → Nat} {s i : Nat} : sumC c (sgm s [i]) = c (i, s) := by simp [sumC]
theorem sum_2 {c : nN → Nat} {s i j : Nat} : sumC c (sgm s [i, j]) = c (i, s) + c (j, s) := by simp [sumC]
theorem sum_3 {c : nN → Nat} {s i j m : Nat} : sumC c (sgm s [i, j, m]) = c (i, s) + (c (j, s) + c (m, s)) := by simp [sumC]
theorem sum_r {c : nN → Nat} {s N : Nat} {f : Nat → Nat} : sumC c (sgm s ((List.range (N + 1)).map f)) = sumC c (sgm s ((List.range N).map f)) + c (f N, s) := by
  unfold sumC sgm
  rw [List.range_succ, List.map_append, List.map_append, List.map_append, List.sum_append]
  simp
section PVs
variable {D p k s r : Nat} {S : List (List Nat)} {A : List Nat} {tl H : Nat → Prop} {q : Nat → Nat} {c : nN → Nat} {pv : Nat}
/-- what a rule's premises cost at least -/
def PX (D : Nat) (S : List (List Nat)) (A : List Nat) (tl H : Nat → Prop) (q : Nat → Nat) (p : Nat) (c : nN → Nat) (r k s pv : Nat) : Prop := pv ≤ 268435456 ∧ (pv < 268435456 → ∃ ps b', INS D S A tl H q p r (k, s) ps (lcO S q p r k + b') ∧ pv = b' + sumC c ps) ∧ ∀ ps b, INS D S A tl H q p r (k, s) ps b → ∃ b', b = lcO S q p r k + b' ∧ pv ≤ b' + sumC c ps
theorem PX.bv (h : PX D S A tl H q p c r k s pv) : BV (INS D S A tl H q p) c r (k, s) (lmt (sm pv (lcO S q p r k))) := by
  obtain ⟨h1, h2, h3⟩ := h
  refine ⟨lmt_far, fun z => ?_, fun ps b hI => ?_⟩
  · have g : sm pv (lcO S q p r k) ≤ 99999 := by
      refine Classical.byContradiction fun g => ?_
      unfold lmt at z
      rw [if_neg g] at z
      exact Nat.lt_irrefl _ z
    have e : lmt (sm pv (lcO S q p r k)) = sm pv (lcO S q p r k) := if_pos g
    obtain ⟨e1, e2, -⟩ := sm_eq (a := pv) (b := lcO S q p r k) (by omega)
    obtain ⟨ps, b', i1, i2⟩ := h2 e2
    exact ⟨ps, _, i1, by omega, by omega⟩
  · obtain ⟨b', i1, i2⟩ := h3 ps b hI
    have := (sm_le (a := pv) (b := lcO S q p r k)).1
    exact lmt_mono (by omega)
/-- steps -/
def PV (D : Nat) (S : List (List Nat)) (c : nN → Nat) (r k s pv : Nat) : Prop := pv ≤ 268435456 ∧ (pv < 268435456 → ∃ l, ST D S r k l ∧ pv = sumC c (sgm s l)) ∧ ∀ l, ST D S r k l → pv ≤ sumC c (sgm s l)
theorem PV.px (hs : s < 2 ^ A.length) (hH : H r) (hr : r ≠ 0 ∧ r ≠ 1 ∧ r ≠ 10 ∧ r ≠ 14) (h : PV D S c r k s pv) : PX D S A tl H q p c r k s pv := by
  obtain ⟨h1, h2, h3⟩ := h
  refine ⟨h1, fun z => ?_, fun ps b hI => ?_⟩
  · obtain ⟨l, i1, i2⟩ := h2 z
    exact ⟨sgm s l, 0, ⟨i1.lt.1, hs, hH, Or.inr (Or.inr (Or.inr (Or.inr ⟨l, i1, rfl, rfl⟩)))⟩, by omega⟩
  · obtain ⟨g1, g2, g3, ⟨g4, -⟩ | ⟨g4, -⟩ | ⟨g4, -⟩ | ⟨g4, -⟩ | ⟨l, g4, rfl, rfl⟩⟩ := hI
    · exact absurd g4 hr.1
    · exact absurd g4 hr.2.1
    · exact absurd g4 hr.2.2.1
    · exact absurd g4 hr.2.2.2
    · exact ⟨0, rfl, by have := h3 l g4; simpa using this⟩
theorem pv_none (h : ∀ l, ¬ ST D S r k l) : PV D S c r k s 268435456 := ⟨Nat.le_refl _, fun z => absurd z (Nat.lt_irrefl _), fun l hl => absurd hl (h l)⟩
/-- the least over a row -/
theorem pv_min {g : Nat → Nat} {N : Nat} (h1 : ∀ i, i < N → g i < 268435456 → ∃ l, ST D S r k l ∧ g i = sumC c (sgm s l)) (h2 : ∀ l, ST D S r k l → (∃ i, i < N ∧ g i ≤ sumC c (sgm s l))) : PV D S c r k s (mnO g N) := by
  refine ⟨(mnO_le N).1, fun z => ?_, fun l hl => ?_⟩
  · obtain ⟨i, i1, i2⟩ := mnO_at N z
    rw [i2] at z ⊢
    exact h1 i i1 z
  · obtain ⟨i, i1, i2⟩ := h2 l hl
    exact Nat.le_trans ((mnO_le N).2 i i1) i2
/-- one -/
theorem pv_one {v : Nat} (h0 : v ≤ 268435456) (h1 : v < 268435456 → ∃ l, ST D S r k l ∧ v = sumC c (sgm s l)) (h2 : ∀ l, ST D S r k l → v ≤ sumC c (sgm s l)) : PV D S c r k s v := ⟨h0, h1, h2⟩
theorem cO_lt {o : Option Nat} (h : cO c o s < 268435456) : ∃ i, o = some i ∧ cO c o s = c (i, s) := by
  cases o with
  | none => exact absurd h (Nat.lt_irrefl _)
  | some i => exact ⟨i, rfl, rfl⟩
theorem smO_sum {f : Nat → Nat} {o : Nat → Option Nat} : ∀ N, smO (fun t => cO c (o t) s) N < 268435456 → (∀ t, t < N → o t = some ((o t).getD 0)) ∧ smO (fun t => cO c (o t) s) N = sumC c (sgm s ((List.range N).map (fun t => (o t).getD 0))) := by
  intro N
  induction N with
  | zero => intro _; exact ⟨fun t ht => absurd ht (Nat.not_lt_zero _), rfl⟩
  | succ N ih =>
    intro h
    obtain ⟨e1, e2, e3⟩ := sm_eq (a := smO (fun t => cO c (o t) s) N) (b := cO c (o N) s) h
    obtain ⟨i1, i2⟩ := ih e2
    obtain ⟨j, j1, j2⟩ := cO_lt e3
    refine ⟨fun t ht => ?_, ?_⟩
    · by_cases g : t = N
      · rw [g, j1]; rfl
      · exact i1 t (by omega)
    · rw [sum_r]
      show sm _ _ = _
      rw [e1, i2, j1]
      rfl
theorem smO_le {f : Nat → Nat} {o : Nat → Option Nat} : ∀ N, (∀ t, t < N → o t = some (f t)) → smO (fun t => cO c (o t) s) N ≤ sumC c (sgm s ((List.range N).map f)) := by
  intro N
  induction N with
  | zero => intro _; exact Nat.zero_le _
  | succ N ih =>
    intro h
    have h1 := ih (fun t ht => h t (by omega))
    have h2 := (sm_le (a := smO (fun t => cO c (o t) s) N) (b := cO c (o N) s)).1
    rw [sum_r]
    have h3 : cO c (o N) s = c (f N, s) := by rw [h N (by omega)]; rfl
    show sm (smO (fun t => cO c (o t) s) N) (cO c (o N) s) ≤ _
    omega
end PVs
