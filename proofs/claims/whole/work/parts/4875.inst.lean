/-! the instances of the rules among what is looked at -/
def opO (S : List (List Nat)) (k : Nat) : Nat := (at0 S k).headD 0
noncomputable def lfO (S : List (List Nat)) (k : Nat) : Option Nat := match at0 S k with
  | [] => none
  | s :: r => if ar s = 2 then pos S (spl r).1 else if s = 12 then pos S r else none
noncomputable def rtO (S : List (List Nat)) (k : Nat) : Option Nat := match at0 S k with
  | [] => none
  | s :: r => if ar s = 2 then pos S (spl r).2 else none
def plO (S : List (List Nat)) (k t : Nat) : Option Nat := match at0 S k with
  | [] => none
  | s :: r => if s = 16 ∨ s = 17 then pos S (r.map (ins (some t))) else none
section OPS
variable {S : List (List Nat)} {k s t : Nat} {a b : List Nat}
theorem op_c (h : at0 S k = s :: a) : opO S k = s := by unfold opO; rw [h]; rfl
theorem lf_2 (h : at0 S k = s :: (a ++ b)) (h2 : ar s = 2) (ha : wff a) : lfO S k = pos S a := by
  unfold lfO; rw [h]; dsimp only; rw [if_pos h2, spl_app ha]
theorem rt_2 (h : at0 S k = s :: (a ++ b)) (h2 : ar s = 2) (ha : wff a) : rtO S k = pos S b := by
  unfold rtO; rw [h]; dsimp only; rw [if_pos h2, spl_app ha]
theorem lf_n (h : at0 S k = 12 :: a) : lfO S k = pos S a := by
  unfold lfO; rw [h]; rfl
theorem lf_o (h : at0 S k = s :: a) (h2 : ar s ≠ 2) (h3 : s ≠ 12) : lfO S k = none := by
  unfold lfO; rw [h]; dsimp only; rw [if_neg h2, if_neg h3]
theorem rt_o (h : at0 S k = s :: a) (h2 : ar s ≠ 2) : rtO S k = none := by
  unfold rtO; rw [h]; dsimp only; rw [if_neg h2]
theorem pl_q (h : at0 S k = s :: a) (hs : s = 16 ∨ s = 17) : plO S k t = pos S (a.map (ins (some t))) := by
  unfold plO; rw [h]; dsimp only; rw [if_pos hs]
theorem pl_o (h : at0 S k = s :: a) (hs : ¬ (s = 16 ∨ s = 17)) : plO S k t = none := by
  unfold plO; rw [h]; dsimp only; rw [if_neg hs]
theorem lf_lt {i : Nat} (h : lfO S k = some i) : i < S.length := by
  unfold lfO at h
  split at h
  · cases h
  · split at h
    · exact (pos_some h).1
    · split at h
      · exact (pos_some h).1
      · cases h
theorem rt_lt {i : Nat} (h : rtO S k = some i) : i < S.length := by
  unfold rtO at h
  split at h
  · cases h
  · split at h
    · exact (pos_some h).1
    · cases h
theorem pl_lt {i : Nat} (h : plO S k t = some i) : i < S.length := by
  unfold plO at h
  split at h
  · cases h
  · split at h
    · exact (pos_some h).1
    · cases h
end OPS
/-- the assumed: at most three places -/
noncomputable def asm (S : List (List Nat)) : Nat → List Nat
  | 0 => []
  | k + 1 => if (asm S k).length < 3 ∧ opO S k = 15 then (match lfO S k with | none => asm S k | some i => if i ∈ asm S k then asm S k else asm S k ++ [i]) else asm S k
theorem asm_ok {S : List (List Nat)} : ∀ k, (asm S k).length ≤ 3 ∧ (asm S k).Nodup ∧ ∀ i ∈ asm S k, i < S.length := by
  intro k
  induction k with
  | zero => exact ⟨by simp [asm], by simp [asm], fun i hi => by simp [asm] at hi⟩
  | succ k ih =>
    unfold asm
    by_cases h : (asm S k).length < 3 ∧ opO S k = 15
    · rw [if_pos h]
      cases e : lfO S k with
      | none => exact ih
      | some i =>
        dsimp only
        by_cases g : i ∈ asm S k
        · rw [if_pos g]; exact ih
        · rw [if_neg g]
          refine ⟨by simp; omega, ?_, fun j hj => ?_⟩
          · rw [List.nodup_append]
            refine ⟨ih.2.1, by simp, fun x hx b hb => ?_⟩
            simp at hb
            intro z
            rw [hb] at z
            rw [z] at hx
            exact g hx
          · rcases List.mem_append.mp hj with q | q
            · exact ih.2.2 j q
            · simp at q; rw [q]; exact lf_lt e
    · rw [if_neg h]; exact ih
/-- steps with premises under the same assumptions -/
def ST (D : Nat) (S : List (List Nat)) (r k : Nat) (l : List Nat) : Prop := k < S.length ∧ match r with
  | 2 => opO S k = 13 ∧ ∃ i j, lfO S k = some i ∧ rtO S k = some j ∧ l = [i, j]
  | 3 => ∃ i, i < S.length ∧ opO S i = 13 ∧ lfO S i = some k ∧ l = [i]
  | 4 => ∃ i, i < S.length ∧ opO S i = 13 ∧ rtO S i = some k ∧ l = [i]
  | 5 => opO S k = 14 ∧ ∃ i, lfO S k = some i ∧ l = [i]
  | 6 => opO S k = 14 ∧ ∃ i, rtO S k = some i ∧ l = [i]
  | 7 => ∃ i j, i < S.length ∧ opO S i = 15 ∧ rtO S i = some k ∧ lfO S i = some j ∧ l = [j, i]
  | 8 => ∃ i, i < S.length ∧ at0 S i = 12 :: 12 :: at0 S k ∧ l = [i]
  | 9 => ∃ i j m a b, i < S.length ∧ at0 S i = 14 :: (a ++ b) ∧ wff a ∧ wff b ∧ pos S (15 :: (a ++ at0 S k)) = some j ∧ pos S (15 :: (b ++ at0 S k)) = some m ∧ l = [i, j, m]
  | 11 => ∃ i t, i < S.length ∧ opO S i = 16 ∧ t < D ∧ plO S i t = some k ∧ l = [i]
  | 12 => opO S k = 16 ∧ ∃ f : Nat → Nat, (∀ t, t < D → plO S k t = some (f t)) ∧ l = (List.range D).map f
  | 13 => opO S k = 17 ∧ ∃ i t, t < D ∧ plO S k t = some i ∧ l = [i]
  | _ => False
theorem ST.r {D r k : Nat} {S : List (List Nat)} {l : List Nat} (h : ST D S r k l) : 2 ≤ r ∧ r ≤ 13 ∧ r ≠ 10 := by
  have h2 := h.2
  split at h2
  all_goals first | (exact h2.elim) | decide
theorem ST.c {D r k : Nat} {S : List (List Nat)} {l : List Nat} (h : ST D S r k l) : r = 2 ∨ r = 3 ∨ r = 4 ∨ r = 5 ∨ r = 6 ∨ r = 7 ∨ r = 8 ∨ r = 9 ∨ r = 11 ∨ r = 12 ∨ r = 13 := by
  have := h.r
  omega
theorem ST.lt {D r k : Nat} {S : List (List Nat)} {l : List Nat} (h : ST D S r k l) : k < S.length ∧ ∀ i ∈ l, i < S.length := by
  refine ⟨h.1, ?_⟩
  rcases h.c with rfl | rfl | rfl | rfl | rfl | rfl | rfl | rfl | rfl | rfl | rfl
  · obtain ⟨-, i, j, h1, h2, rfl⟩ := h.2
    simp only [List.mem_cons, List.not_mem_nil, or_false, forall_eq_or_imp, forall_eq]
    exact ⟨lf_lt h1, rt_lt h2⟩
  · obtain ⟨i, h1, -, -, rfl⟩ := h.2
    simpa using h1
  · obtain ⟨i, h1, -, -, rfl⟩ := h.2
    simpa using h1
  · obtain ⟨-, i, h1, rfl⟩ := h.2
    simpa using lf_lt h1
  · obtain ⟨-, i, h1, rfl⟩ := h.2
    simpa using rt_lt h1
  · obtain ⟨i, j, h1, -, -, h2, rfl⟩ := h.2
    simp only [List.mem_cons, List.not_mem_nil, or_false, forall_eq_or_imp, forall_eq]
    exact ⟨lf_lt h2, h1⟩
  · obtain ⟨i, h1, -, rfl⟩ := h.2
    simpa using h1
  · obtain ⟨i, j, m, a, b, h1, -, -, -, h2, h3, rfl⟩ := h.2
    simp only [List.mem_cons, List.not_mem_nil, or_false, forall_eq_or_imp, forall_eq]
    exact ⟨h1, (pos_some h2).1, (pos_some h3).1⟩
  · obtain ⟨i, t, h1, -, -, -, rfl⟩ := h.2
    simpa using h1
  · obtain ⟨-, f, h1, rfl⟩ := h.2
    intro i hi
    obtain ⟨t, ht, rfl⟩ := List.mem_map.mp hi
    exact pl_lt (h1 t (List.mem_range.mp ht))
  · obtain ⟨-, i, t, -, h1, rfl⟩ := h.2
    simpa using pl_lt h1
/-- what a line costs -/
def lcO (S : List (List Nat)) (q : Nat → Nat) (p r k : Nat) : Nat := q r + (at0 S k).length * p
/-- the instances -/
def INS (D : Nat) (S : List (List Nat)) (A : List Nat) (tol H : Nat → Prop) (q : Nat → Nat) (p r : Nat) (x : nN) (ps : List nN) (b : Nat) : Prop := x.1 < S.length ∧ x.2 < 2 ^ A.length ∧ H r ∧
  ((r = 0 ∧ tol x.1 ∧ ps = [] ∧ b = lcO S q p 0 x.1) ∨
   (r = 1 ∧ (∃ m, m < A.length ∧ A.getD m 0 = x.1 ∧ x.2.testBit m = true) ∧ ps = [] ∧ b = lcO S q p 1 x.1) ∨
   (r = 10 ∧ H 1 ∧ opO S x.1 = 15 ∧ ∃ i j m, lfO S x.1 = some i ∧ m < A.length ∧ A.getD m 0 = i ∧ rtO S x.1 = some j ∧ ps = [(j, x.2 ||| 2 ^ m)] ∧ b = lcO S q p 10 x.1 + lcO S q p 1 i) ∨
   (r = 14 ∧ (∃ i j, i < S.length ∧ opO S i = 12 ∧ lfO S i = some j ∧ ps = [(j, x.2), (i, x.2)]) ∧ b = lcO S q p 14 x.1) ∨
   ∃ l, ST D S r x.1 l ∧ ps = l.map (fun i => (i, x.2)) ∧ b = lcO S q p r x.1)
section INSs
variable {D p r b : Nat} {S : List (List Nat)} {A : List Nat} {tol H : Nat → Prop} {q : Nat → Nat} {x : nN} {ps : List nN}
theorem INS.lt (h : INS D S A tol H q p r x ps b) : x.1 < S.length ∧ x.2 < 2 ^ A.length ∧ r ≤ 14 ∧ H r ∧ ∀ y ∈ ps, y.1 < S.length ∧ y.2 < 2 ^ A.length ∧ x.2 ≤ y.2 := by
  obtain ⟨h1, h2, h3, ⟨rfl, -, rfl, -⟩ | ⟨rfl, -, rfl, -⟩ | ⟨rfl, -, -, i, j, m, -, h5, -, h6, rfl, -⟩ | ⟨rfl, ⟨i, j, h5, -, h6, rfl⟩, -⟩ | ⟨l, h4, rfl, -⟩⟩ := h
  · exact ⟨h1, h2, by decide, h3, fun y hy => by cases hy⟩
  · exact ⟨h1, h2, by decide, h3, fun y hy => by cases hy⟩
  · refine ⟨h1, h2, by decide, h3, fun y hy => ?_⟩
    simp at hy
    subst hy
    exact ⟨rt_lt h6, Nat.or_lt_two_pow h2 (Nat.pow_lt_pow_right (by decide) h5), Nat.left_le_or⟩
  · refine ⟨h1, h2, by decide, h3, fun y hy => ?_⟩
    simp at hy
    rcases hy with rfl | rfl
    · exact ⟨lf_lt h6, h2, Nat.le_refl _⟩
    · exact ⟨h5, h2, Nat.le_refl _⟩
  · refine ⟨h1, h2, by have := h4.r; omega, h3, fun y hy => ?_⟩
    obtain ⟨i, hi, rfl⟩ := List.mem_map.mp hy
    exact ⟨h4.lt.2 i hi, h2, Nat.le_refl _⟩
/-- the least of a rule under given costs -/
def BV (I : Nat → nN → List nN → Nat → Prop) (c : nN → Nat) (r : Nat) (x : nN) (v : Nat) : Prop := v ≤ 268435456 ∧ (v < 268435456 → ∃ ps b, I r x ps b ∧ v = b + sumC c ps ∧ v ≤ 99999) ∧ ∀ ps b, I r x ps b → v ≤ lmt (b + sumC c ps)
end INSs
/-- a least one in a row -/
def mnO (g : Nat → Nat) : Nat → Nat
  | 0 => 268435456
  | k + 1 => if g k < mnO g k then g k else mnO g k
theorem mnO_le {g : Nat → Nat} : ∀ N, mnO g N ≤ 268435456 ∧ ∀ k, k < N → mnO g N ≤ g k := by
  intro N
  induction N with
  | zero => exact ⟨Nat.le_refl _, fun k hk => absurd hk (Nat.not_lt_zero _)⟩
  | succ N ih =>
    unfold mnO
    by_cases h : g N < mnO g N
    · rw [if_pos h]
      refine ⟨by omega, fun k hk => ?_⟩
      by_cases e : k = N
      · rw [e]; exact Nat.le_refl _
      · have := ih.2 k (by omega); omega
    · rw [if_neg h]
      refine ⟨ih.1, fun k hk => ?_⟩
      by_cases e : k = N
      · rw [e]; omega
      · exact ih.2 k (by omega)
theorem mnO_at {g : Nat → Nat} : ∀ N, mnO g N < 268435456 → ∃ k, k < N ∧ mnO g N = g k := by
  intro N
  induction N with
  | zero => intro h; exact absurd h (Nat.lt_irrefl _)
  | succ N ih =>
    unfold mnO
    by_cases h : g N < mnO g N
    · rw [if_pos h]; exact fun _ => ⟨N, by omega, rfl⟩
    · rw [if_neg h]
      intro z
      obtain ⟨k, h1, h2⟩ := ih z
      exact ⟨k, by omega, h2⟩
