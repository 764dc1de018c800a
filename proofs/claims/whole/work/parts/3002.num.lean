/-! numbers that are counts -/
abbrev nI (k : Nat) : Int32 := Int32.ofNat k
theorem nI_nat {k : Nat} (h : k < 2 ^ 31) : (nI k).toNatClampNeg = k := Int32.toNatClampNeg_ofNat_of_lt h
theorem nI_int {k : Nat} (h : k < 2 ^ 31) : (nI k).toInt = (k : Int) := Int32.toInt_ofNat_of_lt h
theorem nI_add (a b : Nat) : nI a + nI b = nI (a + b) := (Int32.ofNat_add a b).symm
theorem nI_mul (a b : Nat) : nI a * nI b = nI (a * b) := (Int32.ofNat_mul a b).symm
theorem nI_sub {a b : Nat} (h : b ≤ a) : nI a - nI b = nI (a - b) := (Int32.ofNat_sub a b h).symm
theorem nI_lt {a b : Nat} (ha : a < 2 ^ 31) (hb : b < 2 ^ 31) : nI a < nI b ↔ a < b := Int32.ofNat_lt_iff_lt ha hb
theorem nI_le {a b : Nat} (ha : a < 2 ^ 31) (hb : b < 2 ^ 31) : nI a ≤ nI b ↔ a ≤ b := Int32.ofNat_le_iff_le ha hb
theorem nI_inj {a b : Nat} (ha : a < 2 ^ 31) (hb : b < 2 ^ 31) : nI a = nI b ↔ a = b := by
  constructor
  · intro h
    have := congrArg Int32.toNatClampNeg h
    rw [nI_nat ha, nI_nat hb] at this
    exact this
  · intro h; rw [h]
theorem nI_0 {a : Nat} (ha : a < 2 ^ 31) : ¬ nI a < 0 := by
  rw [show (0 : Int32) = nI 0 from rfl, nI_lt ha (by decide)]
  omega
theorem nI_m1 {a : Nat} (ha : a < 2 ^ 31) : ¬ nI a = -1 := by
  intro h
  have := congrArg Int32.toInt h
  rw [nI_int ha] at this
  have e : (-1 : Int32).toInt = -1 := rfl
  rw [e] at this
  omega
theorem nI_out {a N : Nat} (ha : a < N) (hN : N ≤ 2 ^ 31) : s_out (nI a) N = false := by
  unfold s_out
  rw [nI_nat (by omega), Bool.or_eq_false_iff]
  exact ⟨decide_eq_false (nI_0 (by omega)), decide_eq_false (by omega)⟩
/-- an int that isn't negative is a count -/
theorem nI_of {x : Int32} (h : ¬ x < 0) : ∃ a, a < 2 ^ 31 ∧ x = nI a := by
  have h0 : 0 ≤ x := by
    rw [Int32.le_iff_toInt_le]
    rw [Int32.lt_iff_toInt_lt] at h
    omega
  exact ⟨x.toNatClampNeg, Int32.toNatClampNeg_lt x, (Int32.ofNat_toNatClampNeg x h0).symm⟩
/-- within 0 .. F - 1, or not -/
theorem nI_in {x : Int32} {F : Nat} (hF : F < 2 ^ 31) : (¬ x < 0 ∧ ¬ nI F ≤ x) ↔ ∃ a, a < F ∧ x = nI a := by
  constructor
  · rintro ⟨h1, h2⟩
    obtain ⟨a, ha, rfl⟩ := nI_of h1
    rw [nI_le hF ha] at h2
    exact ⟨a, by omega, rfl⟩
  · rintro ⟨a, ha, rfl⟩
    exact ⟨nI_0 (by omega), by rw [nI_le hF (by omega)]; omega⟩
/-- a loop of a label machine: the run from its first round is the run from its last -/
theorem s_loop {L R : Type} {run : L → Option R} {f : Nat → L} {N : Nat} (h : ∀ k, k < N → run (f k) = run (f (k + 1))) : run (f 0) = run (f N) := by
  induction N with
  | zero => rfl
  | succ N ih => rw [ih (fun k hk => h k (by omega)), h N (by omega)]
theorem s_loopA {R : Type} {f : Nat → Option R} {a N : Nat} (ha : a ≤ N) (h : ∀ k, a ≤ k → k < N → f k = f (k + 1)) : f a = f N := by
  obtain ⟨d, rfl⟩ := Nat.exists_eq_add_of_le ha
  clear ha
  induction d with
  | zero => rfl
  | succ d ih => rw [ih (fun k h1 h2 => h k h1 (by omega)), h (a + d) (by omega) (by omega)]; rfl
theorem ob {α β : Type} {x : α} {f : α → Option β} : (some x).bind f = f x := rfl
