/-! numbers that are counts -/
abbrev mI (k : Nat) : Int32 := Int32.ofNat k
theorem mI_nat {k : Nat} (h : k < 2 ^ 31) : (mI k).toNatClampNeg = k := Int32.toNatClampNeg_ofNat_of_lt h
theorem mI_int {k : Nat} (h : k < 2 ^ 31) : (mI k).toInt = (k : Int) := Int32.toInt_ofNat_of_lt h
theorem mI_add (a b : Nat) : mI a + mI b = mI (a + b) := (Int32.ofNat_add a b).symm
theorem mI_mul (a b : Nat) : mI a * mI b = mI (a * b) := (Int32.ofNat_mul a b).symm
theorem mI_sub {a b : Nat} (h : b ≤ a) : mI a - mI b = mI (a - b) := (Int32.ofNat_sub a b h).symm
theorem mI_lt {a b : Nat} (ha : a < 2 ^ 31) (hb : b < 2 ^ 31) : mI a < mI b ↔ a < b := Int32.ofNat_lt_iff_lt ha hb
theorem mI_le {a b : Nat} (ha : a < 2 ^ 31) (hb : b < 2 ^ 31) : mI a ≤ mI b ↔ a ≤ b := Int32.ofNat_le_iff_le ha hb
theorem mI_inj {a b : Nat} (ha : a < 2 ^ 31) (hb : b < 2 ^ 31) : mI a = mI b ↔ a = b := by
  constructor
  · intro h
    have := congrArg Int32.toNatClampNeg h
    rw [mI_nat ha, mI_nat hb] at this
    exact this
  · intro h; rw [h]
theorem mI_0 {a : Nat} (ha : a < 2 ^ 31) : ¬ mI a < 0 := by
  rw [show (0 : Int32) = mI 0 from rfl, mI_lt ha (by decide)]
  omega
theorem mI_m1 {a : Nat} (ha : a < 2 ^ 31) : ¬ mI a = -1 := by
  intro h
  have := congrArg Int32.toInt h
  rw [mI_int ha] at this
  have e : (-1 : Int32).toInt = -1 := rfl
  rw [e] at this
  omega
theorem mI_out {a N : Nat} (ha : a < N) (hN : N ≤ 2 ^ 31) : s_out (mI a) N = false := by
  unfold s_out
  rw [mI_nat (by omega), Bool.or_eq_false_iff]
  exact ⟨decide_eq_false (mI_0 (by omega)), decide_eq_false (by omega)⟩
/-- an int that isn't negative is a count -/
theorem mI_of {x : Int32} (h : ¬ x < 0) : ∃ a, a < 2 ^ 31 ∧ x = mI a := by
  have h0 : 0 ≤ x := by
    rw [Int32.le_iff_toInt_le]
    rw [Int32.lt_iff_toInt_lt] at h
    omega
  exact ⟨x.toNatClampNeg, Int32.toNatClampNeg_lt x, (Int32.ofNat_toNatClampNeg x h0).symm⟩
/-- within 0 .. F - 1, or not -/
theorem mI_in {x : Int32} {F : Nat} (hF : F < 2 ^ 31) : (¬ x < 0 ∧ ¬ mI F ≤ x) ↔ ∃ a, a < F ∧ x = mI a := by
  constructor
  · rintro ⟨h1, h2⟩
    obtain ⟨a, ha, rfl⟩ := mI_of h1
    rw [mI_le hF ha] at h2
    exact ⟨a, by omega, rfl⟩
  · rintro ⟨a, ha, rfl⟩
    exact ⟨mI_0 (by omega), by rw [mI_le hF (by omega)]; omega⟩
/-- a loop of a label machine: the run from its first round is the run from its last -/
theorem s_loop {L R : Type} {run : L → Option R} {f : Nat → L} {N : Nat} (h : ∀ k, k < N → run (f k) = run (f (k + 1))) : run (f 0) = run (f N) := by
  induction N with
  | zero => rfl
  | succ N ih => rw [ih (fun k hk => h k (by omega)), h N (by omega)]
theorem s_loopA {R : Type} {f : Nat → Option R} {a N : Nat} (ha : a ≤ N) (h : ∀ k, a ≤ k → k < N → f k = f (k + 1)) : f a = f N := by
  obtain ⟨d, rfl⟩ := Nat.exists_eq_add_of_le ha
  clear ha
  induction d with
  | zero => rfl
  | succ d ih => rw [ih (fun k h1 h2 => h k h1 (by omega)), h (a + d) (by omega) (by omega)]; rfl
theorem ob {α β : Type} {x : α} {f : α → Option β} : (some x).bind f = f x := rfl
