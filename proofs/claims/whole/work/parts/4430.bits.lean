/-! counting bits, the least bit -/
def cnt (f : Nat → Bool) : Nat → Nat
  | 0 => 0
  | k + 1 => cnt f k + (f k).toNat
theorem cnt_congr {f g : Nat → Bool} {k : Nat} (h : ∀ i, i < k → f i = g i) : cnt f k = cnt g k := by
  induction k with
  | zero => rfl
  | succ k ih => show cnt f k + (f k).toNat = cnt g k + (g k).toNat; rw [ih fun i hi => h i (by omega), h k (by omega)]
theorem cnt_le {f : Nat → Bool} {k : Nat} : cnt f k ≤ k := by
  induction k with
  | zero => exact Nat.le_refl _
  | succ k ih =>
    show cnt f k + (f k).toNat ≤ k + 1
    have : (f k).toNat ≤ 1 := by cases f k <;> decide
    omega
def mk5 : Nat → Nat
  | 0 => 0
  | k + 1 => 85 + 256 * mk5 k
def mk3 : Nat → Nat
  | 0 => 0
  | k + 1 => 51 + 256 * mk3 k
def mkF : Nat → Nat
  | 0 => 0
  | k + 1 => 15 + 256 * mkF k
def pA (k n : Nat) : Nat := n - ((n / 2) &&& mk5 k)
def pB (k n : Nat) : Nat := (n &&& mk3 k) + ((n / 4) &&& mk3 k)
def pC (k n : Nat) : Nat := (n + n / 16) &&& mkF k
def dig : Nat → Nat → Nat
  | 0, _ => 0
  | k + 1, n => cnt (fun i => (n % 256).testBit i) 8 + 256 * dig k (n / 256)
def dsum : Nat → Nat → Nat
  | 0, _ => 0
  | k + 1, n => cnt (fun i => (n % 256).testBit i) 8 + dsum k (n / 256)
theorem land_b {y c m M : Nat} (hy : y < 256) (hc : c < 256) : (y + 256 * m) &&& (c + 256 * M) = (y &&& c) + 256 * (m &&& M) := by
  apply Nat.eq_of_testBit_eq
  intro i
  have e1 := Nat.testBit_two_pow_mul_add m (i := 8) hy i
  have e2 := Nat.testBit_two_pow_mul_add M (i := 8) hc i
  have e3 := Nat.testBit_two_pow_mul_add (m &&& M) (i := 8) (Nat.and_lt_two_pow y hc) i
  rw [Nat.testBit_and, Nat.add_comm y, Nat.add_comm c, Nat.add_comm (y &&& c)]
  show ((2 ^ 8 * m + y).testBit i && (2 ^ 8 * M + c).testBit i) = (2 ^ 8 * (m &&& M) + (y &&& c)).testBit i
  rw [e1, e2, e3]
  by_cases h : i < 8
  · rw [if_pos h, if_pos h, if_pos h, Nat.testBit_and]
  · rw [if_neg h, if_neg h, if_neg h, Nat.testBit_and]
theorem by_A : ∀ y, y < 256 → ∀ b, b < 2 → (y / 2 + 128 * b) &&& 85 = (y / 2) &&& 85 ∧ (y / 2) &&& 85 ≤ y := by decide +kernel
theorem by_B : ∀ y, y < 256 → ∀ b, b < 4 → (y / 4 + 64 * b) &&& 51 = (y / 4) &&& 51 := by decide +kernel
theorem by_C : ∀ y, y < 69 → ∀ b, b < 5 → (y + y / 16 + 16 * b) &&& 15 = (y + y / 16) &&& 15 := by decide +kernel
def fA (y : Nat) : Nat := y - ((y / 2) &&& 85)
def fB (y : Nat) : Nat := (y &&& 51) + ((y / 4) &&& 51)
theorem by_all : ∀ y, y < 256 → fA y < 256 ∧ fB (fA y) < 69 ∧ fB (fA y) % 16 ≤ 4 ∧ fB (fA y) / 16 ≤ 4 ∧ (fB (fA y) + fB (fA y) / 16) &&& 15 = cnt (fun i => y.testBit i) 8 := by decide +kernel
theorem pA_s {k y m : Nat} (hy : y < 256) : pA (k + 1) (y + 256 * m) = fA y + 256 * pA k m := by
  have h1 := by_A y hy (m % 2) (by omega)
  unfold pA fA
  show y + 256 * m - ((y + 256 * m) / 2 &&& (85 + 256 * mk5 k)) = _
  have e : (y + 256 * m) / 2 = (y / 2 + 128 * (m % 2)) + 256 * (m / 2) := by omega
  have hlt : y / 2 + 128 * (m % 2) < 256 := by omega
  rw [e, land_b hlt (by decide), h1.1]
  have h2 : m / 2 &&& mk5 k ≤ m / 2 := Nat.and_le_left
  have := h1.2
  omega
theorem pB_s {k y m : Nat} (hy : y < 256) : pB (k + 1) (y + 256 * m) = fB y + 256 * pB k m := by
  have h1 := by_B y hy (m % 4) (by omega)
  unfold pB fB
  show (y + 256 * m &&& (51 + 256 * mk3 k)) + ((y + 256 * m) / 4 &&& (51 + 256 * mk3 k)) = _
  have e : (y + 256 * m) / 4 = (y / 4 + 64 * (m % 4)) + 256 * (m / 4) := by omega
  have hlt : y / 4 + 64 * (m % 4) < 256 := by omega
  rw [e, land_b hlt (by decide), land_b hy (by decide), h1]
  omega
theorem pC_s {k y m : Nat} (hy : y < 69) (h4 : y / 16 ≤ 4) (hm : m % 16 ≤ 4) : pC (k + 1) (y + 256 * m) = ((y + y / 16) &&& 15) + 256 * pC k m := by
  have h1 := by_C y hy (m % 16) (by omega)
  unfold pC
  show y + 256 * m + (y + 256 * m) / 16 &&& (15 + 256 * mkF k) = _
  have e : y + 256 * m + (y + 256 * m) / 16 = (y + y / 16 + 16 * (m % 16)) + 256 * (m + m / 16) := by omega
  have hlt : y + y / 16 + 16 * (m % 16) < 256 := by omega
  rw [e, land_b hlt (by decide), h1]
theorem st_dig : ∀ k n, n < 256 ^ k → pC k (pB k (pA k n)) = dig k n ∧ (pB k (pA k n)) % 16 ≤ 4 := by
  intro k
  induction k with
  | zero =>
    intro n h
    have : n = 0 := by simp at h; exact h
    subst this
    exact ⟨by decide, by decide⟩
  | succ k ih =>
    intro n h
    have hm : n / 256 < 256 ^ k := by
      rw [Nat.pow_succ] at h
      exact Nat.div_lt_of_lt_mul (by rw [Nat.mul_comm]; exact h)
    obtain ⟨i1, i2⟩ := ih (n / 256) hm
    have hb := by_all (n % 256) (Nat.mod_lt _ (by decide))
    have e : n = n % 256 + 256 * (n / 256) := by omega
    rw [e, pA_s (Nat.mod_lt _ (by decide)), pB_s hb.1, pC_s hb.2.1 hb.2.2.2.1 i2, i1, hb.2.2.2.2]
    refine ⟨?_, ?_⟩
    · show _ = cnt (fun i => ((n % 256 + 256 * (n / 256)) % 256).testBit i) 8 + 256 * dig k ((n % 256 + 256 * (n / 256)) / 256)
      rw [← e]
    · have := hb.2.2.1
      omega
theorem cnt_b {y m : Nat} (hy : y < 256) : ∀ j, cnt (fun i => (y + 256 * m).testBit i) (8 + j) = cnt (fun i => y.testBit i) 8 + cnt (fun i => m.testBit i) j := by
  intro j
  induction j with
  | zero =>
    show cnt _ 8 = _
    refine cnt_congr fun i hi => ?_
    have e1 := Nat.testBit_two_pow_mul_add m (i := 8) hy i
    rw [if_pos hi] at e1
    rw [Nat.add_comm]
    exact e1
  | succ j ih =>
    show cnt _ (8 + j) + _ = _
    rw [ih]
    have e1 := Nat.testBit_two_pow_mul_add m (i := 8) hy (8 + j)
    rw [if_neg (by omega), Nat.add_sub_cancel_left] at e1
    have e2 : (y + 256 * m).testBit (8 + j) = m.testBit j := by rw [Nat.add_comm]; exact e1
    show _ + ((y + 256 * m).testBit (8 + j)).toNat = _
    rw [e2]
    show _ = _ + (cnt (fun i => m.testBit i) j + (m.testBit j).toNat)
    omega
theorem dsum_cnt : ∀ k n, dsum k n = cnt (fun i => n.testBit i) (8 * k) := by
  intro k
  induction k with
  | zero => intro n; rfl
  | succ k ih =>
    intro n
    show cnt (fun i => (n % 256).testBit i) 8 + dsum k (n / 256) = _
    have e : n = n % 256 + 256 * (n / 256) := by omega
    have := cnt_b (y := n % 256) (m := n / 256) (Nat.mod_lt _ (by decide)) (8 * k)
    rw [← e, show 8 + 8 * k = 8 * (k + 1) by omega] at this
    rw [this, ih]
theorem dig4 {n : Nat} : ((dig 4 n + dig 4 n / 256) + (dig 4 n + dig 4 n / 256) / 65536) % 64 = dsum 4 n ∧ dig 4 n < 151000000 := by
  have c := fun m => cnt_le (f := fun i => m % 256 |>.testBit i) (k := 8)
  have c0 := c n
  have c1 := c (n / 256)
  have c2 := c (n / 256 / 256)
  have c3 := c (n / 256 / 256 / 256)
  simp only [dig, dsum]
  generalize cnt (fun i => (n % 256).testBit i) 8 = a0 at *
  generalize cnt (fun i => (n / 256 % 256).testBit i) 8 = a1 at *
  generalize cnt (fun i => (n / 256 / 256 % 256).testBit i) 8 = a2 at *
  generalize cnt (fun i => (n / 256 / 256 / 256 % 256).testBit i) 8 = a3 at *
  have q1 : (a0 + 256 * (a1 + 256 * (a2 + 256 * (a3 + 256 * 0)))) / 256 = a1 + 256 * (a2 + 256 * (a3 + 256 * 0)) := by omega
  rw [q1]
  have q2 : (a0 + 256 * (a1 + 256 * (a2 + 256 * (a3 + 256 * 0))) + (a1 + 256 * (a2 + 256 * (a3 + 256 * 0)))) / 65536 = (a2 + a3) + 256 * a3 := by omega
  rw [q2]
  omega
theorem sum8 {a0 a1 a2 a3 a4 a5 a6 a7 X1 X2 X3 X4 X5 X6 : Nat} (c0 : a0 ≤ 8) (c1 : a1 ≤ 8) (c2 : a2 ≤ 8) (c3 : a3 ≤ 8) (c4 : a4 ≤ 8) (c5 : a5 ≤ 8) (c6 : a6 ≤ 8) (c7 : a7 ≤ 8) (h1 : X1 = a1 + 256 * X2) (h2 : X2 = a2 + 256 * X3) (h3 : X3 = a3 + 256 * X4) (h4 : X4 = a4 + 256 * X5) (h5 : X5 = a5 + 256 * X6) (h6 : X6 = a6 + 256 * a7) : (((a0 + 256 * X1) + (a0 + 256 * X1) / 256) + ((a0 + 256 * X1) + (a0 + 256 * X1) / 256) / 65536 + (((a0 + 256 * X1) + (a0 + 256 * X1) / 256) + ((a0 + 256 * X1) + (a0 + 256 * X1) / 256) / 65536) / 4294967296) % 128 = a0 + (a1 + (a2 + (a3 + (a4 + (a5 + (a6 + a7)))))) := by
  have d : ∀ l m X : Nat, l < m → 0 < m → (l + m * X) / m = X := fun l m X h h0 => by rw [Nat.add_mul_div_left _ _ h0, Nat.div_eq_of_lt h, Nat.zero_add]
  rw [d a0 256 X1 (by omega) (by decide)]
  have e2 : a0 + 256 * X1 + X1 = (a0 + a1 + 256 * (a1 + a2)) + 65536 * (X2 + X3) := by rw [h1, h2]; omega
  rw [e2, d _ 65536 (X2 + X3) (by omega) (by decide)]
  have e3 : a0 + a1 + 256 * (a1 + a2) + 65536 * (X2 + X3) + (X2 + X3) = ((a0 + a1 + a2 + a3) + 256 * (a1 + a2 + a3 + a4) + 65536 * (a2 + a3 + a4 + a5) + 16777216 * (a3 + a4 + a5 + a6)) + 4294967296 * (X4 + X5 + X6 + a7) := by
    rw [h2, h3, h4, h5, h6]; omega
  rw [e3, d _ 4294967296 (X4 + X5 + X6 + a7) (by omega) (by decide)]
  have e4 : (a0 + a1 + a2 + a3) + 256 * (a1 + a2 + a3 + a4) + 65536 * (a2 + a3 + a4 + a5) + 16777216 * (a3 + a4 + a5 + a6) + 4294967296 * (X4 + X5 + X6 + a7) + (X4 + X5 + X6 + a7) = (a0 + (a1 + (a2 + (a3 + (a4 + (a5 + (a6 + a7))))))) + 128 * (2 * (a1 + a2 + a3 + a4) + 512 * (a2 + a3 + a4 + a5) + 131072 * (a3 + a4 + a5 + a6) + 33554432 * (X4 + X5 + X6 + a7) + 2 * X5 + 2 * X6 + 2 * a7) := by
    rw [h4, h5, h6]; omega
  rw [e4, Nat.add_mul_mod_self_left, Nat.mod_eq_of_lt (by omega)]
theorem dig8 {n : Nat} : (((dig 8 n + dig 8 n / 256) + (dig 8 n + dig 8 n / 256) / 65536) + ((dig 8 n + dig 8 n / 256) + (dig 8 n + dig 8 n / 256) / 65536) / 4294967296) % 128 = dsum 8 n ∧ dig 8 n < 650000000000000000 := by
  have c := fun m => cnt_le (f := fun i => m % 256 |>.testBit i) (k := 8)
  have c0 := c n
  have c1 := c (n / 256)
  have c2 := c (n / 256 / 256)
  have c3 := c (n / 256 / 256 / 256)
  have c4 := c (n / 256 / 256 / 256 / 256)
  have c5 := c (n / 256 / 256 / 256 / 256 / 256)
  have c6 := c (n / 256 / 256 / 256 / 256 / 256 / 256)
  have c7 := c (n / 256 / 256 / 256 / 256 / 256 / 256 / 256)
  refine ⟨?_, ?_⟩
  · have := sum8 c0 c1 c2 c3 c4 c5 c6 c7 rfl rfl rfl rfl rfl rfl
    simp only [dig, dsum, Nat.mul_zero, Nat.add_zero]
    exact this
  · simp only [dig]
    omega
abbrev mL (k : Nat) : Int64 := Int64.ofNat k
theorem mL_of (x : Int64) : ∃ k, k < 2 ^ 64 ∧ x = mL k := ⟨x.toBitVec.toNat, x.toBitVec.isLt, Int64.toBitVec_inj.mp (by show _ = BitVec.ofNat 64 _; simp)⟩
theorem mI_of32 (x : Int32) : ∃ k, k < 2 ^ 32 ∧ x = mI k := ⟨x.toBitVec.toNat, x.toBitVec.isLt, Int32.toBitVec_inj.mp (by show _ = BitVec.ofNat 32 _; simp)⟩
theorem bl_mL {k i : Nat} (hi : i < 64) : bl (mL k) i = k.testBit i := by
  unfold bl
  show (BitVec.ofNat 64 k).getLsbD i = _
  rw [BitVec.getLsbD_ofNat, decide_eq_true hi, Bool.true_and]
theorem mL_shr {a k : Nat} (ha : a < 2 ^ 64) (hk : k < 64) : ((mL a).toUInt64 >>> ((mI k).toInt64.toUInt64 &&& Int64.toUInt64 63)).toInt64 = mL (a / 2 ^ k) := by
  apply bl_ext
  intro i hi
  rw [bl_ushr hk, bl_mL hi, Nat.testBit_div_two_pow]
  by_cases g : k + i < 64
  · rw [bl_mL g, Nat.add_comm]
  · rw [bl_big (by omega), Nat.testBit_lt_two_pow]
    exact Nat.lt_of_lt_of_le ha (Nat.pow_le_pow_right (by decide) (by omega))
theorem mL_and {a b : Nat} : mL a &&& mL b = mL (a &&& b) := by
  apply bl_ext
  intro i hi
  rw [bl_and, bl_mL hi, bl_mL hi, bl_mL hi, Nat.testBit_and]
theorem mI_and {a b : Nat} : mI a &&& mI b = mI (a &&& b) := by
  apply bt_ext
  intro i hi
  rw [bt_and, bt_mI hi, bt_mI hi, bt_mI hi, Nat.testBit_and]
theorem mL_add {a b : Nat} : mL a + mL b = mL (a + b) := (Int64.ofNat_add a b).symm
theorem mL_sub {a b : Nat} (h : b ≤ a) : mL a - mL b = mL (a - b) := (Int64.ofNat_sub a b h).symm
theorem sh_u32 : ∀ n, n < 32 → ((mI n).toUInt32 &&& Int32.toUInt32 31).toNat = n := by decide +kernel
theorem bt_ushr {n : Nat} (hn : n < 32) (x : Int32) (i : Nat) : bt ((x.toUInt32 >>> ((mI n).toUInt32 &&& Int32.toUInt32 31)).toInt32) i = bt x (n + i) := by
  have e : (x.toUInt32 >>> ((mI n).toUInt32 &&& Int32.toUInt32 31)).toInt32.toBitVec = x.toBitVec >>> n := by
    apply BitVec.eq_of_toNat_eq
    show (x.toUInt32 >>> ((mI n).toUInt32 &&& Int32.toUInt32 31)).toNat = _
    rw [UInt32.toNat_shiftRight, sh_u32 n hn, Nat.mod_eq_of_lt hn, BitVec.toNat_ushiftRight]
    rfl
  unfold bt
  rw [e, BitVec.getLsbD_ushiftRight]
theorem mI_shr {a k : Nat} (ha : a < 2 ^ 32) (hk : k < 32) : ((mI a).toUInt32 >>> ((mI k).toUInt32 &&& Int32.toUInt32 31)).toInt32 = mI (a / 2 ^ k) := by
  apply bt_ext
  intro i hi
  rw [bt_ushr hk, bt_mI hi, Nat.testBit_div_two_pow]
  by_cases g : k + i < 32
  · rw [bt_mI g, Nat.add_comm]
  · rw [bt_big (by omega), Nat.testBit_lt_two_pow]
    exact Nat.lt_of_lt_of_le ha (Nat.pow_le_pow_right (by decide) (by omega))
theorem and_le63 {a b : Nat} : a &&& b ≤ b := Nat.and_le_right
theorem j_bitCount64 {σ : sS} (x : Int64) : F_J13_bitCount_95d88 x σ = some (mI (cnt (bl x) 64), σ) := by
  obtain ⟨N, hN, rfl⟩ := mL_of x
  have hd := st_dig 8 N (by rw [show (256 : Nat) ^ 8 = 2 ^ 64 by decide]; exact hN)
  have d8 := dig8 (n := N)
  have hp1 : mk5 8 = 6148914691236517205 := by decide
  have hp3 : mk3 8 = 3689348814741910323 := by decide
  have hpF : mkF 8 = 1085102592571150095 := by decide
  have hA : pA 8 N = N - ((N / 2) &&& 6148914691236517205) := by unfold pA; rw [hp1]
  have lA : N / 2 &&& 6148914691236517205 ≤ N / 2 := Nat.and_le_left
  have hB : pB 8 (pA 8 N) = (pA 8 N &&& 3689348814741910323) + ((pA 8 N / 4) &&& 3689348814741910323) := by unfold pB; rw [hp3]
  have b1 : pA 8 N &&& 3689348814741910323 ≤ 3689348814741910323 := Nat.and_le_right
  have b2 : (pA 8 N / 4) &&& 3689348814741910323 ≤ 3689348814741910323 := Nat.and_le_right
  have hC : pC 8 (pB 8 (pA 8 N)) = (pB 8 (pA 8 N) + pB 8 (pA 8 N) / 16) &&& 1085102592571150095 := by unfold pC; rw [hpF]
  have s1 : mL N - (((mL N).toUInt64 >>> ((1 : Int32).toInt64.toUInt64 &&& Int64.toUInt64 63)).toInt64 &&& 6148914691236517205) = mL (pA 8 N) := by
    rw [show (1 : Int32) = mI 1 from rfl, mL_shr hN (by decide), show (6148914691236517205 : Int64) = mL 6148914691236517205 from rfl, mL_and, mL_sub (by show N / 2 &&& 6148914691236517205 ≤ N; omega), hA]
  generalize pA 8 N = A at *
  have hAlt : A < 2 ^ 64 := by omega
  have s2 : (mL A &&& 3689348814741910323) + (((mL A).toUInt64 >>> ((2 : Int32).toInt64.toUInt64 &&& Int64.toUInt64 63)).toInt64 &&& 3689348814741910323) = mL (pB 8 A) := by
    rw [show (2 : Int32) = mI 2 from rfl, mL_shr hAlt (by decide), show (3689348814741910323 : Int64) = mL 3689348814741910323 from rfl, mL_and, mL_and, mL_add, hB]
  generalize pB 8 A = B at *
  have hBlt : B < 2 ^ 63 := by omega
  have s3 : (mL B + ((mL B).toUInt64 >>> ((4 : Int32).toInt64.toUInt64 &&& Int64.toUInt64 63)).toInt64) &&& 1085102592571150095 = mL (pC 8 B) := by
    rw [show (4 : Int32) = mI 4 from rfl, mL_shr (by omega) (by decide), show (1085102592571150095 : Int64) = mL 1085102592571150095 from rfl, mL_add, mL_and, hC]
  rw [hd.1] at s3
  have s4 : mL (dig 8 N) + ((mL (dig 8 N)).toUInt64 >>> ((8 : Int32).toInt64.toUInt64 &&& Int64.toUInt64 63)).toInt64 = mL (dig 8 N + dig 8 N / 256) := by
    rw [show (8 : Int32) = mI 8 from rfl, mL_shr (by omega) (by decide), mL_add]
  have s5 : mL (dig 8 N + dig 8 N / 256) + ((mL (dig 8 N + dig 8 N / 256)).toUInt64 >>> ((16 : Int32).toInt64.toUInt64 &&& Int64.toUInt64 63)).toInt64 = mL ((dig 8 N + dig 8 N / 256) + (dig 8 N + dig 8 N / 256) / 65536) := by
    rw [show (16 : Int32) = mI 16 from rfl, mL_shr (by omega) (by decide), mL_add]
  have s6 : mL ((dig 8 N + dig 8 N / 256) + (dig 8 N + dig 8 N / 256) / 65536) + ((mL ((dig 8 N + dig 8 N / 256) + (dig 8 N + dig 8 N / 256) / 65536)).toUInt64 >>> ((32 : Int32).toInt64.toUInt64 &&& Int64.toUInt64 63)).toInt64 = mL (((dig 8 N + dig 8 N / 256) + (dig 8 N + dig 8 N / 256) / 65536) + ((dig 8 N + dig 8 N / 256) + (dig 8 N + dig 8 N / 256) / 65536) / 4294967296) := by
    rw [show (32 : Int32) = mI 32 from rfl, mL_shr (by omega) (by decide), mL_add]
  rw [E_J13_bitCount_95d88, E_J13_bitCount_95d88_0, s1, s2, s3, s4, s5, s6, Int64.toInt32_ofNat', show (127 : Int32) = mI 127 from rfl]
  show some (mI _ &&& mI 127, σ) = _
  rw [mI_and, show (127 : Nat) = 2 ^ 7 - 1 by decide, Nat.and_two_pow_sub_one_eq_mod]
  show some (mI (_ % 128), σ) = _
  rw [d8.1, dsum_cnt]
  exact congrArg (fun z => some (mI z, σ)) (cnt_congr fun i hi => (bl_mL hi).symm)
theorem j_bitCount32 {σ : sS} (x : Int32) : F_J6_bitCount_0f7a4 x σ = some (mI (cnt (bt x) 32), σ) := by
  obtain ⟨N, hN, rfl⟩ := mI_of32 x
  have hd := st_dig 4 N (by rw [show (256 : Nat) ^ 4 = 2 ^ 32 by decide]; exact hN)
  have d8 := dig4 (n := N)
  have hp1 : mk5 4 = 1431655765 := by decide
  have hp3 : mk3 4 = 858993459 := by decide
  have hpF : mkF 4 = 252645135 := by decide
  have hA : pA 4 N = N - ((N / 2) &&& 1431655765) := by unfold pA; rw [hp1]
  have lA : N / 2 &&& 1431655765 ≤ N / 2 := Nat.and_le_left
  have hB : pB 4 (pA 4 N) = (pA 4 N &&& 858993459) + ((pA 4 N / 4) &&& 858993459) := by unfold pB; rw [hp3]
  have b1 : pA 4 N &&& 858993459 ≤ 858993459 := Nat.and_le_right
  have b2 : (pA 4 N / 4) &&& 858993459 ≤ 858993459 := Nat.and_le_right
  have hC : pC 4 (pB 4 (pA 4 N)) = (pB 4 (pA 4 N) + pB 4 (pA 4 N) / 16) &&& 252645135 := by unfold pC; rw [hpF]
  have s1 : mI N - (((mI N).toUInt32 >>> ((1 : Int32).toUInt32 &&& Int32.toUInt32 31)).toInt32 &&& 1431655765) = mI (pA 4 N) := by
    rw [show (1 : Int32) = mI 1 from rfl, mI_shr hN (by decide), show (1431655765 : Int32) = mI 1431655765 from rfl, mI_and, mI_sub (by show N / 2 &&& 1431655765 ≤ N; omega), hA]
  generalize pA 4 N = A at *
  have hAlt : A < 2 ^ 32 := by omega
  have s2 : (mI A &&& 858993459) + (((mI A).toUInt32 >>> ((2 : Int32).toUInt32 &&& Int32.toUInt32 31)).toInt32 &&& 858993459) = mI (pB 4 A) := by
    rw [show (2 : Int32) = mI 2 from rfl, mI_shr hAlt (by decide), show (858993459 : Int32) = mI 858993459 from rfl, mI_and, mI_and, mI_add, hB]
  generalize pB 4 A = B at *
  have hBlt : B < 2 ^ 31 := by omega
  have s3 : (mI B + ((mI B).toUInt32 >>> ((4 : Int32).toUInt32 &&& Int32.toUInt32 31)).toInt32) &&& 252645135 = mI (pC 4 B) := by
    rw [show (4 : Int32) = mI 4 from rfl, mI_shr (by omega) (by decide), show (252645135 : Int32) = mI 252645135 from rfl, mI_add, mI_and, hC]
  rw [hd.1] at s3
  have s4 : mI (dig 4 N) + ((mI (dig 4 N)).toUInt32 >>> ((8 : Int32).toUInt32 &&& Int32.toUInt32 31)).toInt32 = mI (dig 4 N + dig 4 N / 256) := by
    rw [show (8 : Int32) = mI 8 from rfl, mI_shr (by omega) (by decide), mI_add]
  have s5 : mI (dig 4 N + dig 4 N / 256) + ((mI (dig 4 N + dig 4 N / 256)).toUInt32 >>> ((16 : Int32).toUInt32 &&& Int32.toUInt32 31)).toInt32 = mI ((dig 4 N + dig 4 N / 256) + (dig 4 N + dig 4 N / 256) / 65536) := by
    rw [show (16 : Int32) = mI 16 from rfl, mI_shr (by omega) (by decide), mI_add]
  rw [E_J6_bitCount_0f7a4, E_J6_bitCount_0f7a4_0, s1, s2, s3, s4, s5, show (63 : Int32) = mI 63 from rfl, mI_and, show (63 : Nat) = 2 ^ 6 - 1 by decide, Nat.and_two_pow_sub_one_eq_mod]
  show some (mI (_ % 64), σ) = _
  rw [d8.1, dsum_cnt]
  exact congrArg (fun z => some (mI z, σ)) (cnt_congr fun i hi => (bt_mI hi).symm)
/-! the least bit -/
def f74 (v n : Int32) : Int32 := n + ((v : Int32).toUInt32 >>> ((1 : Int32).toUInt32 &&& Int32.toUInt32 31)).toInt32
def f62 (v n : Int32) : Int32 := if v ≤ 4 then f74 v n else f74 (((v : Int32).toUInt32 >>> ((2 : Int32).toUInt32 &&& Int32.toUInt32 31)).toInt32) (n + 2)
def f49 (v n : Int32) : Int32 := if v ≤ 16 then f62 v n else f62 (((v : Int32).toUInt32 >>> ((4 : Int32).toUInt32 &&& Int32.toUInt32 31)).toInt32) (n + 4)
def f34 (v n : Int32) : Int32 := if v ≤ 256 then f49 v n else f49 (((v : Int32).toUInt32 >>> ((8 : Int32).toUInt32 &&& Int32.toUInt32 31)).toInt32) (n + 8)
def f00 (x : Int32) : Int32 := if (0 : Int32) < x then (if x ≤ 65536 then f34 x 1 else f34 (((x : Int32).toUInt32 >>> ((16 : Int32).toUInt32 &&& Int32.toUInt32 31)).toInt32) (1 + 16)) else x &&& 32
theorem f00_k : ∀ k, k < 32 → f00 (mI (2 ^ k - 1)) = mI k := by decide +kernel
theorem r74 {σ : sS} {v n : Int32} : R_J6_numberOfTrailingZeros_0f7a4_74 v n σ = some (f74 v n, σ) := E_J6_numberOfTrailingZeros_0f7a4_74
theorem r62 {σ : sS} {v n : Int32} : R_J6_numberOfTrailingZeros_0f7a4_62 v n σ = some (f62 v n, σ) := by
  rw [E_J6_numberOfTrailingZeros_0f7a4_62]
  unfold f62
  split
  · exact r74
  · exact r74
theorem r49 {σ : sS} {v n : Int32} : R_J6_numberOfTrailingZeros_0f7a4_49 v n σ = some (f49 v n, σ) := by
  rw [E_J6_numberOfTrailingZeros_0f7a4_49]
  unfold f49
  split
  · exact r62
  · exact r62
theorem r34 {σ : sS} {v n : Int32} : R_J6_numberOfTrailingZeros_0f7a4_34 v n σ = some (f34 v n, σ) := by
  rw [E_J6_numberOfTrailingZeros_0f7a4_34]
  unfold f34
  split
  · exact r49
  · exact r49
theorem r00 {σ : sS} {v : Int32} : F_J6_numberOfTrailingZeros_0f7a4 v σ = some (f00 ((v ^^^ (-1)) &&& (v - 1)), σ) := by
  rw [E_J6_numberOfTrailingZeros_0f7a4, E_J6_numberOfTrailingZeros_0f7a4_0]
  unfold f00
  split
  · split
    · exact r34
    · exact r34
  · rfl
theorem low_mask {v : Int32} {k : Nat} (hk : k < 32) (h1 : bt v k = true) (h2 : ∀ j, j < k → bt v j = false) : (v ^^^ (-1)) &&& (v - 1) = mI (2 ^ k - 1) := by
  obtain ⟨N, hN, rfl⟩ := mI_of32 v
  rw [bt_mI hk] at h1
  have h2 : ∀ j, j < k → N.testBit j = false := fun j hj => by rw [← h2 j hj, bt_mI (by omega)]
  have hlow : N % 2 ^ k = 0 := by
    apply Nat.eq_of_testBit_eq
    intro j
    rw [Nat.testBit_mod_two_pow, Nat.zero_testBit]
    by_cases g : j < k
    · rw [h2 j g, Bool.and_false]
    · rw [decide_eq_false g, Bool.false_and]
  have hq := Nat.div_add_mod N (2 ^ k)
  rw [hlow, Nat.add_zero] at hq
  have hodd : (N / 2 ^ k) % 2 = 1 := by
    have this : (N / 2 ^ k).testBit 0 = N.testBit (0 + k) := Nat.testBit_div_two_pow N 0
    rw [Nat.zero_add, h1, Nat.testBit_zero] at this
    simpa using this
  generalize hQ : N / 2 ^ k = Q at *
  obtain ⟨m, hm⟩ : ∃ m, Q = 2 * m + 1 := ⟨Q / 2, by omega⟩
  have hpos : 0 < 2 ^ k := Nat.two_pow_pos k
  have hN1 : N - 1 = 2 ^ k * (2 * m) + (2 ^ k - 1) := by
    rw [← hq, hm, Nat.mul_add]
    omega
  have hNpos : 1 ≤ N := by
    rw [← hq, hm, Nat.mul_add]
    omega
  have e1 : mI N - 1 = mI (N - 1) := nsubL hNpos
  rw [e1]
  apply bt_ext
  intro j hj
  rw [bt_and, bt_not _ hj, bt_mI hj, bt_mI hj, bt_mI hj, hN1, Nat.testBit_two_pow_mul_add _ (by omega), Nat.testBit_two_pow_sub_one, ← hq, hm]
  by_cases g : j < k
  · rw [if_pos g, decide_eq_true g, Bool.and_true]
    have := h2 j g
    rw [← hq, hm] at this
    rw [this]
    rfl
  · rw [if_neg g, decide_eq_false g]
    have e := Nat.testBit_two_pow_mul_add (2 * m + 1) (b := 0) (i := k) hpos j
    rw [if_neg g, Nat.add_zero] at e
    rw [e]
    by_cases g0 : j - k = 0
    · rw [g0, Nat.testBit_zero, Nat.testBit_zero]
      simp
    · obtain ⟨r, hr⟩ : ∃ r, j - k = r + 1 := ⟨j - k - 1, by omega⟩
      rw [hr, Nat.testBit_succ, Nat.testBit_succ, show (2 * m + 1) / 2 = m by omega, show 2 * m / 2 = m by omega]
      cases m.testBit r <;> rfl
theorem j_ntz32 {σ : sS} {v : Int32} {k : Nat} (hk : k < 32) (h1 : bt v k = true) (h2 : ∀ j, j < k → bt v j = false) : F_J6_numberOfTrailingZeros_0f7a4 v σ = some (mI k, σ) := by
  rw [r00, low_mask hk h1 h2, f00_k k hk]
theorem bt_lo {x : Int64} {i : Nat} (hi : i < 32) : bt x.toInt32 i = bl x i := by
  obtain ⟨N, hN, rfl⟩ := mL_of x
  rw [Int64.toInt32_ofNat', bl_mL (by omega)]
  exact bt_mI hi
theorem j_ntz64 {σ : sS} {v : Int64} {k : Nat} (hk : k < 64) (h1 : bl v k = true) (h2 : ∀ j, j < k → bl v j = false) : F_J13_numberOfTrailingZeros_95d88 v σ = some (mI k, σ) := by
  rw [E_J13_numberOfTrailingZeros_95d88, E_J13_numberOfTrailingZeros_95d88_0]
  by_cases g : k < 32
  · have hne : ¬ v.toInt32 = 0 := by
      intro z
      have := bt_lo (x := v) g
      rw [z, bt_0, h1] at this
      exact absurd this (by decide)
    rw [if_neg hne, j_ntz32 (k := k) g (by rw [bt_lo g]; exact h1) (fun j hj => by rw [bt_lo (by omega)]; exact h2 j hj), ob]
  · have hz : v.toInt32 = 0 := bt_ext fun i hi => by rw [bt_lo hi, bt_0]; exact h2 i (by omega)
    have hb : ∀ i, i < 32 → bt ((v.toUInt64 >>> ((32 : Int32).toInt64.toUInt64 &&& Int64.toUInt64 63)).toInt64).toInt32 i = bl v (32 + i) := fun i hi => by rw [bt_lo hi]; exact bl_ushr (n := 32) (by decide) v i
    rw [if_pos hz, j_ntz32 (k := k - 32) (by omega) (by rw [hb _ (by omega), show 32 + (k - 32) = k by omega]; exact h1) (fun j hj => by rw [hb _ (by omega)]; exact h2 _ (by omega)), ob]
    refine congrArg (fun z => some (z, σ)) ?_
    rw [naddR]
    exact congrArg mI (by show 32 + (k - 32) = k; omega)
