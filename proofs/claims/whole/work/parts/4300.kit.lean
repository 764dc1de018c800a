/-! TOOLS: numbers for simp, bits, frames, loops -/
section NUM
variable {a b n : Nat}
theorem nle (ha : a < 2 ^ 31) (hb : b < 2 ^ 31) : (mI a ≤ mI b) = (a ≤ b) := propext (mI_le ha hb)
theorem nlt (ha : a < 2 ^ 31) (hb : b < 2 ^ 31) : (mI a < mI b) = (a < b) := propext (mI_lt ha hb)
theorem neq (ha : a < 2 ^ 31) (hb : b < 2 ^ 31) : (mI a = mI b) = (a = b) := propext (mI_inj ha hb)
theorem nleL (ha : a < 2 ^ 31) (hn : (OfNat.ofNat n : Nat) < 2 ^ 31) : (mI a ≤ no_index (OfNat.ofNat n)) = (a ≤ OfNat.ofNat n) := propext (mI_le ha hn)
theorem nltL (ha : a < 2 ^ 31) (hn : (OfNat.ofNat n : Nat) < 2 ^ 31) : (mI a < no_index (OfNat.ofNat n)) = (a < OfNat.ofNat n) := propext (mI_lt ha hn)
theorem neqL (ha : a < 2 ^ 31) (hn : (OfNat.ofNat n : Nat) < 2 ^ 31) : (mI a = no_index (OfNat.ofNat n)) = (a = OfNat.ofNat n) := propext (mI_inj ha hn)
theorem nleR (ha : a < 2 ^ 31) (hn : (OfNat.ofNat n : Nat) < 2 ^ 31) : (no_index (OfNat.ofNat n) ≤ mI a) = (OfNat.ofNat n ≤ a) := propext (mI_le hn ha)
theorem nltR (ha : a < 2 ^ 31) (hn : (OfNat.ofNat n : Nat) < 2 ^ 31) : (no_index (OfNat.ofNat n) < mI a) = (OfNat.ofNat n < a) := propext (mI_lt hn ha)
theorem nadd : mI a + mI b = mI (a + b) := mI_add a b
theorem naddL : mI a + no_index (OfNat.ofNat n) = mI (a + OfNat.ofNat n) := mI_add a _
theorem naddR : no_index (OfNat.ofNat n) + mI a = mI (OfNat.ofNat n + a) := mI_add _ a
theorem nmul : mI a * mI b = mI (a * b) := mI_mul a b
theorem nmulL : mI a * no_index (OfNat.ofNat n) = mI (a * OfNat.ofNat n) := mI_mul a _
theorem nmulR : no_index (OfNat.ofNat n) * mI a = mI (OfNat.ofNat n * a) := mI_mul _ a
theorem nsub (h : b ≤ a) : mI a - mI b = mI (a - b) := mI_sub h
theorem nsubL (h : (OfNat.ofNat n : Nat) ≤ a) : mI a - no_index (OfNat.ofNat n) = mI (a - OfNat.ofNat n) := mI_sub h
theorem nm1 (ha : a < 2 ^ 31) : (mI a = -1) = False := eq_false (mI_m1 ha)
theorem m1n (ha : a < 2 ^ 31) : (-1 = mI a) = False := eq_false (fun h => mI_m1 ha h.symm)
theorem nneg (ha : a < 2 ^ 31) : (mI a < 0) = False := eq_false (mI_0 ha)
end NUM
/-! bits -/
def bt (x : Int32) (i : Nat) : Bool := x.toBitVec.getLsbD i
def bl (x : Int64) (i : Nat) : Bool := x.toBitVec.getLsbD i
theorem bt_ext {x y : Int32} (h : ∀ i, i < 32 → bt x i = bt y i) : x = y := Int32.toBitVec_inj.mp (BitVec.eq_of_getLsbD_eq (fun i hi => h i hi))
theorem bl_ext {x y : Int64} (h : ∀ i, i < 64 → bl x i = bl y i) : x = y := Int64.toBitVec_inj.mp (BitVec.eq_of_getLsbD_eq (fun i hi => h i hi))
theorem bt_or (x y : Int32) (i : Nat) : bt (x ||| y) i = (bt x i || bt y i) := by unfold bt; rw [Int32.toBitVec_or, BitVec.getLsbD_or]
theorem bt_and (x y : Int32) (i : Nat) : bt (x &&& y) i = (bt x i && bt y i) := by unfold bt; rw [Int32.toBitVec_and, BitVec.getLsbD_and]
theorem bt_xor (x y : Int32) (i : Nat) : bt (x ^^^ y) i = (bt x i ^^ bt y i) := by unfold bt; rw [Int32.toBitVec_xor, BitVec.getLsbD_xor]
theorem bl_or (x y : Int64) (i : Nat) : bl (x ||| y) i = (bl x i || bl y i) := by unfold bl; rw [Int64.toBitVec_or, BitVec.getLsbD_or]
theorem bl_and (x y : Int64) (i : Nat) : bl (x &&& y) i = (bl x i && bl y i) := by unfold bl; rw [Int64.toBitVec_and, BitVec.getLsbD_and]
theorem bl_xor (x y : Int64) (i : Nat) : bl (x ^^^ y) i = (bl x i ^^ bl y i) := by unfold bl; rw [Int64.toBitVec_xor, BitVec.getLsbD_xor]
theorem bt_big {x : Int32} {i : Nat} (h : 32 ≤ i) : bt x i = false := BitVec.getLsbD_of_ge _ _ h
theorem bl_big {x : Int64} {i : Nat} (h : 64 ≤ i) : bl x i = false := BitVec.getLsbD_of_ge _ _ h
theorem bt_m1 : ∀ i, i < 32 → bt (-1) i = true := by decide +kernel
theorem bl_m1 : ∀ i, i < 64 → bl (-1) i = true := by decide +kernel
theorem bt_0 (i : Nat) : bt 0 i = false := BitVec.getLsbD_zero
theorem bl_0 (i : Nat) : bl 0 i = false := BitVec.getLsbD_zero
theorem bt_not (x : Int32) {i : Nat} (h : i < 32) : bt (x ^^^ (-1)) i = !bt x i := by rw [bt_xor, bt_m1 i h, Bool.xor_true]
theorem bl_not (x : Int64) {i : Nat} (h : i < 64) : bl (x ^^^ (-1)) i = !bl x i := by rw [bl_xor, bl_m1 i h, Bool.xor_true]
theorem sh_32 : ∀ n, n < 32 → ((mI n &&& 31).toBitVec.smod 32).toNat = n := by decide +kernel
theorem sh_64 : ∀ n, n < 64 → (((mI n).toInt64 &&& 63).toBitVec.smod 64).toNat = n := by decide +kernel
theorem sh_u64 : ∀ n, n < 64 → ((mI n).toInt64.toUInt64 &&& Int64.toUInt64 63).toNat = n := by decide +kernel
theorem bt_shl {n : Nat} (hn : n < 32) (x : Int32) {i : Nat} (hi : i < 32) : bt (x <<< (mI n &&& 31)) i = (decide (n ≤ i) && bt x (i - n)) := by
  unfold bt
  rw [Int32.toBitVec_shiftLeft]
  show (x.toBitVec <<< ((mI n &&& 31).toBitVec.smod 32).toNat).getLsbD i = _
  rw [sh_32 n hn, BitVec.getLsbD_shiftLeft]
  rcases Nat.lt_or_ge i n with h | h
  · simp [h, Nat.not_le.mpr h]
  · simp [hi, h, Nat.not_lt.mpr h]
theorem bl_shl {n : Nat} (hn : n < 64) (x : Int64) {i : Nat} (hi : i < 64) : bl (x <<< ((mI n).toInt64 &&& 63)) i = (decide (n ≤ i) && bl x (i - n)) := by
  unfold bl
  rw [Int64.toBitVec_shiftLeft]
  show (x.toBitVec <<< (((mI n).toInt64 &&& 63).toBitVec.smod 64).toNat).getLsbD i = _
  rw [sh_64 n hn, BitVec.getLsbD_shiftLeft]
  rcases Nat.lt_or_ge i n with h | h
  · simp [h, Nat.not_le.mpr h]
  · simp [hi, h, Nat.not_lt.mpr h]
theorem bt_shr {n : Nat} (hn : n < 32) (x : Int32) {i : Nat} (hi : i < 32) : bt (x >>> (mI n &&& 31)) i = if n + i < 32 then bt x (n + i) else bt x 31 := by
  unfold bt
  rw [Int32.toBitVec_shiftRight]
  show (x.toBitVec.sshiftRight ((mI n &&& 31).toBitVec.smod 32).toNat).getLsbD i = _
  rw [sh_32 n hn, BitVec.getLsbD_sshiftRight, BitVec.msb_eq_getLsbD_last]
  simp [hi]
theorem bl_shr {n : Nat} (hn : n < 64) (x : Int64) {i : Nat} (hi : i < 64) : bl (x >>> ((mI n).toInt64 &&& 63)) i = if n + i < 64 then bl x (n + i) else bl x 63 := by
  unfold bl
  rw [Int64.toBitVec_shiftRight]
  show (x.toBitVec.sshiftRight (((mI n).toInt64 &&& 63).toBitVec.smod 64).toNat).getLsbD i = _
  rw [sh_64 n hn, BitVec.getLsbD_sshiftRight, BitVec.msb_eq_getLsbD_last]
  simp [hi]
theorem bl_ushr {n : Nat} (hn : n < 64) (x : Int64) (i : Nat) : bl ((x.toUInt64 >>> ((mI n).toInt64.toUInt64 &&& Int64.toUInt64 63)).toInt64) i = bl x (n + i) := by
  have e : (x.toUInt64 >>> ((mI n).toInt64.toUInt64 &&& Int64.toUInt64 63)).toInt64.toBitVec = x.toBitVec >>> n := by
    apply BitVec.eq_of_toNat_eq
    show (x.toUInt64 >>> ((mI n).toInt64.toUInt64 &&& Int64.toUInt64 63)).toNat = _
    rw [UInt64.toNat_shiftRight, sh_u64 n hn, Nat.mod_eq_of_lt hn, BitVec.toNat_ushiftRight]
    rfl
  unfold bl
  rw [e, BitVec.getLsbD_ushiftRight]
theorem bt_1 (i : Nat) : bt 1 i = decide (i = 0) := by
  rcases Nat.lt_or_ge i 32 with h | h
  · exact (by decide +kernel : ∀ i, i < 32 → bt 1 i = decide (i = 0)) i h
  · rw [bt_big h, decide_eq_false (by omega)]
theorem bl_1 (i : Nat) : bl 1 i = decide (i = 0) := by
  rcases Nat.lt_or_ge i 64 with h | h
  · exact (by decide +kernel : ∀ i, i < 64 → bl 1 i = decide (i = 0)) i h
  · rw [bl_big h, decide_eq_false (by omega)]
abbrev on32 (k : Nat) : Int32 := 1 <<< (mI k &&& 31)
abbrev on64 (k : Nat) : Int64 := 1 <<< ((mI k).toInt64 &&& 63)
theorem bt_on {k i : Nat} (hk : k < 32) (hi : i < 32) : bt (on32 k) i = decide (i = k) := by
  rw [bt_shl hk 1 hi, bt_1]
  by_cases h : i = k
  · subst h; simp
  · by_cases g : k ≤ i
    · simp [g, h]; omega
    · simp [g, h]
theorem bl_on {k i : Nat} (hk : k < 64) (hi : i < 64) : bl (on64 k) i = decide (i = k) := by
  rw [bl_shl hk 1 hi, bl_1]
  by_cases h : i = k
  · subst h; simp
  · by_cases g : k ≤ i
    · simp [g, h]; omega
    · simp [g, h]
theorem bt_and1 (x : Int32) : x &&& 1 = if bt x 0 = true then 1 else 0 := by
  apply bt_ext
  intro i hi
  rw [bt_and, bt_1]
  by_cases h : i = 0
  · subst h
    cases bt x 0 <;> simp [bt_0, bt_1]
  · rw [decide_eq_false h, Bool.and_false]
    cases bt x 0 <;> simp [bt_0, bt_1, h]
theorem bl_and1 (x : Int64) : x &&& 1 = if bl x 0 = true then 1 else 0 := by
  apply bl_ext
  intro i hi
  rw [bl_and, bl_1]
  by_cases h : i = 0
  · subst h
    cases bl x 0 <;> simp [bl_0, bl_1]
  · rw [decide_eq_false h, Bool.and_false]
    cases bl x 0 <;> simp [bl_0, bl_1, h]
/-- tests of one bit, as the code writes them -/
theorem bit_bt {x : Int32} {k : Nat} (hk : k < 32) : bit x k ↔ bt x k = true := by
  unfold bit
  rw [bt_and1, bt_shr hk x (by decide), if_pos (show k + 0 < 32 by omega), Nat.add_zero]
  cases bt x k <;> simp
theorem t32 {x : Int32} {k : Nat} (hk : k < 32) : ((x >>> (mI k &&& 31)) &&& 1 = 0) = (bt x k = false) := by
  rw [bt_and1, bt_shr hk x (by decide), if_pos (show k + 0 < 32 by omega), Nat.add_zero]
  cases bt x k <;> simp
theorem t32o {x : Int32} {k : Nat} (hk : k < 32) : ((x >>> (mI k &&& 31)) &&& 1 = 1) = (bt x k = true) := propext (bit_bt hk)
theorem t64 {x : Int64} {k : Nat} (hk : k < 64) : (lg_cmp ((x >>> ((mI k).toInt64 &&& 63)) &&& 1) 1 = 0) = (bl x k = true) := by
  rw [lg_cmp_eq, bl_and1, bl_shr hk x (by decide), if_pos (show k + 0 < 64 by omega), Nat.add_zero]
  cases bl x k <;> simp
theorem t64u {x : Int64} {k : Nat} (hk : k < 64) : (lg_cmp ((x.toUInt64 >>> ((mI k).toInt64.toUInt64 &&& Int64.toUInt64 63)).toInt64 &&& 1) 0 = 0) = (bl x k = false) := by
  rw [lg_cmp_eq, bl_and1, bl_ushr hk x, Nat.add_zero]
  cases bl x k <;> simp
theorem z64 {x : Int64} : (lg_cmp x 0 = 0) = (x = 0) := propext (lg_cmp_eq x 0)
theorem bl_and0 {x y : Int64} : x &&& y = 0 ↔ ∀ i, i < 64 → ¬ (bl x i = true ∧ bl y i = true) := by
  constructor
  · intro h i hi ⟨h1, h2⟩
    have := congrArg (fun z => bl z i) h
    simp only [bl_and, h1, h2, bl_0] at this
    exact absurd this (by decide)
  · intro h
    apply bl_ext
    intro i hi
    rw [bl_and, bl_0]
    have := h i hi
    cases h1 : bl x i
    · rfl
    · cases h2 : bl y i
      · rfl
      · exact absurd ⟨h1, h2⟩ this
/-! booleans -/
theorem nar_b2 {p : Prop} : vp_nar .boolean (b2 p) = b2 p := by
  by_cases h : p
  · rw [b2_t h]; rfl
  · rw [b2_f h]; rfl
theorem b2_eq1 {p : Prop} : (b2 p = 1) = p := propext ⟨fun h => Classical.byContradiction fun g => by rw [b2_f g] at h; exact absurd h (by decide), b2_t⟩
theorem b2_eq0 {p : Prop} : (b2 p = 0) = ¬ p := propext b2_0
/-! frames: A the arrays that may change, B the fields (100 * cell + number) -/
def Fr (A B : List Nat) (w w' : sW) : Prop := (∀ k, k ∉ A → w'.2.2.1 k = w.2.2.1 k ∧ w'.2.2.2.1 k = w.2.2.2.1 k) ∧ (∀ k j, 100 * k + j ∉ B → w'.1 k j = w.1 k j ∧ w'.2.1 k j = w.2.1 k j) ∧ w'.2.2.2.2 = w.2.2.2.2
section FR
variable {A B A' B' : List Nat} {w w' w'' : sW}
theorem Fr.rf : Fr A B w w := ⟨fun _ _ => ⟨rfl, rfl⟩, fun _ _ _ => ⟨rfl, rfl⟩, rfl⟩
theorem Fr.tr (h : Fr A B w w') (g : Fr A B w' w'') : Fr A B w w'' :=
  ⟨fun k hk => ⟨(g.1 k hk).1.trans (h.1 k hk).1, (g.1 k hk).2.trans (h.1 k hk).2⟩, fun k j hk => ⟨(g.2.1 k j hk).1.trans (h.2.1 k j hk).1, (g.2.1 k j hk).2.trans (h.2.1 k j hk).2⟩, g.2.2.trans h.2.2⟩
theorem Fr.mo (h : Fr A B w w') (hA : ∀ k ∈ A, k ∈ A') (hB : ∀ k ∈ B, k ∈ B') : Fr A' B' w w' := ⟨fun k hk => h.1 k (fun z => hk (hA k z)), fun k j hk => h.2.1 k j (fun z => hk (hB _ z)), h.2.2⟩
theorem Fr.a (h : Fr A B w w') {k : Nat} (hk : k ∉ A) : w'.2.2.1 k = w.2.2.1 k := (h.1 k hk).1
theorem Fr.l (h : Fr A B w w') {k : Nat} (hk : k ∉ A) : w'.2.2.2.1 k = w.2.2.2.1 k := (h.1 k hk).2
theorem Fr.i (h : Fr A B w w') {k j : Nat} (hk : 100 * k + j ∉ B) : w'.1 k j = w.1 k j := (h.2.1 k j hk).1
theorem Fr.j (h : Fr A B w w') {k j : Nat} (hk : 100 * k + j ∉ B) : w'.2.1 k j = w.2.1 k j := (h.2.1 k j hk).2
theorem Fr.r (h : Fr A B w w') : w'.2.2.2.2 = w.2.2.2.2 := h.2.2
theorem Fr.pI (h : Fr A B w w') {k j : Nat} {v : Int32} (hk : 100 * k + j ∈ B) : Fr A B w (wI w' k j v) := by
  refine ⟨fun k' hk' => h.1 k' hk', fun k' j' hk' => ⟨?_, (h.2.1 k' j' hk').2⟩, h.2.2⟩
  show up2 w'.1 k j v k' j' = _
  unfold up2
  rw [if_neg (fun z => hk' (by rw [z.1, z.2]; exact hk))]
  exact (h.2.1 k' j' hk').1
theorem Fr.pJ (h : Fr A B w w') {k j : Nat} {v : Int64} (hk : 100 * k + j ∈ B) : Fr A B w (wJ w' k j v) := by
  refine ⟨fun k' hk' => h.1 k' hk', fun k' j' hk' => ⟨(h.2.1 k' j' hk').1, ?_⟩, h.2.2⟩
  show up2 w'.2.1 k j v k' j' = _
  unfold up2
  rw [if_neg (fun z => hk' (by rw [z.1, z.2]; exact hk))]
  exact (h.2.1 k' j' hk').2
theorem Fr.pA (h : Fr A B w w') {k j : Nat} {v : Int32} (hk : k ∈ A) : Fr A B w (wA w' k j v) := by
  refine ⟨fun k' hk' => ⟨?_, (h.1 k' hk').2⟩, fun k' j' hk' => h.2.1 k' j' hk', h.2.2⟩
  show up2 w'.2.2.1 k j v k' = _
  rw [up2_k (fun z => hk' (by rw [z]; exact hk))]
  exact (h.1 k' hk').1
theorem Fr.pL (h : Fr A B w w') {k j : Nat} {v : Int64} (hk : k ∈ A) : Fr A B w (wL w' k j v) := by
  refine ⟨fun k' hk' => ⟨(h.1 k' hk').1, ?_⟩, fun k' j' hk' => h.2.1 k' j' hk', h.2.2⟩
  show up2 w'.2.2.2.1 k j v k' = _
  rw [up2_k (fun z => hk' (by rw [z]; exact hk))]
  exact (h.1 k' hk').2
theorem hasL.fr (h : Fr A B w w') {f : Nat} {l : List Nat} (g : hasL w f l) (h1 : 49 ∉ A) (h2 : 50 ∉ A) : hasL w' f l := by
  unfold hasL
  rw [h.a h1, h.a h2]
  exact g
theorem MW.fr (h : Fr A B w w') {D F L : Nat} {y : sLn} {φ : Nat → List Nat} (g : MW w D F L y φ) (h0 : 47 ∉ A) (h1 : 49 ∉ A) (h2 : 50 ∉ A) : MW w' D F L y φ := by
  obtain ⟨g1, g2, g3, g4, g5, g6, g7, g8, g9, g10⟩ := g
  unfold MW
  rw [h.a h0]
  exact ⟨g1, g2, g3, g4, g5, g6, g7, g8, g9, fun k hk => ⟨(g10 k hk).1.fr h h1 h2, (g10 k hk).2⟩⟩
theorem NT.fr (h : Fr A B w w') {U D : Nat} {nd : Nat → List Nat} (g : NT w U D nd) (h2 : 2 ∉ A) (h3 : 3 ∉ A) (h4 : 4 ∉ A) (h5 : 5 ∉ A) (h7 : 7 ∉ A) (hB : 100 ∉ B) : NT w' U D nd := by
  unfold NT nodeOK
  rw [h.a h2, h.a h3, h.a h4, h.a h5, h.a h7, h.r, h.i (k := 1) (j := 0) hB]
  exact g
theorem CW.fr (h : Fr A B w w') {D F L U : Nat} {y : sLn} {φ nd : Nat → List Nat} {nf : Nat → Nat} (g : CW w D F L U y φ nd nf) (h2 : 2 ∉ A) (h3 : 3 ∉ A) (h4 : 4 ∉ A) (h5 : 5 ∉ A) (h7 : 7 ∉ A) (h15 : 15 ∉ A) (h17 : 17 ∉ A) (hB : 100 ∉ B) (hB0 : 900 ∉ B) (hB2 : 902 ∉ B) (hB6 : 906 ∉ B) : CW w' D F L U y φ nd nf := by
  obtain ⟨g1, g2, g3, g4, g5, g6, g7, g8, g9, g10, g11⟩ := g
  unfold CW
  rw [h.a h15, h.a h17, h.i (k := 9) (j := 0) hB0, h.i (k := 9) (j := 2) hB2, h.i (k := 9) (j := 6) hB6]
  exact ⟨g1, g2, g3, g4, g5, g6, g7, g8, g9, g10.fr h h2 h3 h4 h5 h7 hB, g11⟩
end FR
/-! reading what was written -/
theorem up2_s {α : Type} {f : Nat → Nat → α} {k j : Nat} {x : α} : up2 f k j x k j = x := if_pos ⟨rfl, rfl⟩
theorem up2_j {α : Type} {f : Nat → Nat → α} {k j j' k' : Nat} {x : α} (h : j' ≠ j) : up2 f k j x k' j' = f k' j' := if_neg (fun z => h z.2)
theorem up2_up {α : Type} {f : Nat → Nat → α} {k j : Nat} {x x' : α} : up2 (up2 f k j x) k j x' = up2 f k j x' := by
  funext k' j'
  unfold up2
  by_cases h : k' = k ∧ j' = j
  · rw [if_pos h, if_pos h]
  · rw [if_neg h, if_neg h, if_neg h]
/-- loops: an invariant, an end -/
theorem loopN {A R : Type} {run : Nat → A → Option R} {N : Nat} (I : Nat → A → Prop) {Q : R → Prop} (hs : ∀ k a, k < N → I k a → (∃ a', I (k + 1) a' ∧ run k a = run (k + 1) a') ∨ ∃ r, run k a = some r ∧ Q r) (he : ∀ a, I N a → ∃ r, run N a = some r ∧ Q r) : ∀ k a, k ≤ N → I k a → ∃ r, run k a = some r ∧ Q r := by
  intro k a hk hI
  obtain ⟨d, hd⟩ := Nat.exists_eq_add_of_le hk
  induction d generalizing k a with
  | zero =>
    have : k = N := by omega
    subst this
    exact he a hI
  | succ d ih =>
    rcases hs k a (by omega) hI with ⟨a', h1, h2⟩ | h
    · rw [h2]
      exact ih (k + 1) a' (by omega) h1 (by omega)
    · exact h
/-- the same where nothing changes but the count -/
theorem loopV {R : Type} {run : Nat → Option R} {N : Nat} (v : Nat → R) (hs : ∀ k, k < N → run k = run (k + 1) ∧ v k = v (k + 1) ∨ run k = some (v k)) (he : run N = some (v N)) : ∀ k, k ≤ N → run k = some (v k) := by
  intro k hk
  obtain ⟨d, hd⟩ := Nat.exists_eq_add_of_le hk
  induction d generalizing k with
  | zero =>
    have : k = N := by omega
    subst this
    exact he
  | succ d ih =>
    rcases hs k (by omega) with ⟨h1, h2⟩ | h
    · rw [h1, h2]
      exact ih (k + 1) (by omega) (by omega)
    · exact h
