/-! sets of places and sets of formulas, as numbers -/
/-- a number with the bits of a set -/
noncomputable def nbP (p : Nat → Prop) : Nat → Nat
  | 0 => 0
  | c + 1 => nbP p c ||| (@ite _ (p c) (Classical.propDecidable _) (2 ^ c) 0)
theorem nbP_t {p : Nat → Prop} {c i : Nat} : (nbP p c).testBit i = true ↔ i < c ∧ p i := by
  induction c with
  | zero => simp [nbP]
  | succ c ih =>
    unfold nbP
    rw [Nat.testBit_or, Bool.or_eq_true, ih]
    by_cases h : p c
    · rw [if_pos h, Nat.testBit_two_pow, decide_eq_true_iff]
      constructor
      · rintro (⟨a, b⟩ | rfl)
        · exact ⟨by omega, b⟩
        · exact ⟨by omega, h⟩
      · rintro ⟨a, b⟩
        by_cases e : i = c
        · exact Or.inr e.symm
        · exact Or.inl ⟨by omega, b⟩
    · rw [if_neg h]
      simp only [Nat.zero_testBit, Bool.false_eq_true, or_false]
      exact ⟨fun z => ⟨by omega, z.2⟩, fun z => ⟨by
        have := z.1
        have : i ≠ c := fun e => h (e ▸ z.2)
        omega, z.2⟩⟩
theorem nat_lt_pow {x k : Nat} (h : ∀ i, x.testBit i = true → i < k) : x < 2 ^ k := by
  refine Nat.lt_pow_two_of_testBit x fun i hi => ?_
  cases e : x.testBit i
  · rfl
  · exact absurd (h i e) (by omega)
theorem nat_tb_lt {x k i : Nat} (h : x < 2 ^ k) (hi : x.testBit i = true) : i < k := by
  refine Classical.byContradiction fun g => ?_
  rw [Nat.testBit_lt_two_pow (Nat.lt_of_lt_of_le h (Nat.pow_le_pow_right (by decide) (by omega)))] at hi
  cases hi
theorem nbP_lt {p : Nat → Prop} {c : Nat} : nbP p c < 2 ^ c := nat_lt_pow fun i hi => (nbP_t.mp hi).1
theorem nat_ext {x z : Nat} (h : ∀ i, x.testBit i = true ↔ z.testBit i = true) : x = z := by
  refine Nat.eq_of_testBit_eq fun i => ?_
  have := h i
  cases e : x.testBit i <;> cases f : z.testBit i <;> simp [e, f] at this ⊢
/-- the highest bit in which two numbers differ -/
theorem nat_hdb : ∀ n x z : Nat, x < 2 ^ n → z < 2 ^ n → x < z → ∃ i, x.testBit i = false ∧ z.testBit i = true ∧ ∀ j, i < j → x.testBit j = z.testBit j := by
  intro n
  induction n with
  | zero => intro x z hx hz h; simp at hx hz; omega
  | succ n ih =>
    intro x z hx hz h
    have hp : 2 ^ (n + 1) = 2 * 2 ^ n := by rw [Nat.pow_succ]; omega
    have tx : x.testBit n = decide (2 ^ n ≤ x) := by
      by_cases g : 2 ^ n ≤ x
      · rw [decide_eq_true g]
        have e : x = 2 ^ n + (x - 2 ^ n) := by omega
        rw [e, Nat.testBit_two_pow_add_eq, Nat.testBit_lt_two_pow (by omega)]; rfl
      · rw [decide_eq_false g, Nat.testBit_lt_two_pow (by omega)]
    have tz : z.testBit n = decide (2 ^ n ≤ z) := by
      by_cases g : 2 ^ n ≤ z
      · rw [decide_eq_true g]
        have e : z = 2 ^ n + (z - 2 ^ n) := by omega
        rw [e, Nat.testBit_two_pow_add_eq, Nat.testBit_lt_two_pow (by omega)]; rfl
      · rw [decide_eq_false g, Nat.testBit_lt_two_pow (by omega)]
    have hi9 : ∀ j, n < j → x.testBit j = z.testBit j := fun j hj => by
      rw [Nat.testBit_lt_two_pow (Nat.lt_of_lt_of_le hx (Nat.pow_le_pow_right (by decide) hj)), Nat.testBit_lt_two_pow (Nat.lt_of_lt_of_le hz (Nat.pow_le_pow_right (by decide) hj))]
    by_cases gx : 2 ^ n ≤ x
    · have gz : 2 ^ n ≤ z := by omega
      obtain ⟨i, a1, a2, a3⟩ := ih (x - 2 ^ n) (z - 2 ^ n) (by omega) (by omega) (by omega)
      have hin : i < n := nat_tb_lt (by omega) a2
      have lo : ∀ q j, 2 ^ n ≤ q → j < n → (q - 2 ^ n).testBit j = q.testBit j := fun q j hq hj => by
        have e : q = 2 ^ n + (q - 2 ^ n) := by omega
        conv => rhs; rw [e]
        rw [Nat.testBit_two_pow_add_gt hj]
      refine ⟨i, by rw [← lo x i gx hin]; exact a1, by rw [← lo z i gz hin]; exact a2, fun j hj => ?_⟩
      rcases Nat.lt_trichotomy j n with g | g | g
      · rw [← lo x j gx g, ← lo z j gz g]; exact a3 j hj
      · rw [g, tx, tz, decide_eq_true gx, decide_eq_true gz]
      · exact hi9 j g
    · by_cases gz : 2 ^ n ≤ z
      · exact ⟨n, by rw [tx, decide_eq_false gx], by rw [tz, decide_eq_true gz], hi9⟩
      · obtain ⟨i, a1, a2, a3⟩ := ih x z (by omega) (by omega) h
        exact ⟨i, a1, a2, a3⟩
theorem nat_lt_tb {x z : Nat} (i : Nat) (h1 : x.testBit i = false) (h2 : z.testBit i = true) (h3 : ∀ j, i < j → x.testBit j = z.testBit j) : x < z := by
  rcases Nat.lt_trichotomy x z with g | g | g
  · exact g
  · rw [g, h2] at h1; cases h1
  · have b1 : x < 2 ^ (x + z) := Nat.lt_of_lt_of_le Nat.lt_two_pow_self (Nat.pow_le_pow_right (by decide) (by omega))
    have b2' : z < 2 ^ (x + z) := Nat.lt_of_lt_of_le Nat.lt_two_pow_self (Nat.pow_le_pow_right (by decide) (by omega))
    obtain ⟨k, a1, a2, a3⟩ := nat_hdb (x + z) z x b2' b1 g
    rcases Nat.lt_trichotomy i k with q | q | q
    · rw [h3 k q, a1] at a2; cases a2
    · rw [q, a1] at h2; cases h2
    · have := a3 i q; rw [h1, h2] at this; cases this
theorem cnt_s {f : Nat → Bool} {k : Nat} : cnt f (k + 1) = cnt f k + (if f k = true then 1 else 0) := by
  show cnt f k + (f k).toNat = _
  cases f k <;> rfl
/-- the lowest bit -/
theorem nat_low {x : Nat} (h : x ≠ 0) : ∃ k, x.testBit k = true ∧ ∀ j, j < k → x.testBit j = false := by
  have ⟨i, hi⟩ := Nat.exists_testBit_of_ne_zero h
  have key : ∀ n i, i ≤ n → x.testBit i = true → ∃ k, x.testBit k = true ∧ ∀ j, j < k → x.testBit j = false := by
    intro n
    induction n with
    | zero => intro i hi' h'; exact ⟨i, h', fun j hj => absurd hj (by omega)⟩
    | succ n ih =>
      intro i hi' h'
      by_cases g : ∃ j, j < i ∧ x.testBit j = true
      · obtain ⟨j, j1, j2⟩ := g
        exact ih j (by omega) j2
      · exact ⟨i, h', fun j hj => by
          cases e : x.testBit j
          · rfl
          · exact absurd ⟨j, hj, e⟩ g⟩
  exact key i i (Nat.le_refl _) hi
theorem nat_pred {x k : Nat} (h : x.testBit k = true) (hl : ∀ j, j < k → x.testBit j = false) (j : Nat) : (x - 1).testBit j = if j < k then true else if j = k then false else x.testBit j := by
  have e1 : x % 2 ^ (k + 1) = 2 ^ k := by
    refine Nat.eq_of_testBit_eq fun i => ?_
    rw [Nat.testBit_mod_two_pow, Nat.testBit_two_pow]
    by_cases g : i < k
    · rw [hl i g, Bool.and_false, decide_eq_false (by omega)]
    · by_cases g2 : i = k
      · subst g2; rw [h, decide_eq_true (Nat.lt_succ_self _), decide_eq_true rfl]; rfl
      · rw [decide_eq_false (by omega), decide_eq_false (by omega)]; rfl
  have e2 : x = 2 ^ (k + 1) * (x / 2 ^ (k + 1)) + 2 ^ k := by
    have := Nat.div_add_mod x (2 ^ (k + 1))
    rw [e1] at this
    exact this.symm
  have hp : 0 < 2 ^ k := Nat.two_pow_pos k
  have hp2 : 2 ^ (k + 1) = 2 * 2 ^ k := by rw [Nat.pow_succ]; omega
  have e3 : x - 1 = 2 ^ (k + 1) * (x / 2 ^ (k + 1)) + (2 ^ k - 1) := by omega
  rw [e3, Nat.testBit_two_pow_mul_add _ (show 2 ^ k - 1 < 2 ^ (k + 1) by omega)]
  by_cases g : j < k
  · rw [if_pos (by omega), if_pos g, Nat.testBit_two_pow_sub_one, decide_eq_true g]
  · rw [if_neg g]
    by_cases g2 : j = k
    · rw [if_pos g2, if_pos (by omega), Nat.testBit_two_pow_sub_one, decide_eq_false (by omega)]
    · rw [if_neg g2, if_neg (by omega)]
      conv => rhs; rw [e2]
      rw [Nat.testBit_two_pow_mul_add _ (show 2 ^ k < 2 ^ (k + 1) by omega), if_neg (by omega)]
/-! the embedding -/
def emb (M : Nat → Nat) : Nat → Nat → Nat
  | 0, _ => 0
  | c + 1, p => emb M c p ||| (if p.testBit c = true then 2 ^ (M c) else 0)
theorem emb_t {M : Nat → Nat} {c p f : Nat} : (emb M c p).testBit f = true ↔ ∃ i, i < c ∧ p.testBit i = true ∧ M i = f := by
  induction c with
  | zero => simp [emb]
  | succ c ih =>
    unfold emb
    rw [Nat.testBit_or, Bool.or_eq_true, ih]
    constructor
    · rintro (⟨i, a, b, d⟩ | h)
      · exact ⟨i, by omega, b, d⟩
      · by_cases g : p.testBit c = true
        · rw [if_pos g, Nat.testBit_two_pow, decide_eq_true_iff] at h
          exact ⟨c, by omega, g, h⟩
        · rw [if_neg g, Nat.zero_testBit] at h; cases h
    · rintro ⟨i, a, b, d⟩
      by_cases g : i = c
      · subst g
        rw [if_pos b, Nat.testBit_two_pow, decide_eq_true_iff]; exact Or.inr d
      · exact Or.inl ⟨i, by omega, b, d⟩
/-- an ascending list of c formulas below F -/
def asc (M : Nat → Nat) (c F : Nat) : Prop := (∀ i, i < c → M i < F) ∧ ∀ i j, i < j → j < c → M i < M j
section EMB
variable {M : Nat → Nat} {c F : Nat}
theorem asc_inj (h : asc M c F) {i j : Nat} (hi : i < c) (hj : j < c) (e : M i = M j) : i = j := by
  rcases Nat.lt_trichotomy i j with g | g | g
  · have := h.2 i j g hj; omega
  · exact g
  · have := h.2 j i g hi; omega
theorem asc_lt (h : asc M c F) {i j : Nat} (hi : i < c) (hj : j < c) : M i < M j ↔ i < j := by
  constructor
  · intro e
    rcases Nat.lt_trichotomy i j with g | g | g
    · exact g
    · subst g; omega
    · have := h.2 j i g hi; omega
  · intro e; exact h.2 i j e hj
theorem emb_at (h : asc M c F) {p i : Nat} (hi : i < c) : (emb M c p).testBit (M i) = p.testBit i := by
  cases e : p.testBit i
  · cases g : (emb M c p).testBit (M i)
    · rfl
    · obtain ⟨j, a, b, d⟩ := emb_t.mp g
      rw [asc_inj h a hi d] at b
      rw [b] at e; cases e
  · exact emb_t.mpr ⟨i, hi, e, rfl⟩
theorem emb_lt (h : asc M c F) {p : Nat} : emb M c p < 2 ^ F := nat_lt_pow fun f hf => by
  obtain ⟨i, a, b, d⟩ := emb_t.mp hf
  rw [← d]; exact h.1 i a
theorem emb_mono (h : asc M c F) {p q : Nat} (hp : p < 2 ^ c) (hq : q < 2 ^ c) (hpq : p < q) : emb M c p < emb M c q := by
  obtain ⟨i, a1, a2, a3⟩ := nat_hdb c p q hp hq hpq
  have hi := nat_tb_lt hq a2
  refine nat_lt_tb (M i) (by rw [emb_at h hi]; exact a1) (by rw [emb_at h hi]; exact a2) (fun f hf => ?_)
  cases e : (emb M c q).testBit f
  · cases g : (emb M c p).testBit f
    · rfl
    · obtain ⟨j, b1, b2', b3⟩ := emb_t.mp g
      have : i < j := (asc_lt h hi b1).mp (by omega)
      rw [a3 j this, ← emb_at h b1, b3, e] at b2'
      cases b2'
  · obtain ⟨j, b1, b2', b3⟩ := emb_t.mp e
    have : i < j := (asc_lt h hi b1).mp (by omega)
    exact emb_t.mpr ⟨j, b1, by rw [a3 j this]; exact b2', b3⟩
theorem emb_lt_iff (h : asc M c F) {p q : Nat} (hp : p < 2 ^ c) (hq : q < 2 ^ c) : emb M c p < emb M c q ↔ p < q := by
  constructor
  · intro e
    rcases Nat.lt_trichotomy p q with g | g | g
    · exact g
    · subst g; omega
    · have := emb_mono h hq hp g; omega
  · exact emb_mono h hp hq
theorem emb_inj (h : asc M c F) {p q : Nat} (hp : p < 2 ^ c) (hq : q < 2 ^ c) (e : emb M c p = emb M c q) : p = q := by
  rcases Nat.lt_trichotomy p q with g | g | g
  · have := emb_mono h hp hq g; omega
  · exact g
  · have := emb_mono h hq hp g; omega
theorem emb_0 : emb M c 0 = 0 := nat_ext fun i => by
  rw [emb_t]
  simp
theorem full_t {i : Nat} : (2 ^ c - 1).testBit i = true ↔ i < c := by rw [Nat.testBit_two_pow_sub_one, decide_eq_true_iff]
theorem emb_pred (h : asc M c F) {p : Nat} (hp : p < 2 ^ c) (h0 : p ≠ 0) : (emb M c p - 1) &&& emb M c (2 ^ c - 1) = emb M c (p - 1) := by
  obtain ⟨k, k1, k2⟩ := nat_low h0
  have hk := nat_tb_lt hp k1
  have b1 : (emb M c p).testBit (M k) = true := by rw [emb_at h hk]; exact k1
  have b2' : ∀ j, j < M k → (emb M c p).testBit j = false := fun j hj => by
    cases e : (emb M c p).testBit j
    · rfl
    · obtain ⟨i, c1, c2, c3⟩ := emb_t.mp e
      have : i < k := (asc_lt h c1 hk).mp (by omega)
      rw [k2 i this] at c2; cases c2
  refine nat_ext fun f => ?_
  rw [Nat.testBit_and, Bool.and_eq_true, emb_t (p := 2 ^ c - 1), emb_t (p := p - 1), nat_pred b1 b2']
  constructor
  · rintro ⟨e, i, c1, c2, c3⟩
    refine ⟨i, c1, ?_, c3⟩
    rw [nat_pred k1 k2]
    rw [← c3] at e
    by_cases g : i < k
    · rw [if_pos g]
    · rw [if_neg g]
      rw [if_neg (fun z => g ((asc_lt h c1 hk).mp z))] at e
      by_cases g2 : i = k
      · rw [if_pos (by rw [g2])] at e; cases e
      · rw [if_neg g2]
        rw [if_neg (fun z => g2 (asc_inj h c1 hk z)), emb_at h c1] at e
        exact e
  · rintro ⟨i, c1, c2, c3⟩
    refine ⟨?_, i, c1, full_t.mpr c1, c3⟩
    rw [nat_pred k1 k2] at c2
    rw [← c3]
    by_cases g : i < k
    · rw [if_pos ((asc_lt h c1 hk).mpr g)]
    · rw [if_neg g] at c2
      by_cases g2 : i = k
      · rw [if_pos g2] at c2; cases c2
      · rw [if_neg g2] at c2
        rw [if_neg (fun z => g ((asc_lt h c1 hk).mp z)), if_neg (fun z => g2 (asc_inj h c1 hk z)), emb_at h c1]
        exact c2
/-! counting -/
def cn (x : Nat) : Nat := cnt (fun i => x.testBit i) 32
theorem cnt_setk {f : Nat → Bool} {k : Nat} : ∀ n, k < n → f k = false → cnt (fun i => f i || decide (i = k)) n = cnt f n + 1 := by
  intro n
  induction n with
  | zero => intro h; omega
  | succ n ih =>
    intro hk hf
    rw [cnt_s, cnt_s]
    by_cases g : n = k
    · subst g
      have e : cnt (fun i => f i || decide (i = n)) n = cnt f n := cnt_congr fun i hi => by simp; intro z; omega
      rw [e, hf]; simp
    · rw [ih (by omega) hf]
      simp [g]
      omega
theorem cnt_lowr {x k : Nat} (h : x < 2 ^ k) : ∀ d, cnt (fun i => x.testBit i) (k + d) = cnt (fun i => x.testBit i) k := by
  intro d
  induction d with
  | zero => rfl
  | succ d ih =>
    rw [← Nat.add_assoc, cnt_s, ih, Nat.testBit_lt_two_pow (Nat.lt_of_lt_of_le h (Nat.pow_le_pow_right (by decide) (by omega)))]
    simp
theorem emb_cnt : ∀ c, asc M c F → F ≤ 32 → ∀ p, cn (emb M c p) = cnt (fun i => p.testBit i) c := by
  intro c
  induction c with
  | zero =>
    intro _ _ p
    show cnt (fun i => (0 : Nat).testBit i) 32 = 0
    simp only [Nat.zero_testBit]
    decide
  | succ c ih =>
    intro h hF p
    have h' : asc M c F := ⟨fun i hi => h.1 i (by omega), fun i j hij hj => h.2 i j hij (by omega)⟩
    have e := ih h' hF p
    show cnt (fun i => (emb M c p ||| (if p.testBit c = true then 2 ^ (M c) else 0)).testBit i) 32 = _
    rw [cnt_s (k := c)]
    rw [← e]
    by_cases g : p.testBit c = true
    · rw [if_pos g, if_pos g]
      have hn : (emb M c p).testBit (M c) = false := by
        cases q : (emb M c p).testBit (M c)
        · rfl
        · obtain ⟨i, a, b, d⟩ := emb_t.mp q
          have := h.2 i c a (by omega)
          omega
      show _ = cnt (fun i => (emb M c p).testBit i) 32 + 1
      rw [← cnt_setk (f := fun i => (emb M c p).testBit i) (k := M c) 32 (by have := h.1 c (by omega); omega) hn]
      refine cnt_congr fun i hi => ?_
      rw [Nat.testBit_or, Nat.testBit_two_pow]
      congr 1
      exact decide_eq_decide.mpr ⟨fun z => z.symm, fun z => z.symm⟩
    · rw [if_neg g, if_neg g, Nat.or_zero]; rfl
theorem emb_cn (h : asc M c F) (hF : F ≤ 32) (hc : c ≤ 32) {p : Nat} (hp : p < 2 ^ c) : cn (emb M c p) = cn p := by
  rw [emb_cnt c h hF p]
  unfold cn
  have := cnt_lowr hp (32 - c)
  rw [show c + (32 - c) = 32 by omega] at this
  exact this.symm
/-- fewer, or as many and less -/
def bet (x z : Nat) : Prop := cn x < cn z ∨ (cn x = cn z ∧ x < z)
theorem emb_bet (h : asc M c F) (hF : F ≤ 32) (hc : c ≤ 32) {p q : Nat} (hp : p < 2 ^ c) (hq : q < 2 ^ c) : bet (emb M c p) (emb M c q) ↔ bet p q := by
  unfold bet
  rw [emb_cn h hF hc hp, emb_cn h hF hc hq, emb_lt_iff h hp hq]
end EMB
theorem bet_irr {x : Nat} : ¬ bet x x := fun h => by unfold bet at h; omega
theorem bet_tr {x z u : Nat} (h : bet x z) (g : bet z u) : bet x u := by unfold bet at *; omega
theorem bet_tot {x z : Nat} : bet x z ∨ x = z ∨ bet z x := by unfold bet; omega
/-- a least one: in the set, and none better -/
def isLst (S : Nat → Prop) (b : Nat) : Prop := S b ∧ ∀ x, S x → ¬ bet x b
theorem isLst_uni {S : Nat → Prop} {b b' : Nat} (h : isLst S b) (h' : isLst S b') : b = b' := by
  rcases bet_tot (x := b) (z := b') with g | g | g
  · exact absurd g (h'.2 b h.1)
  · exact g
  · exact absurd g (h.2 b' h'.1)
theorem cn_le {x : Nat} : cn x ≤ 32 := cnt_le
theorem cnt_sub {f g : Nat → Bool} : ∀ n, (∀ i, i < n → f i = true → g i = true) → cnt f n ≤ cnt g n ∧ (cnt f n = cnt g n → ∀ i, i < n → f i = g i) := by
  intro n
  induction n with
  | zero => intro _; exact ⟨Nat.le_refl _, fun _ i hi => absurd hi (by omega)⟩
  | succ n ih =>
    intro h
    obtain ⟨a, b⟩ := ih fun i hi => h i (by omega)
    have hn := h n (by omega)
    rw [cnt_s, cnt_s]
    cases e : f n <;> cases e' : g n
    · exact ⟨by simpa using a, fun z i hi => by
        by_cases q : i = n
        · subst q; rw [e, e']
        · exact b (by simpa using z) i (by omega)⟩
    · refine ⟨by simp; omega, fun z => ?_⟩
      simp at z; omega
    · rw [hn e] at e'; cases e'
    · exact ⟨by simpa using a, fun z i hi => by
        by_cases q : i = n
        · subst q; rw [e, e']
        · exact b (by simpa using z) i (by omega)⟩
/-- a part of a set is better, or the same -/
theorem bet_sub {x z : Nat} (hx : x < 2 ^ 32) (hz : z < 2 ^ 32) (h : ∀ i, x.testBit i = true → z.testBit i = true) : x = z ∨ bet x z := by
  obtain ⟨a, b⟩ := cnt_sub (f := fun i => x.testBit i) (g := fun i => z.testBit i) 32 (fun i _ => h i)
  rcases Nat.lt_or_ge (cn x) (cn z) with g | g
  · exact Or.inr (Or.inl g)
  · refine Or.inl (Nat.eq_of_testBit_eq fun i => ?_)
    rcases Nat.lt_or_ge i 32 with q | q
    · exact b (Nat.le_antisymm a g) i q
    · rw [Nat.testBit_lt_two_pow (Nat.lt_of_lt_of_le hx (Nat.pow_le_pow_right (by decide) q)), Nat.testBit_lt_two_pow (Nat.lt_of_lt_of_le hz (Nat.pow_le_pow_right (by decide) q))]
/-! the codes' comparisons -/
section CMP
variable {σ : sS} {x z : Nat}
theorem cn_bt (hx : x < 2 ^ 31) : F_J6_bitCount_0f7a4 (mI x) σ = some (mI (cn x), σ) := by
  rw [j_bitCount32]
  have : cnt (bt (mI x)) 32 = cn x := cnt_congr fun i hi => bt_mI hi
  rw [this]
theorem c_isBetter (hx : x < 2 ^ 31) (hz : z < 2 ^ 31) : F_X3_isBetter (mI x) (mI z) σ = some (b2 (bet x z), σ) := by
  have l1 := cn_le (x := x)
  have l2 := cn_le (x := z)
  rw [E_X3_isBetter, E_X3_isBetter_0, cn_bt hx, ob]
  try dsimp only
  rw [cn_bt hz, ob]
  try dsimp only
  by_cases h1 : cn x < cn z
  · rw [if_pos (by rw [nsublt (by omega) (by omega)]; exact h1), b2_t (p := bet x z) (Or.inl h1)]
  · rw [if_neg (by rw [nsublt (by omega) (by omega)]; exact h1)]
    by_cases h2 : cn x = cn z
    · rw [if_pos (by rw [nsub0 (by omega) (by omega)]; exact h2)]
      by_cases h3 : x < z
      · rw [if_neg (by rw [nle hz hx]; omega), b2_t (p := bet x z) (Or.inr ⟨h2, h3⟩)]
      · rw [if_pos (by rw [nle hz hx]; omega), b2_f (fun q => by unfold bet at q; omega)]
    · rw [if_neg (by rw [nsub0 (by omega) (by omega)]; exact h2), b2_f (fun q => by unfold bet at q; omega)]
theorem m_isFewer (hx : x < 2 ^ 31) (hz : z < 2 ^ 31) : F_X8_isFewer (mI x) (mI z) σ = some (b2 (bet x z), σ) := by
  have l1 := cn_le (x := x)
  have l2 := cn_le (x := z)
  rw [E_X8_isFewer, E_X8_isFewer_0, cn_bt hx, ob]
  try dsimp only
  rw [cn_bt hz, ob]
  try dsimp only
  by_cases h1 : cn x = cn z
  · rw [if_pos (by rw [h1])]
    by_cases h3 : x < z
    · rw [if_neg (by rw [nle hz hx]; omega), b2_t (p := bet x z) (Or.inr ⟨h1, h3⟩)]
    · rw [if_pos (by rw [nle hz hx]; omega), b2_f (fun q => by unfold bet at q; omega)]
  · rw [if_neg (by rw [neq (by omega) (by omega)]; exact h1), cn_bt hx, ob]
    try dsimp only
    rw [cn_bt hz, ob]
    try dsimp only
    by_cases h2 : cn x < cn z
    · rw [if_neg (by rw [nle (by omega) (by omega)]; omega), b2_t (p := bet x z) (Or.inl h2)]
    · rw [if_pos (by rw [nle (by omega) (by omega)]; omega), b2_f (fun q => by unfold bet at q; omega)]
end CMP
theorem on32_mI : ∀ k, k < 32 → on32 k = mI (2 ^ k) := by decide +kernel
theorem mk32_mI {p : Nat → Prop} {c : Nat} (hc : c ≤ 32) : mk32 p c = mI (nbP p c) := by
  apply bt_ext
  intro i hi
  rw [bt_mI hi]
  have h1 := bt_mk (p := p) hc hi
  have h2 := nbP_t (p := p) (c := c) (i := i)
  cases e : bt (mk32 p c) i <;> cases g : (nbP p c).testBit i
  · rfl
  · exact absurd (h1.mpr (h2.mp g)) (by rw [e]; decide)
  · exact absurd (h2.mpr (h1.mp e)) (by rw [g]; decide)
  · rfl
