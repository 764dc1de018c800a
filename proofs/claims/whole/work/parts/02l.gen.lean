/-! what the printed walks use -/
theorem s_bind {α β : Type} {o : Option α} {f : α → Option β} {z : β} (h : o.bind f = some z) : ∃ x, o = some x ∧ f x = some z := by
  cases o with
  | none => cases h
  | some x => exact ⟨x, rfl, h⟩
theorem s_ite {α : Type} {c : Prop} {_ : Decidable c} {a b : Option α} {z : α} (h : (if c then a else b) = some z) : (c ∧ a = some z) ∨ (¬ c ∧ b = some z) := by
  by_cases hc : c
  · rw [if_pos hc] at h; exact Or.inl ⟨hc, h⟩
  · rw [if_neg hc] at h; exact Or.inr ⟨hc, h⟩
def s_sum {α β γ : Type} (x : α ⊕ β) (f : α → γ) (g : β → γ) : γ := match x with
  | .inl a => f a
  | .inr b => g b
theorem s_sum_some {α β γ : Type} {x : α ⊕ β} {f : α → Option γ} {g : β → Option γ} {z : γ} (h : s_sum x f g = some z) : (∃ a, x = .inl a ∧ f a = some z) ∨ (∃ b, x = .inr b ∧ g b = some z) := by
  cases x with
  | inl a => exact Or.inl ⟨a, rfl, h⟩
  | inr b => exact Or.inr ⟨b, rfl, h⟩
abbrev sZ (α : Type) : Type := sL ⊕ (α × sS)
def s_lz {α : Type} (σ : sS) (z : sZ α) : Prop := match z with
  | .inl y => s_le σ y.2.2
  | .inr q => s_le σ q.2
theorem s_lz.tr {α : Type} {σ τ : sS} {z : sZ α} (h : s_le σ τ) (g : s_lz τ z) : s_lz σ z := by
  cases z with
  | inl y => exact s_le.tr h g
  | inr q => exact s_le.tr h g
/-- the end of a method, as the contract has it -/
def e_I (q : Int32 × sS) : sR := (.inl (some (.int q.1)), q.2)
def e_J (q : Int64 × sS) : sR := (.inl (some (.long q.1)), q.2)
def e_A (q : Nat × sS) : sR := (.inl (some (.ref q.1)), q.2)
def e_V (q : Unit × sS) : sR := (.inl none, q.2)
def e_X {α : Type} (f : α → Option Value) (q : (α ⊕ String) × sS) : sR := (match q.1 with
  | .inl x => .inl (f x)
  | .inr E => .inr E, q.2)
def e_IX : (Int32 ⊕ String) × sS → sR := e_X (fun x => some (.int x))
def e_JX : (Int64 ⊕ String) × sS → sR := e_X (fun x => some (.long x))
def e_VX : (Unit ⊕ String) × sS → sR := e_X (fun _ => none)
def s_K {α : Type} (G : sG) (d : Nat) (M : sM) (vs0 : List Value) (σ0 : sS) (lay : Nat → List Nat) (em : α × sS → sR) (z : sZ α) (r : α × sS) : Prop := match z with
  | .inl y => s_V G d M vs0 σ0 lay y (em r)
  | .inr q => q = r
theorem s_lek {α : Type} {G : sG} {d : Nat} {M : sM} {vs0 : List Value} {σ0 σ : sS} {lay : Nat → List Nat} {em : α × sS → sR} {z : sZ α} {r : α × sS} (hem : ∀ q, (em q).2 = q.2) (h : s_lz σ z) (k : s_K G d M vs0 σ0 lay em z r) : s_le σ (em r).2 := by
  cases z with
  | inl y => exact s_le.tr h k.1
  | inr q =>
    have k : q = r := k
    subst k
    rw [hem]
    exact h
theorem hem_I : ∀ q, (e_I q).2 = q.2 := fun _ => rfl
theorem hem_J : ∀ q, (e_J q).2 = q.2 := fun _ => rfl
theorem hem_A : ∀ q, (e_A q).2 = q.2 := fun _ => rfl
theorem hem_V : ∀ q, (e_V q).2 = q.2 := fun _ => rfl
theorem hem_IX : ∀ q, (e_IX q).2 = q.2 := fun _ => rfl
theorem hem_JX : ∀ q, (e_JX q).2 = q.2 := fun _ => rfl
theorem hem_VX : ∀ q, (e_VX q).2 = q.2 := fun _ => rfl
theorem s_pf_2 {σ σ' : sS} {a ci k : Nat} {v : Value} (h : s_pf σ a ci k v = some σ') : σ'.2 = σ.2 := by
  unfold s_pf at h
  split at h
  · split at h
    · cases h; rfl
    · cases h
  · cases h
theorem s_si_2 {σ σ' : sS} {a : Nat} {i x : Int32} (h : s_si σ a i x = some σ') : σ'.2 = σ.2 := by
  unfold s_si at h
  split at h
  · split at h
    · cases h; rfl
    · cases h
  · cases h
theorem s_sl_2 {σ σ' : sS} {a : Nat} {i : Int32} {x : Int64} (h : s_sl σ a i x = some σ') : σ'.2 = σ.2 := by
  unfold s_sl at h
  split at h
  · split at h
    · cases h; rfl
    · cases h
  · cases h
theorem s_sb_2 {σ σ' : sS} {a : Nat} {i x : Int32} (h : s_sb σ a i x = some σ') : σ'.2 = σ.2 := by
  unfold s_sb at h
  split at h
  · split at h
    · split at h
      · cases h; rfl
      · split at h
        · cases h; rfl
        · cases h
    · cases h
  · cases h
theorem s_cpi_2 {σ σ' : sS} {a b : Nat} {i j n : Int32} (h : s_cpi σ a i b j n = some σ') : σ'.2 = σ.2 := by
  unfold s_cpi at h
  split at h
  · split at h
    · cases h; rfl
    · cases h
  · split at h
    · cases h; rfl
    · cases h
  · cases h
theorem s_na_2 {σ σ' : sS} {t : Nat} {n : Int32} (h : s_na σ t n = some σ') : σ'.2.1 = σ.2.1 + 1 ∧ σ'.2.2.1 = σ.2.2.1 + n.toNatClampNeg ∧ σ'.2.2.2 = σ.2.2.2 := by
  unfold s_na at h
  split at h
  · cases h
  · cases h; exact ⟨rfl, rfl, rfl⟩
theorem s_le2 {σ σ' : sS} (h : σ'.2 = σ.2) : s_le σ σ' := ⟨by rw [h]; exact Nat.le_refl _, by rw [h]; exact Nat.le_refl _, by rw [h]⟩
theorem s_na_le {σ σ' : sS} {t : Nat} {n : Int32} (h : s_na σ t n = some σ') : s_le σ σ' := by
  obtain ⟨h1, h2, h3⟩ := s_na_2 h
  exact ⟨by omega, by omega, h3⟩
theorem s_nw_le {σ : sS} {ci N : Nat} {fs : List Value} : s_le σ (s_nw σ ci N fs) := ⟨Nat.le_add_right _ _, Nat.le_add_right _ _, rfl⟩
theorem s_ex_le {σ : sS} : s_le σ (s_ex σ) := ⟨Nat.le_add_right _ _, Nat.le_add_right _ _, rfl⟩
theorem s_k2 {σ σ' σ0 : sS} {cells slots : Nat} (h : σ'.2 = σ.2) (g : cells + σ0.2.1 ≤ σ.2.1 ∧ slots + σ0.2.2.1 ≤ σ.2.2.1) : cells + σ0.2.1 ≤ σ'.2.1 ∧ slots + σ0.2.2.1 ≤ σ'.2.2.1 := by rw [h]; exact g
theorem s_knw {σ σ0 : sS} {ci N : Nat} {fs : List Value} {cells slots : Nat} (g : cells + σ0.2.1 ≤ σ.2.1 ∧ slots + σ0.2.2.1 ≤ σ.2.2.1) : cells + 1 + σ0.2.1 ≤ (s_nw σ ci N fs).2.1 ∧ slots + N + σ0.2.2.1 ≤ (s_nw σ ci N fs).2.2.1 := ⟨by show _ ≤ σ.2.1 + 1; omega, by show _ ≤ σ.2.2.1 + N; omega⟩
theorem s_kna {σ σ' σ0 : sS} {t : Nat} {n : Int32} {cells slots : Nat} (h : s_na σ t n = some σ') (g : cells + σ0.2.1 ≤ σ.2.1 ∧ slots + σ0.2.2.1 ≤ σ.2.2.1) : cells + 1 + σ0.2.1 ≤ σ'.2.1 ∧ slots + n.toNatClampNeg + σ0.2.2.1 ≤ σ'.2.2.1 := by
  obtain ⟨h1, h2, h3⟩ := s_na_2 h
  exact ⟨by omega, by omega⟩
theorem s_nb {x : Int32} (h : x = 0 ∨ x = 1) : narrow .boolean (.int x) = .int x := by rcases h with rfl | rfl <;> rfl
theorem s_ncn {x : Int32} (h : vp_nar .char x = x) : narrow .char (.int x) = .int x := congrArg Value.int h
theorem s_nby {x : Int32} (h : vp_nar .byte x = x) : narrow .byte (.int x) = .int x := congrArg Value.int h
