/-! MY OWN LAYER: a pure picture of the heap, methods as label machines over it, and what ties both to the machine -/
/-- a cell: an array (kind: 0 int, 1 long, 2 byte, 3 boolean; 4 and on: the same, never written; its length and contents), or an object (number of its class, fields) -/
abbrev sC : Type := (Nat × vp_A) ⊕ (Nat × List Value)
/-- cells; how many cells the heap has; how many slots were made; addresses of constants -/
abbrev sS : Type := (Nat → Option sC) × Nat × Nat × (Nat → Nat)
/-- how a method ends: it returned, or it threw an object of a class -/
abbrev sO : Type := Option Value ⊕ String
abbrev sR : Type := sO × sS
/-- a place in a method: program counter, the values that count there, the state -/
abbrev sL : Type := Nat × List Value × sS
def s_up (σ : sS) (a : Nat) (c : sC) : sS := (fun q => if q = a then some c else σ.1 q, σ.2)
def s_fv (σ : sS) (a ci k : Nat) : Option Value := match σ.1 a with
  | some (.inr o) => if o.1 = ci then o.2[k]? else none
  | _ => none
def s_fi (σ : sS) (a ci k : Nat) : Option Int32 := match s_fv σ a ci k with
  | some (.int x) => some x
  | _ => none
def s_fl (σ : sS) (a ci k : Nat) : Option Int64 := match s_fv σ a ci k with
  | some (.long x) => some x
  | _ => none
def s_fr (σ : sS) (a ci k : Nat) : Option Nat := match s_fv σ a ci k with
  | some (.ref x) => some x
  | _ => none
def s_pf (σ : sS) (a ci k : Nat) (v : Value) : Option sS := match σ.1 a with
  | some (.inr o) => if o.1 = ci ∧ k < o.2.length then some (s_up σ a (.inr (ci, o.2.set k v))) else none
  | _ => none
def s_out (i : Int32) (n : Nat) : Bool := decide (i < 0) || decide (n ≤ i.toNatClampNeg)
def s_ai (σ : sS) (a : Nat) (i : Int32) : Option Int32 := match σ.1 a with
  | some (.inl (t, n, .inl f)) => if (t = 0 ∨ t = 4) ∧ s_out i n = false then some (f i.toNatClampNeg) else none
  | _ => none
def s_ab (σ : sS) (a : Nat) (i : Int32) : Option Int32 := match σ.1 a with
  | some (.inl (t, n, .inl f)) => if (t = 2 ∨ t = 3 ∨ t = 6) ∧ s_out i n = false then some (f i.toNatClampNeg) else none
  | _ => none
def s_al (σ : sS) (a : Nat) (i : Int32) : Option Int64 := match σ.1 a with
  | some (.inl (t, n, .inr (.inl f))) => if (t = 1 ∨ t = 5) ∧ s_out i n = false then some (f i.toNatClampNeg) else none
  | _ => none
def s_len (σ : sS) (a : Nat) : Option Int32 := match σ.1 a with
  | some (.inl (t, x)) => if t < 7 then some (Int32.ofNat x.1) else none
  | _ => none
def s_si (σ : sS) (a : Nat) (i x : Int32) : Option sS := match σ.1 a with
  | some (.inl (t, n, .inl f)) => if t = 0 ∧ s_out i n = false then some (s_up σ a (.inl (0, n, .inl (upd f i.toNatClampNeg x)))) else none
  | _ => none
def s_sb (σ : sS) (a : Nat) (i x : Int32) : Option sS := match σ.1 a with
  | some (.inl (t, n, .inl f)) => if s_out i n = false then
      (if t = 2 then some (s_up σ a (.inl (2, n, .inl (upd f i.toNatClampNeg (vp_nar .byte x)))))
       else if t = 3 then some (s_up σ a (.inl (3, n, .inl (upd f i.toNatClampNeg (vp_nar .boolean x))))) else none) else none
  | _ => none
def s_sl (σ : sS) (a : Nat) (i : Int32) (x : Int64) : Option sS := match σ.1 a with
  | some (.inl (t, n, .inr (.inl f))) => if t = 1 ∧ s_out i n = false then some (s_up σ a (.inl (1, n, .inr (.inl (vp_updL f i.toNatClampNeg x))))) else none
  | _ => none
/-- a new object at the heap's end -/
def s_nw (σ : sS) (ci N : Nat) (fs : List Value) : sS := (fun q => if q = σ.2.1 then some (.inr (ci, fs)) else σ.1 q, σ.2.1 + 1, σ.2.2.1 + N, σ.2.2.2)
/-- a new array at the heap's end -/
def s_na (σ : sS) (t : Nat) (n : Int32) : Option sS :=
  if n < 0 ∨ 1000000 < n.toNatClampNeg then none
  else some (fun q => if q = σ.2.1 then some (.inl (t, n.toNatClampNeg, if t = 1 then .inr (.inl (fun _ => 0)) else .inl (fun _ => 0))) else σ.1 q, σ.2.1 + 1, σ.2.2.1 + n.toNatClampNeg, σ.2.2.2)
/-- an exception is made: a cell of six slots that nobody looks at -/
def s_ex (σ : sS) : sS := (σ.1, σ.2.1 + 1, σ.2.2.1 + 6, σ.2.2.2)
/-- copying among int arrays, among long arrays -/
def s_cpi (σ : sS) (a : Nat) (i : Int32) (b : Nat) (j n : Int32) : Option sS := match σ.1 a, σ.1 b with
  | some (.inl (t, m, .inl f)), some (.inl (t', m', .inl g)) => if t = 0 ∧ t' = 0 ∧ ¬ a = b ∧ ¬ i < 0 ∧ ¬ j < 0 ∧ ¬ n < 0 ∧ i.toNatClampNeg + n.toNatClampNeg ≤ m ∧ j.toNatClampNeg + n.toNatClampNeg ≤ m' then some (s_up σ b (.inl (0, m', .inl (va_cpy f g i.toNatClampNeg j.toNatClampNeg n.toNatClampNeg)))) else none
  | some (.inl (t, m, .inr (.inl f))), some (.inl (t', m', .inr (.inl g))) => if t = 1 ∧ t' = 1 ∧ ¬ a = b ∧ ¬ i < 0 ∧ ¬ j < 0 ∧ ¬ n < 0 ∧ i.toNatClampNeg + n.toNatClampNeg ≤ m ∧ j.toNatClampNeg + n.toNatClampNeg ≤ m' then some (s_up σ b (.inl (1, m', .inr (.inl (va_cpy f g i.toNatClampNeg j.toNatClampNeg n.toNatClampNeg))))) else none
  | _, _ => none
/-! label machines: a step leads to a label, or to the end -/
section RUN
variable {L R : Type}
def s_it (step : L → Option (L ⊕ R)) : Nat → L → Option R
  | 0, _ => none
  | n + 1, x => match step x with
    | none => none
    | some (.inl y) => s_it step n y
    | some (.inr r) => some r
noncomputable def s_run (step : L → Option (L ⊕ R)) (x : L) : Option R := @dite _ (∃ r n, s_it step n x = some r) (Classical.propDecidable _) (fun h => some (Classical.choose h)) (fun _ => none)
def s_go (step : L → Option (L ⊕ R)) (run : L → Option R) (o : Option (L ⊕ R)) : Option R := match o with
  | none => none
  | some (.inl y) => run y
  | some (.inr r) => some r
theorem s_it_mono (step : L → Option (L ⊕ R)) : ∀ (n k : Nat) (x : L) (r : R), s_it step n x = some r → s_it step (n + k) x = some r := by
  intro n
  induction n with
  | zero => intro k x r h; cases h
  | succ n ih =>
    intro k x r h
    rw [show n + 1 + k = (n + k) + 1 by omega]
    simp only [s_it] at h ⊢
    cases hs : step x with
    | none => rw [hs] at h; cases h
    | some z =>
      rw [hs] at h
      cases z with
      | inl y => exact ih k y r h
      | inr q => exact h
theorem s_it_one (step : L → Option (L ⊕ R)) {n k : Nat} {x : L} {r q : R} (h : s_it step n x = some r) (g : s_it step k x = some q) : r = q := by
  have h1 := s_it_mono step n k x r h
  have g1 := s_it_mono step k n x q g
  rw [Nat.add_comm k n, h1] at g1
  exact Option.some.inj g1
theorem s_run_of {step : L → Option (L ⊕ R)} {x : L} {r : R} {n : Nat} (h : s_it step n x = some r) : s_run step x = some r := by
  have e : ∃ r n, s_it step n x = some r := ⟨r, n, h⟩
  unfold s_run
  rw [dif_pos e]
  obtain ⟨k, hk⟩ := Classical.choose_spec e
  exact congrArg some (s_it_one step hk h)
theorem s_run_to {step : L → Option (L ⊕ R)} {x : L} {r : R} (h : s_run step x = some r) : ∃ n, s_it step n x = some r := by
  unfold s_run at h
  split at h
  next e =>
    have h1 := Option.some.inj h
    rw [← h1]
    exact Classical.choose_spec e
  next => cases h
/-- the equation of a machine -/
theorem s_run_eq (step : L → Option (L ⊕ R)) (x : L) : s_run step x = s_go step (s_run step) (step x) := by
  cases hs : step x with
  | none =>
    cases hr : s_run step x with
    | none => rfl
    | some r =>
      obtain ⟨n, hn⟩ := s_run_to hr
      cases n with
      | zero => cases hn
      | succ n => simp only [s_it, hs] at hn; cases hn
  | some z =>
    cases z with
    | inr r => exact s_run_of (n := 1) (by simp only [s_it, hs])
    | inl y =>
      show s_run step x = s_run step y
      cases hy : s_run step y with
      | some r =>
        obtain ⟨n, hn⟩ := s_run_to hy
        exact s_run_of (n := n + 1) (by simp only [s_it, hs]; exact hn)
      | none =>
        cases hr : s_run step x with
        | none => rfl
        | some r =>
          obtain ⟨n, hn⟩ := s_run_to hr
          cases n with
          | zero => cases hn
          | succ n =>
            simp only [s_it, hs] at hn
            rw [s_run_of hn] at hy
            cases hy
/-- what each step of a machine carries, its run carries -/
theorem s_run_ind {step : L → Option (L ⊕ R)} (V : L → R → Prop) (hs : ∀ x z r, step x = some z → (match z with | .inl y => V y r | .inr q => q = r) → V x r) {x : L} {r : R} (h : s_run step x = some r) : V x r := by
  obtain ⟨n, hn⟩ := s_run_to h
  clear h
  induction n generalizing x with
  | zero => cases hn
  | succ n ih =>
    simp only [s_it] at hn
    cases hx : step x with
    | none => rw [hx] at hn; cases hn
    | some z =>
      rw [hx] at hn
      cases z with
      | inl y => exact hs x _ r hx (ih hn)
      | inr q => exact hs x _ r hx (Option.some.inj hn)
end RUN
