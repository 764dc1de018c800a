/-! cheapest derivations: what holds of them with no word of the program -/
def lmt (v : Nat) : Nat := if v ≤ 99999 then v else 268435456
theorem lmt_mono {a b : Nat} (h : a ≤ b) : lmt a ≤ lmt b := by
  unfold lmt
  by_cases g : b ≤ 99999
  · rw [if_pos g, if_pos (by omega)]; exact h
  · rw [if_neg g]
    by_cases g' : a ≤ 99999
    · rw [if_pos g']; omega
    · rw [if_neg g']; exact Nat.le_refl _
theorem lmt_far {a : Nat} : lmt a ≤ 268435456 := by
  unfold lmt
  by_cases g : a ≤ 99999
  · rw [if_pos g]; omega
  · rw [if_neg g]; exact Nat.le_refl _
theorem least_ex {p : Nat → Prop} (h : ∃ k, p k) : ∃ k, p k ∧ ∀ m, p m → k ≤ m := by
  obtain ⟨k, hk⟩ := h
  induction k using Nat.strongRecOn with
  | _ k ih =>
    by_cases g : ∃ m, m < k ∧ p m
    · obtain ⟨m, h1, h2⟩ := g
      exact ih m h1 h2
    · exact ⟨k, hk, fun m hm => Nat.le_of_not_lt (fun z => g ⟨m, z, hm⟩)⟩
abbrev nN : Type := Nat × Nat
abbrev sumC (c : nN → Nat) (ps : List nN) : Nat := (ps.map c).sum
theorem sumC_le {c c' : nN → Nat} : ∀ ps : List nN, (∀ p ∈ ps, c p ≤ c' p) → sumC c ps ≤ sumC c' ps := by
  intro ps
  induction ps with
  | nil => intro _; exact Nat.le_refl _
  | cons a ps ih =>
    intro h
    have h1 := h a List.mem_cons_self
    have h2 := ih (fun p hp => h p (List.mem_cons_of_mem _ hp))
    show (List.map c (a :: ps)).sum ≤ (List.map c' (a :: ps)).sum
    rw [List.map_cons, List.map_cons, List.sum_cons, List.sum_cons]
    exact Nat.add_le_add h1 h2
theorem sumC_eq {c c' : nN → Nat} : ∀ ps : List nN, (∀ p ∈ ps, c p ≤ c' p) → sumC c' ps ≤ sumC c ps → ∀ p ∈ ps, c p = c' p := by
  intro ps
  induction ps with
  | nil => intro _ _ p hp; cases hp
  | cons a ps ih =>
    intro h g p hp
    have h1 := h a List.mem_cons_self
    have h2 := sumC_le ps (fun p hp => h p (List.mem_cons_of_mem _ hp))
    have g' : c' a + sumC c' ps ≤ c a + sumC c ps := g
    rcases List.mem_cons.mp hp with q | q
    · rw [q]; omega
    · exact ih (fun p hp => h p (List.mem_cons_of_mem _ hp)) (by omega) p q
theorem sumC_mem {c : nN → Nat} : ∀ ps : List nN, ∀ p ∈ ps, c p ≤ sumC c ps := by
  intro ps
  induction ps with
  | nil => intro p hp; cases hp
  | cons a ps ih =>
    intro p hp
    have e : sumC c (a :: ps) = c a + sumC c ps := by
      show (List.map c (a :: ps)).sum = _
      rw [List.map_cons, List.sum_cons]
    rcases List.mem_cons.mp hp with q | q
    · rw [q]; omega
    · have := ih p q; omega
section DRV
variable {I : Nat → nN → List nN → Nat → Prop}
/-- derivations: their height, what they cost -/
def Dv (I : Nat → nN → List nN → Nat → Prop) : Nat → nN → Nat → Prop
  | 0, _, _ => False
  | h + 1, x, v => ∃ r ps b c, I r x ps b ∧ (∀ p ∈ ps, Dv I h p (c p)) ∧ v = b + sumC c ps ∧ v ≤ 99999
theorem Dv.mo : ∀ {h : Nat} {x : nN} {v : Nat}, Dv I h x v → Dv I (h + 1) x v := by
  intro h
  induction h with
  | zero => intro x v z; exact z.elim
  | succ h ih =>
    intro x v z
    obtain ⟨r, ps, b, c, h1, h2, h3, h4⟩ := z
    exact ⟨r, ps, b, c, h1, fun p hp => ih (h2 p hp), h3, h4⟩
theorem Dv.up {h h' : Nat} {x : nN} {v : Nat} (hh : h ≤ h') (z : Dv I h x v) : Dv I h' x v := by
  obtain ⟨d, rfl⟩ := Nat.exists_eq_add_of_le hh
  clear hh
  induction d with
  | zero => exact z
  | succ d ih => exact ih.mo
theorem Dv.lim {h : Nat} {x : nN} {v : Nat} (z : Dv I h x v) : v ≤ 99999 := by
  cases h with
  | zero => exact z.elim
  | succ h => obtain ⟨r, ps, b, c, h1, h2, h3, h4⟩ := z; exact h4
def DvE (I : Nat → nN → List nN → Nat → Prop) (x : nN) (v : Nat) : Prop := ∃ h, Dv I h x v
theorem mu_ex (I : Nat → nN → List nN → Nat → Prop) (x : nN) : ∃ v, (DvE I x v ∧ ∀ v', DvE I x v' → v ≤ v') ∨ (v = 268435456 ∧ ∀ v', ¬ DvE I x v') := by
  by_cases h : ∃ v, DvE I x v
  · obtain ⟨v, h1, h2⟩ := least_ex h
    exact ⟨v, Or.inl ⟨h1, h2⟩⟩
  · exact ⟨268435456, Or.inr ⟨rfl, fun v' z => h ⟨v', z⟩⟩⟩
noncomputable def mu (I : Nat → nN → List nN → Nat → Prop) (x : nN) : Nat := Classical.choose (mu_ex I x)
theorem mu_sp (x : nN) : (DvE I x (mu I x) ∧ ∀ v', DvE I x v' → mu I x ≤ v') ∨ (mu I x = 268435456 ∧ ∀ v', ¬ DvE I x v') := Classical.choose_spec (mu_ex I x)
theorem mu_le {x : nN} {v : Nat} (h : DvE I x v) : mu I x ≤ v := by
  rcases mu_sp (I := I) x with g | g
  · exact g.2 v h
  · exact absurd h (g.2 v)
theorem mu_dv {x : nN} (h : mu I x < 268435456) : DvE I x (mu I x) := by
  rcases mu_sp (I := I) x with g | g
  · exact g.1
  · omega
theorem mu_far {x : nN} : mu I x ≤ 268435456 := by
  rcases mu_sp (I := I) x with g | g
  · obtain ⟨h, z⟩ := g.1
    have := z.lim
    omega
  · omega
theorem dv_all : ∀ (ps : List nN) (c : nN → Nat), (∀ p ∈ ps, DvE I p (c p)) → ∃ h, ∀ p ∈ ps, Dv I h p (c p) := by
  intro ps c
  induction ps with
  | nil => intro _; exact ⟨0, fun p hp => by cases hp⟩
  | cons a ps ih =>
    intro h
    obtain ⟨h1, z1⟩ := h a List.mem_cons_self
    obtain ⟨h2, z2⟩ := ih (fun p hp => h p (List.mem_cons_of_mem _ hp))
    refine ⟨h1 + h2, fun p hp => ?_⟩
    rcases List.mem_cons.mp hp with q | q
    · rw [q]; exact z1.up (by omega)
    · exact (z2 p q).up (by omega)
theorem mu_step {r : Nat} {x : nN} {ps : List nN} {b : Nat} (hI : I r x ps b) : mu I x ≤ lmt (b + sumC (mu I) ps) := by
  unfold lmt
  by_cases g : b + sumC (mu I) ps ≤ 99999
  · rw [if_pos g]
    obtain ⟨h, hh⟩ := dv_all (I := I) ps (mu I) (fun p hp => mu_dv (by have := sumC_mem (c := mu I) ps p hp; omega))
    exact mu_le ⟨h + 1, r, ps, b, mu I, hI, hh, rfl, g⟩
  · rw [if_neg g]; exact mu_far
/-- costs that are those of derivations -/
def snd (I : Nat → nN → List nN → Nat → Prop) (c : nN → Nat) : Prop := ∀ x, mu I x ≤ c x ∧ c x ≤ 268435456
/-- a step keeps this -/
theorem snd_step {r : Nat} {x : nN} {ps : List nN} {b : Nat} {c : nN → Nat} (hc : snd I c) (hI : I r x ps b) : mu I x ≤ lmt (b + sumC c ps) :=
  Nat.le_trans (mu_step hI) (lmt_mono (Nat.add_le_add_left (sumC_le ps (fun p _ => (hc p).1)) b))
/-- closed costs are the least -/
theorem clo_eq {X : nN → Prop} {c : nN → Nat} (hc : snd I c) (hcl : ∀ r x ps b, X x → I r x ps b → c x ≤ lmt (b + sumC c ps)) (hX : ∀ r x ps b, X x → I r x ps b → ∀ p ∈ ps, X p ∨ c p = mu I p) : ∀ x, X x → c x = mu I x := by
  have key : ∀ h x v, X x → Dv I h x v → c x ≤ v := by
    intro h
    induction h with
    | zero => intro x v _ z; exact z.elim
    | succ h ih =>
      intro x v hx z
      obtain ⟨r, ps, b, c', h1, h2, h3, h4⟩ := z
      have hs : sumC c ps ≤ sumC c' ps := sumC_le ps (fun p hp => by
        rcases hX r x ps b hx h1 p hp with q | q
        · exact ih p _ q (h2 p hp)
        · rw [q]; exact mu_le ⟨h, h2 p hp⟩)
      have := hcl r x ps b hx h1
      unfold lmt at this
      rw [if_pos (by omega)] at this
      omega
  intro x hx
  have h1 := (hc x).1
  have h2 := (hc x).2
  by_cases g : mu I x < 268435456
  · obtain ⟨h, z⟩ := mu_dv g
    have := key h x _ hx z
    omega
  · omega
/-- a round of steps makes one more cost final -/
theorem rnd_one {X : nN → Prop} {c c' : nN → Nat} (hc : snd I c) (hc' : snd I c') (hst : ∀ r x ps b, X x → I r x ps b → c' x ≤ lmt (b + sumC c ps)) (hX : ∀ r x ps b, X x → I r x ps b → ∀ p ∈ ps, X p ∨ c p = mu I p) (hn : ∃ x, X x ∧ c x ≠ mu I x) : ∃ x, X x ∧ c x ≠ mu I x ∧ c' x = mu I x := by
  have hp : ∃ h, ∃ x, X x ∧ c x ≠ mu I x ∧ Dv I h x (mu I x) := by
    obtain ⟨x, h1, h2⟩ := hn
    have a1 := (hc x).1
    have a2 := (hc x).2
    obtain ⟨h, z⟩ := mu_dv (I := I) (x := x) (by omega)
    exact ⟨h, x, h1, h2, z⟩
  obtain ⟨h, ⟨x, h1, h2, h3⟩, hm⟩ := least_ex hp
  cases h with
  | zero => exact h3.elim
  | succ h =>
    obtain ⟨r, ps, b, c0, k1, k2, k3, k4⟩ := h3
    have e0 : ∀ p ∈ ps, mu I p ≤ c0 p := fun p hp => mu_le ⟨h, k2 p hp⟩
    have e1 := sumC_le ps e0
    have e2 := mu_step (I := I) k1
    unfold lmt at e2
    rw [if_pos (by omega)] at e2
    have e3 := sumC_eq ps e0 (by omega)
    have e4 : ∀ p ∈ ps, c p = mu I p := fun p hp => by
      rcases hX r x ps b h1 k1 p hp with q | q
      · refine Classical.byContradiction fun z => ?_
        have := hm h ⟨p, q, z, by rw [e3 p hp]; exact k2 p hp⟩
        omega
      · exact q
    have e5 : sumC c ps ≤ sumC (mu I) ps := sumC_le ps (fun p hp => by rw [e4 p hp]; exact Nat.le_refl _)
    have e6 := hst r x ps b h1 k1
    unfold lmt at e6
    rw [if_pos (by omega)] at e6
    have e7 := (hc' x).1
    exact ⟨x, h1, h2, by omega⟩
end DRV
/-- counting -/
theorem cnt_mo {p q : Nat → Prop} : ∀ k, (∀ i, i < k → p i → q i) → cntP p k ≤ cntP q k := by
  intro k
  induction k with
  | zero => intro _; exact Nat.le_refl _
  | succ k ih =>
    intro h
    have h1 := ih (fun i hi => h i (by omega))
    by_cases g : p k
    · rw [cntP_t g, cntP_t (h k (by omega) g)]; omega
    · rw [cntP_f g]
      by_cases g' : q k
      · rw [cntP_t g']; omega
      · rw [cntP_f g']; exact h1
theorem cnt_ls {p q : Nat → Prop} : ∀ k, (∀ i, i < k → p i → q i) → (∃ i, i < k ∧ ¬ p i ∧ q i) → cntP p k < cntP q k := by
  intro k
  induction k with
  | zero => rintro _ ⟨i, hi, _⟩; omega
  | succ k ih =>
    intro h g
    obtain ⟨i, hi, g1, g2⟩ := g
    by_cases e : i = k
    · subst e
      have h1 := cnt_mo i (fun j hj => h j (by omega))
      rw [cntP_f g1, cntP_t g2]
      omega
    · have h1 := ih (fun j hj => h j (by omega)) ⟨i, by omega, g1, g2⟩
      by_cases g' : p k
      · rw [cntP_t g', cntP_t (h k (by omega) g')]; omega
      · rw [cntP_f g']
        by_cases g'' : q k
        · rw [cntP_t g'']; omega
        · rw [cntP_f g'']; exact h1
theorem cnt_al {p : Nat → Prop} : ∀ k, k ≤ cntP p k → ∀ i, i < k → p i := by
  intro k
  induction k with
  | zero => intro _ i hi; omega
  | succ k ih =>
    intro h i hi
    by_cases g : p k
    · rw [cntP_t g] at h
      by_cases e : i = k
      · rw [e]; exact g
      · exact ih (by omega) i (by omega)
    · rw [cntP_f g] at h
      have := cntP_le (p := p) (k := k)
      omega
