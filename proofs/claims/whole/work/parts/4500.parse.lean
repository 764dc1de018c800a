/-! the text: how it is read, as a pure descent over bytes -/
abbrev pR : Type := (Nat × List Nat) ⊕ Nat
abbrev pF : Type := Bool → Nat → Nat → pR
def skp (t : Nat → Nat) (N : Nat) : Nat → Nat → Nat
  | 0, p => p
  | k + 1, p => if p < N ∧ t p = 32 then skp t N k (p + 1) else p
def sk (t : Nat → Nat) (N p : Nat) : Nat := skp t N (N - p) p
def wep (t : Nat → Nat) (N : Nat) : Nat → Nat → Nat
  | 0, p => p
  | k + 1, p => if p < N ∧ 97 ≤ t p ∧ t p ≤ 122 then wep t N k (p + 1) else p
def we (t : Nat → Nat) (N p : Nat) : Nat := wep t N (N - p) p
def chr (t : Nat → Nat) (N p : Nat) : Nat := if p < N then t p else 999
def mapR (s : Nat) (r : pR) : pR := match r with
  | .inl (p, l) => .inl (p, s :: l)
  | .inr e => .inr e
def isW (t : Nat → Nat) (W : List Nat) (q e : Nat) : Prop := e - q = W.length ∧ ∀ i, i < W.length → t (q + i) = W.getD i 0
def pShort (t : Nat → Nat) (N D q s : Nat) : pR :=
  if 112 ≤ t q ∧ t q ≤ 115 then (if 40 ≤ s then .inr q else .inl (q + 1, [t q - 112]))
  else if t q = 102 ∨ t q = 103 then
    (if 48 ≤ chr t N (q + 1) ∧ chr t N (q + 1) ≤ 57 then
      (if 40 ≤ s then .inr q else if chr t N (q + 1) - 48 < D then .inl (q + 2, [(if t q = 102 then 6 else 9) + (chr t N (q + 1) - 48)]) else .inr (q + 1))
    else .inr q)
  else .inr q
noncomputable def pWord (t : Nat → Nat) (N D : Nat) (dk : Bool) (su : pF) (b : Bool) (q e s : Nat) : pR :=
  @ite _ (isW t [97, 108, 108] q e) (Classical.propDecidable _) (if b = true ∨ dk = false ∨ 40 ≤ s then .inr q else mapR 16 (su true e (s + 1)))
    (@ite _ (isW t [115, 111, 109, 101] q e) (Classical.propDecidable _) (if b = true ∨ dk = false ∨ 40 ≤ s then .inr q else mapR 17 (su true e (s + 1)))
      (if e - q = 1 then pShort t N D q s
       else if (e - q = 2 ∧ (t q = 102 ∨ t q = 103) ∧ t (q + 1) = 120) ∧ b = true ∧ s < 40 then .inl (e, [if t q = 102 then 4 else 5]) else .inr q))
noncomputable def pUnit (t : Nat → Nat) (N D : Nat) (dk : Bool) (su si : pF) (b : Bool) (p s : Nat) : pR :=
  if chr t N (sk t N p) = 999 then .inr (sk t N p)
  else if chr t N (sk t N p) = 45 then (if dk = false ∨ 40 ≤ s then .inr (sk t N p) else mapR 12 (su b (sk t N p + 1) (s + 1)))
  else if chr t N (sk t N p) = 40 then (if dk = false then .inr (sk t N p) else match si b (sk t N p + 1) s with
    | .inl (p', l) => if chr t N (sk t N p') = 41 then .inl (sk t N p' + 1, l) else .inr (sk t N p')
    | .inr e => .inr e)
  else if 97 ≤ chr t N (sk t N p) ∧ chr t N (sk t N p) ≤ 122 then pWord t N D dk su b (sk t N p) (we t N (sk t N p)) s
  else .inr (sk t N p)
def pLoop (t : Nat → Nat) (N op sg : Nat) (u : Nat → Nat → pR) : Nat → Nat → Nat → List Nat → pR
  | 0, p, _, l => .inl (sk t N p, l)
  | k + 1, p, s, l => if chr t N (sk t N p) = op then (if 40 ≤ s then .inr (sk t N p) else match u (sk t N p + 1) (s + 1) with
    | .inl (p', l') => pLoop t N op sg u k p' (s + 1 + l'.length) (sg :: (l ++ l'))
    | .inr e => .inr e) else .inl (sk t N p, l)
def pMany (t : Nat → Nat) (N op sg : Nat) (u : pF) (b : Bool) (p s : Nat) : pR := match u b p s with
  | .inl (p', l) => pLoop t N op sg (u b) 41 p' (s + l.length) l
  | .inr e => .inr e
def pIf (t : Nat → Nat) (N : Nat) (dk : Bool) (o si : pF) (b : Bool) (p s : Nat) : pR := match o b p s with
  | .inl (p', l) => if chr t N (sk t N p') = 62 then (if dk = false ∨ 40 ≤ s + l.length then .inr (sk t N p') else match si b (sk t N p' + 1) (s + l.length + 1) with
    | .inl (p2, l') => .inl (p2, 15 :: (l ++ l'))
    | .inr e => .inr e) else .inl (sk t N p', l)
  | .inr e => .inr e
def no0 : pF := fun _ _ _ => .inr 0
/-- unit and if with r levels left -/
noncomputable def lev (t : Nat → Nat) (N D : Nat) : Nat → pF × pF
  | 0 => (pUnit t N D false no0 no0, pIf t N false (pMany t N 124 14 (pMany t N 38 13 (pUnit t N D false no0 no0))) no0)
  | r + 1 => (pUnit t N D true (lev t N D r).1 (lev t N D r).2, pIf t N true (pMany t N 124 14 (pMany t N 38 13 (pUnit t N D true (lev t N D r).1 (lev t N D r).2))) (lev t N D r).2)
section SK
variable {t : Nat → Nat} {N D : Nat}
theorem sk_s {p : Nat} (h : p < N) (h2 : t p = 32) : sk t N p = sk t N (p + 1) := by
  unfold sk
  rw [show N - p = N - (p + 1) + 1 by omega]
  show (if p < N ∧ t p = 32 then _ else _) = _
  rw [if_pos ⟨h, h2⟩]
theorem sk_n {p : Nat} (h : ¬ (p < N ∧ t p = 32)) : sk t N p = p := by
  unfold sk
  cases e : N - p with
  | zero => rfl
  | succ k =>
    show (if p < N ∧ t p = 32 then _ else _) = _
    rw [if_neg h]
theorem sk_all : ∀ d p, p + d = N → p ≤ sk t N p ∧ sk t N p ≤ N ∧ ¬ (sk t N p < N ∧ t (sk t N p) = 32) := by
  intro d
  induction d with
  | zero =>
    intro p hp
    rw [sk_n (fun z => by omega)]
    exact ⟨Nat.le_refl _, by omega, fun z => by omega⟩
  | succ d ih =>
    intro p hp
    by_cases g : t p = 32
    · rw [sk_s (by omega) g]
      have := ih (p + 1) (by omega)
      exact ⟨by omega, this.2.1, this.2.2⟩
    · rw [sk_n (fun z => g z.2)]
      exact ⟨Nat.le_refl _, by omega, fun z => g z.2⟩
theorem sk_le {p : Nat} (h : p ≤ N) : p ≤ sk t N p ∧ sk t N p ≤ N := by
  have := sk_all (t := t) (N := N) (N - p) p (by omega)
  exact ⟨this.1, this.2.1⟩
theorem sk_sk {p : Nat} (h : p ≤ N) : sk t N (sk t N p) = sk t N p := sk_n (sk_all (t := t) (N := N) (N - p) p (by omega)).2.2
theorem we_s {p : Nat} (h : p < N) (h2 : 97 ≤ t p ∧ t p ≤ 122) : we t N p = we t N (p + 1) := by
  unfold we
  rw [show N - p = N - (p + 1) + 1 by omega]
  show (if p < N ∧ 97 ≤ t p ∧ t p ≤ 122 then _ else _) = _
  rw [if_pos ⟨h, h2⟩]
theorem we_n {p : Nat} (h : ¬ (p < N ∧ 97 ≤ t p ∧ t p ≤ 122)) : we t N p = p := by
  unfold we
  cases e : N - p with
  | zero => rfl
  | succ k =>
    show (if p < N ∧ 97 ≤ t p ∧ t p ≤ 122 then _ else _) = _
    rw [if_neg h]
theorem we_all : ∀ d p, p + d = N → p ≤ we t N p ∧ we t N p ≤ N := by
  intro d
  induction d with
  | zero =>
    intro p hp
    rw [we_n (fun z => by omega)]
    exact ⟨Nat.le_refl _, by omega⟩
  | succ d ih =>
    intro p hp
    by_cases g : 97 ≤ t p ∧ t p ≤ 122
    · rw [we_s (by omega) g]
      have := ih (p + 1) (by omega)
      exact ⟨by omega, this.2⟩
    · rw [we_n (fun z => g z.2)]
      exact ⟨Nat.le_refl _, by omega⟩
theorem we_le {p : Nat} (h : p ≤ N) : p ≤ we t N p ∧ we t N p ≤ N := we_all (N - p) p (by omega)
theorem chr_lt {p : Nat} (h : chr t N p ≠ 999) : p < N := Classical.byContradiction fun g => h (if_neg g)
/-- what a good reading gives -/
def gd (N : Nat) (b : Bool) (p s : Nat) (r : pR) : Prop := match r with
  | .inl (p', l) => wff l ∧ (∀ x ∈ l, x < 18) ∧ s + l.length ≤ 40 ∧ p ≤ p' ∧ p' ≤ N ∧ (b = true → ∀ x ∈ l, x ≠ 16 ∧ x ≠ 17) ∧ (b = false → clo l)
  | .inr e => e ≤ N
def gdF (N : Nat) (f : pF) : Prop := ∀ b p s, p ≤ N → s ≤ 40 → gd N b p s (f b p s)
theorem gd_map {b b' : Bool} {p p0 s sg : Nat} {r : pR} (hp : p0 ≤ p) (h : gd N b' p (s + 1) r) (h1 : ar sg = 1) (hsg : sg < 18) (hb : b = true → (sg ≠ 16 ∧ sg ≠ 17) ∧ b' = true) (hc : b = false → (sg = 12 ∧ b' = false) ∨ ((sg = 16 ∨ sg = 17) ∧ b' = true)) : gd N b p0 s (mapR sg r) := by
  match r, h with
  | .inr e, h => exact h
  | .inl (p', l), ⟨a1, a2, a3, a4, a5, a6, a7⟩ =>
    refine ⟨wff_one h1 a1, fun x hx => ?_, by simp only [List.length_cons]; omega, by omega, a5, fun hb' x hx => ?_, fun hb' => ?_⟩
    · rcases List.mem_cons.mp hx with rfl | hx
      · exact hsg
      · exact a2 x hx
    · rcases List.mem_cons.mp hx with rfl | hx
      · exact (hb hb').1
      · exact a6 (hb hb').2 x hx
    · rcases hc hb' with ⟨rfl, hf⟩ | ⟨hs, ht⟩
      · obtain ⟨d, hd⟩ := a7 hf
        exact ⟨d + 1, Or.inr (Or.inl ⟨l, a1, rfl, hd⟩)⟩
      · exact ⟨1, Or.inr (Or.inr (Or.inr ⟨sg, l, hs, a1, rfl, a6 ht⟩))⟩
theorem clo_j {s : Nat} {a b : List Nat} (hs : ar s = 2) (ha : wff a) (hb : wff b) (ca : clo a) (cb : clo b) : clo (s :: (a ++ b)) := by
  obtain ⟨d, hd⟩ := ca
  obtain ⟨e, he⟩ := cb
  exact ⟨d + e + 1, Or.inr (Or.inr (Or.inl ⟨s, a, b, hs, ha, hb, rfl, cloF_mono d _ a (by omega) hd, cloF_mono e _ b (by omega) he⟩))⟩
theorem gd_join {b : Bool} {p p0 p' s sg : Nat} {l l' : List Nat} (hsg : ar sg = 2) (h : gd N b p0 s (.inl (p, l))) (h' : gd N b p (s + l.length + 1) (.inl (p', l'))) : gd N b p0 s (.inl (p', sg :: (l ++ l'))) := by
  obtain ⟨a1, a2, a3, a4, a5, a6, a7⟩ := h
  obtain ⟨b1, b2', b3, b4, b5, b6, b7⟩ := h'
  have h18 := ar2_cases hsg
  refine ⟨wff_two hsg a1 b1, fun x hx => ?_, by simp only [List.length_cons, List.length_append]; omega, by omega, b5, fun hb x hx => ?_, fun hb => clo_j hsg a1 b1 (a7 hb) (b7 hb)⟩
  · rcases List.mem_cons.mp hx with rfl | hx
    · omega
    · rcases List.mem_append.mp hx with hx | hx
      · exact a2 x hx
      · exact b2' x hx
  · rcases List.mem_cons.mp hx with rfl | hx
    · omega
    · rcases List.mem_append.mp hx with hx | hx
      · exact a6 hb x hx
      · exact b6 hb x hx
theorem gd_mono {b : Bool} {p p0 s : Nat} {r : pR} (h : gd N b p s r) (hp : p0 ≤ p) : gd N b p0 s r := by
  match r, h with
  | .inr e, h => exact h
  | .inl (p', l), ⟨a1, a2, a3, a4, a5, a6, a7⟩ => exact ⟨a1, a2, a3, by omega, a5, a6, a7⟩
theorem gd_atom {b : Bool} {p p' s x : Nat} (hx : x < 12) (hs : ¬ 40 ≤ s) (h1 : p ≤ p') (h2 : p' ≤ N) (hb : b = false → x ≠ 4 ∧ x ≠ 5) : gd N b p s (.inl (p', [x])) := by
  have har : ar x = 0 := by unfold ar; rw [if_neg (by omega), if_neg (by omega)]
  refine ⟨wff_atom har, fun y hy => ?_, by simp; omega, h1, h2, fun _ y hy => ?_, fun hb' => ⟨1, Or.inl ⟨x, har, (hb hb').1, (hb hb').2, rfl⟩⟩⟩
  · rw [List.mem_singleton.mp hy]; omega
  · rw [List.mem_singleton.mp hy]; omega
theorem g_short {b : Bool} {q s : Nat} (hD : D ≤ 3) (hq : q < N) : gd N b q s (pShort t N D q s) := by
  unfold pShort
  split
  · split
    · exact Nat.le_of_lt hq
    · rename_i h1 h2
      exact gd_atom (by omega) h2 (by omega) (by omega) fun _ => by omega
  · split
    · split
      · rename_i h1
        have hq1 : q + 1 < N := chr_lt (t := t) (N := N) (p := q + 1) (by omega)
        split
        · exact Nat.le_of_lt hq
        · split
          · rename_i h3 h4
            refine gd_atom ?_ h3 (by omega) (by omega) fun _ => ?_
            · split <;> omega
            · split <;> omega
          · exact Nat.le_of_lt hq1
      · exact Nat.le_of_lt hq
    · exact Nat.le_of_lt hq
theorem g_word {dk b : Bool} {su : pF} {q s : Nat} (hD : D ≤ 3) (hsu : gdF N su) (hq : q < N) (hs : s ≤ 40) : gd N b q s (pWord t N D dk su b q (we t N q) s) := by
  have hwe := we_le (t := t) (Nat.le_of_lt hq)
  have bi : ∀ sg, (sg = 16 ∨ sg = 17) → gd N b q s (if b = true ∨ dk = false ∨ 40 ≤ s then .inr q else mapR sg (su true (we t N q) (s + 1))) := by
    intro sg hsg
    split
    · exact Nat.le_of_lt hq
    · rename_i g
      refine gd_map (b' := true) hwe.1 (hsu true _ (s + 1) hwe.2 (by omega)) (by rcases hsg with rfl | rfl <;> rfl) (by omega) (fun hb => absurd (Or.inl hb) g) (fun _ => Or.inr ⟨hsg, rfl⟩)
  unfold pWord
  by_cases g1 : isW t [97, 108, 108] q (we t N q)
  · rw [if_pos g1]; exact bi 16 (Or.inl rfl)
  · rw [if_neg g1]
    by_cases g2 : isW t [115, 111, 109, 101] q (we t N q)
    · rw [if_pos g2]; exact bi 17 (Or.inr rfl)
    · rw [if_neg g2]
      split
      · exact g_short hD hq
      · split
        · rename_i h1
          refine gd_atom (by split <;> omega) (by omega) hwe.1 hwe.2 fun hb => ?_
          rw [h1.2.1] at hb
          cases hb
        · exact Nat.le_of_lt hq
theorem g_unit {dk : Bool} {su si : pF} (hD : D ≤ 3) (hsu : gdF N su) (hsi : gdF N si) : gdF N (pUnit t N D dk su si) := by
  intro b p s hp hs
  have hk := sk_le (t := t) hp
  unfold pUnit
  split
  · exact hk.2
  · rename_i h0
    have hq := chr_lt h0
    split
    · split
      · exact hk.2
      · rename_i g
        exact gd_map (b' := b) (by omega) (hsu b _ (s + 1) (by omega) (by omega)) rfl (by decide) (fun hb => ⟨by decide, hb⟩) (fun hb => Or.inl ⟨rfl, hb⟩)
    · split
      · split
        · exact hk.2
        · have z := hsi b (sk t N p + 1) s (by omega) hs
          match hr : si b (sk t N p + 1) s with
          | .inr e => rw [hr] at z; exact z
          | .inl (p', l) =>
            rw [hr] at z
            have hp' := z.2.2.2.2.1
            have hk' := sk_le (t := t) hp'
            show gd N b p s (if chr t N (sk t N p') = 41 then _ else _)
            split
            · rename_i h41
              have := chr_lt (t := t) (N := N) (p := sk t N p') (by omega)
              obtain ⟨a1, a2, a3, a4, a5, a6, a7⟩ := z
              exact ⟨a1, a2, a3, by omega, by omega, a6, a7⟩
            · exact hk'.2
      · split
        · exact gd_mono (g_word hD hsu hq hs) hk.1
        · exact hk.2
theorem g_loop {op sg : Nat} {u : Nat → Nat → pR} {b : Bool} (hop : op ≠ 999) (hsg : ar sg = 2) (hu : ∀ p s, p ≤ N → s ≤ 40 → gd N b p s (u p s)) : ∀ k p p0 s0 l, gd N b p0 s0 (.inl (p, l)) → gd N b p0 s0 (pLoop t N op sg u k p (s0 + l.length) l) := by
  intro k
  induction k with
  | zero =>
    intro p p0 s0 l h
    obtain ⟨a1, a2, a3, a4, a5, a6, a7⟩ := h
    have hk := sk_le (t := t) a5
    exact ⟨a1, a2, a3, by omega, hk.2, a6, a7⟩
  | succ k ih =>
    intro p p0 s0 l h
    obtain ⟨a1, a2, a3, a4, a5, a6, a7⟩ := h
    have hk := sk_le (t := t) a5
    show gd N b p0 s0 (if chr t N (sk t N p) = op then _ else _)
    split
    · rename_i hc
      have hq : sk t N p < N := chr_lt (t := t) (N := N) (by rw [hc]; exact hop)
      split
      · exact hk.2
      · have z := hu (sk t N p + 1) (s0 + l.length + 1) (by omega) (by omega)
        match hr : u (sk t N p + 1) (s0 + l.length + 1) with
        | .inr e => rw [hr] at z; exact z
        | .inl (p', l') =>
          rw [hr] at z
          have := gd_join (sg := sg) hsg (show gd N b p0 s0 (.inl (sk t N p + 1, l)) from ⟨a1, a2, a3, by omega, by omega, a6, a7⟩) z
          have e : s0 + l.length + 1 + l'.length = s0 + (sg :: (l ++ l')).length := by simp only [List.length_cons, List.length_append]; omega
          show gd N b p0 s0 (pLoop t N op sg u k p' (s0 + l.length + 1 + l'.length) (sg :: (l ++ l')))
          rw [e]
          exact ih p' p0 s0 _ this
    · exact ⟨a1, a2, a3, by omega, hk.2, a6, a7⟩
theorem g_many {op sg : Nat} {u : pF} (hop : op ≠ 999) (hsg : ar sg = 2) (hu : gdF N u) : gdF N (pMany t N op sg u) := by
  intro b p s hp hs
  have z := hu b p s hp hs
  unfold pMany
  match hr : u b p s with
  | .inr e => rw [hr] at z; exact z
  | .inl (p', l) =>
    rw [hr] at z
    exact g_loop hop hsg (fun p s h1 h2 => hu b p s h1 h2) 41 p' p s l z
theorem g_if {dk : Bool} {o si : pF} (ho : gdF N o) (hsi : gdF N si) : gdF N (pIf t N dk o si) := by
  intro b p s hp hs
  have z := ho b p s hp hs
  unfold pIf
  match hr : o b p s with
  | .inr e => rw [hr] at z; exact z
  | .inl (p', l) =>
    rw [hr] at z
    obtain ⟨a1, a2, a3, a4, a5, a6, a7⟩ := z
    have hk := sk_le (t := t) a5
    show gd N b p s (if chr t N (sk t N p') = 62 then _ else _)
    split
    · rename_i hc
      have hq : sk t N p' < N := chr_lt (t := t) (N := N) (by rw [hc]; decide)
      split
      · exact hk.2
      · rename_i g
        have z2 := hsi b (sk t N p' + 1) (s + l.length + 1) (by omega) (by omega)
        match hr2 : si b (sk t N p' + 1) (s + l.length + 1) with
        | .inr e => rw [hr2] at z2; exact z2
        | .inl (p2, l') =>
          rw [hr2] at z2
          exact gd_join (sg := 15) rfl (show gd N b p s (.inl (sk t N p' + 1, l)) from ⟨a1, a2, a3, by omega, by omega, a6, a7⟩) z2
    · exact ⟨a1, a2, a3, by omega, hk.2, a6, a7⟩
theorem g_no : gdF N no0 := fun _ _ _ _ _ => Nat.zero_le _
theorem g_lev (hD : D ≤ 3) : ∀ r, gdF N (lev t N D r).1 ∧ gdF N (lev t N D r).2 := by
  intro r
  induction r with
  | zero =>
    have h := g_unit (t := t) (dk := false) hD (g_no (N := N)) g_no
    exact ⟨h, g_if (g_many (by decide) rfl (g_many (by decide) rfl h)) g_no⟩
  | succ r ih =>
    have h := g_unit (t := t) (dk := true) hD ih.1 ih.2
    exact ⟨h, g_if (g_many (by decide) rfl (g_many (by decide) rfl h)) ih.2⟩
end SK
