/-! parts of lists: comparing them, in the model -/
theorem b2_congr {p q : Prop} (h : p ↔ q) : b2 p = b2 q := by rw [propext h]
def seg (l : List Nat) (i j : Nat) : List Nat := (l.drop i).take (j - i)
theorem seg_len {l : List Nat} {i j : Nat} (hj : j ≤ l.length) : (seg l i j).length = j - i := by
  unfold seg
  simp only [List.length_take, List.length_drop]
  omega
theorem seg_get {l : List Nat} {i j k : Nat} (hk : k < j - i) : (seg l i j)[k]? = l[i + k]? := by
  unfold seg
  rw [List.getElem?_take, if_pos hk, List.getElem?_drop]
theorem seg_eq {l l' : List Nat} {t : Option Nat} {i j N : Nat} (h1 : i + N ≤ l.length) (h2 : j + N ≤ l'.length) : (∀ m, 0 ≤ m → m < N → ins t (l.getD (i + m) 0) = l'.getD (j + m) 0) ↔ (seg l i (i + N)).map (ins t) = seg l' j (j + N) := by
  constructor
  · intro h
    apply List.ext_getElem?
    intro k
    by_cases hk : k < N
    · rw [List.getElem?_map, seg_get (by omega), seg_get (by omega)]
      have := h k (Nat.zero_le _) hk
      rw [List.getD_eq_getElem?_getD, List.getD_eq_getElem?_getD] at this
      rw [List.getElem?_eq_getElem (by omega), List.getElem?_eq_getElem (by omega)] at this ⊢
      simpa using this
    · rw [List.getElem?_eq_none (by rw [List.length_map, seg_len h1]; omega), List.getElem?_eq_none (by rw [seg_len h2]; omega)]
  · intro h m _ hm
    have := congrArg (fun z => z[m]?) h
    rw [List.getElem?_map, seg_get (by omega), seg_get (by omega), List.getElem?_eq_getElem (by omega), List.getElem?_eq_getElem (by omega)] at this
    rw [List.getD_eq_getElem?_getD, List.getD_eq_getElem?_getD, List.getElem?_eq_getElem (by omega), List.getElem?_eq_getElem (by omega)]
    simpa using this
section MP
variable {P : sP} {w : sW} {ex : Nat → Option sC} {n sl : Nat} {σ : sS}
theorem m_isPartL {f g i j N : Nat} {t : Option Nat} {a b : Nat → Nat} (hf : f < 72) (hg : g < 72) (hi : i + N ≤ 40) (hj : j + N ≤ 40) (ht : ∀ u, t = some u → u < 3) (ha : ∀ m, m < N → a m < 18 ∧ w.2.2.1 50 (40 * f + (i + m)) = mI (a m)) (hb : ∀ m, m < N → b m < 18 ∧ w.2.2.1 50 (40 * g + (j + m)) = mI (b m)) :
    ∀ (d k : Nat), k + d = N → R_X8_isPart_21 (P.2.1 + 46) (mI f) (mI i) (mI (i + N)) (thOf t) (mI g) (mI j) 1 (mI k) (hp P w ex n sl) = some (b2 (∀ m, k ≤ m → m < N → ins t (a m) = b m), hp P w ex n sl) := by
  intro d
  induction d with
  | zero =>
    intro k hk
    have hk : k = N := by omega
    subst hk
    rw [E_X8_isPart_21, if_neg (by decide), if_pos (by rw [mI_sub (by omega), mI_le (by omega) (by omega)]; omega), if_pos (Or.inr rfl), b2_t (fun m h1 h2 => absurd h1 (by omega))]
  | succ d ih =>
    intro k hk
    obtain ⟨a1, a2⟩ := ha k (by omega)
    obtain ⟨b1, b3⟩ := hb k (by omega)
    have e1 : mI i + mI k = mI (i + k) := mI_add i k
    have e2 : mI j + mI k = mI (j + k) := mI_add j k
    have e3 : mI k + 1 = mI (k + 1) := mI_add k 1
    have il := ins_lt ht a1
    rw [E_X8_isPart_21, if_neg (by decide), if_neg (by rw [mI_sub (by omega), mI_le (by omega) (by omega)]; omega)]
    simp only [e1, e2, m_at (x := mI f) (y := mI (i + k)) rfl rfl hf (show i + k < 40 by omega), ob, a2, m_set ht a1, m_at (x := mI g) (y := mI (j + k)) rfl rfl hg (show j + k < 40 by omega), b3, m_eqN (show ins t (a k) < 2 ^ 31 by omega) (show b k < 2 ^ 31 by omega), E_X8_isPart_67, e3]
    by_cases h : ins t (a k) = b k
    · rw [if_pos h, ih (k + 1) (by omega)]
      rw [b2_congr (p := ∀ m, k ≤ m → m < N → ins t (a m) = b m) (q := ∀ m, k + 1 ≤ m → m < N → ins t (a m) = b m) ⟨fun g m h1 h2 => g m (by omega) h2, fun g m h1 h2 => by
        by_cases e : m = k
        · subst e; exact h
        · exact g m (by omega) h2⟩]
    · rw [if_neg h, E_X8_isPart_21, if_pos rfl, if_pos (Or.inl rfl), b2_f (fun g => h (g k (Nat.le_refl _) (by omega)))]
theorem m_isPart {f g i i' j j' : Nat} {t : Option Nat} {l l' : List Nat} {x1 x2 x3 x5 x6 x7 x4 : Int32} (e1 : x1 = mI f) (e2 : x2 = mI i) (e3 : x3 = mI i') (e4 : x4 = thOf t) (e5 : x5 = mI g) (e6 : x6 = mI j) (e7 : x7 = mI j') (hf : f < 72) (hg : g < 72) (hl : hasL w f l) (hl' : hasL w g l') (hi : i ≤ i') (hi' : i' ≤ l.length) (hj : j ≤ j') (hj' : j' ≤ l'.length) (ht : ∀ u, t = some u → u < 3) :
    F_X8_isPart (P.2.1 + 46) x1 x2 x3 x4 x5 x6 x7 (hp P w ex n sl) = some (b2 ((seg l i i').map (ins t) = seg l' j j'), hp P w ex n sl) := by
  subst e1 e2 e3 e4 e5 e6 e7
  obtain ⟨-, h2, h3, h4⟩ := hl
  obtain ⟨-, g2, g3, g4⟩ := hl'
  have gd : ∀ (q : List Nat) (k : Nat), k < q.length → (∀ s ∈ q, s < 18) → q.getD k 0 < 18 := by
    intro q k hk hq
    rw [List.getD_eq_getElem?_getD, List.getElem?_eq_getElem hk]
    exact hq _ (List.getElem_mem hk)
  rw [E_X8_isPart, z_46, ob, E_X8_isPart_0, mI_sub hi, mI_sub hj]
  by_cases h : i' - i = j' - j
  · rw [if_pos (by rw [h]), E_X8_isPart_16]
    obtain ⟨N, rfl⟩ := Nat.exists_eq_add_of_le hi
    have hj9 : j' = j + N := by omega
    subst hj9
    have e := m_isPartL (P := P) (w := w) (ex := ex) (n := n) (sl := sl) (f := f) (g := g) (i := i) (j := j) (N := N) (t := t) (a := fun m => l.getD (i + m) 0) (b := fun m => l'.getD (j + m) 0) hf hg (by omega) (by omega) ht (fun m hm => ⟨gd l _ (by omega) h3, h4 _ (by omega)⟩) (fun m hm => ⟨gd l' _ (by omega) g3, g4 _ (by omega)⟩) N 0 (by omega)
    rw [← b2_congr (seg_eq (t := t) hi' hj')]
    exact e
  · rw [if_neg (by rw [mI_inj (by omega) (by omega)]; exact h), E_X8_isPart_16, E_X8_isPart_21, if_pos rfl, if_pos (Or.inl rfl), b2_f (fun g => h (by
      have := congrArg List.length g
      rw [List.length_map, seg_len hi', seg_len hj'] at this
      exact this))]
theorem seg_all {l : List Nat} : seg l 0 l.length = l := by
  unfold seg
  simp
theorem ins_none (l : List Nat) : l.map (ins none) = l := by
  have : ins none = id := rfl
  rw [this, List.map_id]
theorem m_len {f : Nat} {l : List Nat} {x : Int32} (hx : x = mI f) (hf : f < 72) (hl : hasL w f l) : s_ai (hp P w ex n sl) (P.2.1 + 49) x = some (mI l.length) := by
  subst hx
  rw [a_49 (mI_out hf (by decide)), mI_nat (by omega), hl.1]
theorem m_isSame {f g : Nat} {l l' : List Nat} {x y : Int32} (hx : x = mI f) (hy : y = mI g) (hf : f < 72) (hg : g < 72) (hl : hasL w f l) (hl' : hasL w g l') : F_X8_isSame (P.2.1 + 46) x y (hp P w ex n sl) = some (b2 (l = l'), hp P w ex n sl) := by
  simp only [E_X8_isSame, E_X8_isSame_0, z_46, q_46_4, ob, m_len hx hf hl, m_len hy hg hl', m_isPart (x2 := 0) (i := 0) (x4 := -1) (t := none) (x6 := 0) (j := 0) hx rfl rfl rfl hy rfl rfl hf hg hl hl' (Nat.zero_le _) (Nat.le_refl _) (Nat.zero_le _) (Nat.le_refl _) (fun u hu => by cases hu), seg_all, ins_none]
  rw [if_pos b2_or]
end MP
