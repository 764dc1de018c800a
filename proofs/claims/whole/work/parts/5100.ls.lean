/-! the heap while the constructors run: a list of cells -/
section LSS
variable {P : sP} {ex : Nat → Option sC} {l : List sC} {sl k : Nat}
def ls (P : sP) (ex : Nat → Option sC) (l : List sC) (sl : Nat) : sS := (fun a => if a < P.2.1 then P.1 a else if a < P.2.1 + l.length then l[a - P.2.1]? else ex a, P.2.1 + l.length, sl, P.2.2)
theorem ls_n : (ls P ex l sl).2.1 = P.2.1 + l.length := rfl
theorem ls_at (hk : k < l.length) : (ls P ex l sl).1 (P.2.1 + k) = l[k]? := by
  show (if P.2.1 + k < P.2.1 then _ else _) = _
  rw [if_neg (by omega), if_pos (by omega), Nat.add_sub_cancel_left]
theorem ls_app {c : sC} {d : Nat} : ((fun q => if q = (ls P ex l sl).2.1 then some c else (ls P ex l sl).1 q, (ls P ex l sl).2.1 + 1, (ls P ex l sl).2.2.1 + d, (ls P ex l sl).2.2.2) : sS) = ls P ex (l ++ [c]) (sl + d) := by
  unfold ls
  refine Prod.ext (funext fun a => ?_) (Prod.ext ?_ rfl)
  · dsimp only
    rw [List.length_append, List.length_singleton]
    by_cases g : a = P.2.1 + l.length
    · subst g
      rw [if_pos rfl, if_neg (by omega), if_pos (by omega), Nat.add_sub_cancel_left, List.getElem?_append_right (Nat.le_refl _), Nat.sub_self]
      rfl
    · rw [if_neg g]
      by_cases g1 : a < P.2.1
      · rw [if_pos g1, if_pos g1]
      · rw [if_neg g1, if_neg g1]
        by_cases g2 : a < P.2.1 + l.length
        · rw [if_pos g2, if_pos (by omega), List.getElem?_append_left (by omega)]
        · rw [if_neg g2, if_neg (by omega)]
  · dsimp only
    rw [List.length_append, List.length_singleton, Nat.add_assoc]
theorem ls_nw {ci N : Nat} {fs : List Value} : s_nw (ls P ex l sl) ci N fs = ls P ex (l ++ [.inr (ci, fs)]) (sl + N) := ls_app
theorem ls_up {c : sC} (hk : k < l.length) : s_up (ls P ex l sl) (P.2.1 + k) c = ls P ex (l.set k c) sl := by
  unfold s_up ls
  refine Prod.ext (funext fun a => ?_) (Prod.ext ?_ rfl)
  · dsimp only
    rw [List.length_set]
    by_cases g : a = P.2.1 + k
    · subst g
      rw [if_pos rfl, if_neg (by omega), if_pos (by omega), Nat.add_sub_cancel_left, List.getElem?_set_self hk]
    · rw [if_neg g]
      by_cases g1 : a < P.2.1
      · rw [if_pos g1, if_pos g1]
      · rw [if_neg g1, if_neg g1]
        by_cases g2 : a < P.2.1 + l.length
        · rw [if_pos g2, if_pos g2, List.getElem?_set_ne (by omega)]
        · rw [if_neg g2, if_neg g2]
  · dsimp only
    rw [List.length_set]
theorem ls_pf {ci j : Nat} {fs : List Value} {v : Value} (hk : l[k]? = some (.inr (ci, fs))) (hj : j < fs.length) : s_pf (ls P ex l sl) (P.2.1 + k) ci j v = some (ls P ex (l.set k (.inr (ci, fs.set j v))) sl) := by
  have hk' : k < l.length := by
    refine Classical.byContradiction fun z => ?_
    rw [List.getElem?_eq_none (by omega)] at hk
    cases hk
  unfold s_pf
  rw [ls_at hk', hk]
  dsimp only
  rw [if_pos ⟨rfl, hj⟩, ls_up hk']
theorem ls_na {t N : Nat} {x : Int32} (hx : x = mI N) (hN : N ≤ 1000000) : s_na (ls P ex l sl) t x = some (ls P ex (l ++ [.inl (t, N, if t = 1 then .inr (.inl (fun _ => 0)) else .inl (fun _ => 0))]) (sl + N)) := by
  subst hx
  unfold s_na
  rw [mI_nat (by omega), if_neg (fun z => z.elim (mI_0 (by omega)) (by omega))]
  exact congrArg some ls_app
theorem ls_fr {ci j r : Nat} {fs : List Value} (hk : l[k]? = some (.inr (ci, fs))) (hj : fs[j]? = some (.ref r)) : s_fr (ls P ex l sl) (P.2.1 + k) ci j = some r := by
  have hk' : k < l.length := by
    refine Classical.byContradiction fun z => ?_
    rw [List.getElem?_eq_none (by omega)] at hk
    cases hk
  unfold s_fr s_fv
  rw [ls_at hk', hk]
  dsimp only
  first | rw [if_pos rfl, hj] | (rw [hj]; simp) | simp [hj]
theorem ls_si {N i : Nat} {f : Nat → Int32} {x y : Int32} (hx : x = mI i) (hk : l[k]? = some (.inl (0, N, .inl f))) (hi : i < N) (hN : N ≤ 2 ^ 31) : s_si (ls P ex l sl) (P.2.1 + k) x y = some (ls P ex (l.set k (.inl (0, N, .inl (upd f i y)))) sl) := by
  subst hx
  have hk' : k < l.length := by
    refine Classical.byContradiction fun z => ?_
    rw [List.getElem?_eq_none (by omega)] at hk
    cases hk
  unfold s_si
  rw [ls_at hk', hk]
  dsimp only
  rw [if_pos ⟨rfl, mI_out hi hN⟩, mI_nat (by omega), ls_up hk']
end LSS
