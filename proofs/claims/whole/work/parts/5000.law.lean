/-! the law: from pairs of calls to its rounds -/
section LWS
variable {P : sP} {S0 e : Nat} {w w1 w2 : sW} {ex : Nat → Option sC} {n sl : Nat} {c : sS → Option ((Int32 ⊕ String) × sS)} {m : sS → Option (Int32 × sS)} {cj : sS → Option ((Int64 ⊕ String) × sS)} {mj : sS → Option (Int64 × sS)} {cs : List (String × Int32)} {B : Int32 → Prop}
theorem m_thrown : F_X8_thrown (P.2.1 + 46) (hp P w ex n sl) = some (w.1 46 0, hp P w ex n sl) := by
  rw [E_X8_thrown, z_46, ob, E_X8_thrown_0, q_46_0, ob]
/-- a law call with an int, and the model's answer to it -/
def LR (P : sP) (S0 e : Nat) (LX : Option (Int32 × sS)) (m : sS → Option (Int32 × sS)) (B : Int32 → Prop) : Prop := ∃ k x ex1 n1 sl1 w1 w2 e1, e1 ≤ e + 1 ∧ LX = some (k, hp P w1 ex1 n1 sl1) ∧ m (hp P w1 ex1 n1 sl1) = some (x, hp P w2 ex1 n1 sl1) ∧ w2.1 46 0 = k ∧ (k = 0 → w2.2.2.2.1 72 0 = x.toInt64 ∧ B x) ∧ IV P S0 e1 w2 n1 sl1
def LJ (P : sP) (S0 e : Nat) (LX : Option (Int32 × sS)) (m : sS → Option (Int64 × sS)) : Prop := ∃ k x ex1 n1 sl1 w1 w2 e1, e1 ≤ e + 1 ∧ LX = some (k, hp P w1 ex1 n1 sl1) ∧ m (hp P w1 ex1 n1 sl1) = some (x, hp P w2 ex1 n1 sl1) ∧ w2.1 46 0 = k ∧ (k = 0 → w2.2.2.2.1 72 0 = x) ∧ IV P S0 e1 w2 n1 sl1
theorem PI.lr {LX : Option (Int32 × sS)} (h : PI P S0 e w ex n sl c m cs B) (hi : ∀ x σ1, c (hp P w ex n sl) = some (.inl x, σ1) → B x → LX = (s_sl σ1 (P.2.1 + 72) 0 x.toInt64).bind fun σ4 => some (0, σ4)) (hx : ∀ E k σ1, (E, k) ∈ cs → c (hp P w ex n sl) = some (.inr E, σ1) → LX = some (k, σ1)) (h0 : ∀ p ∈ cs, p.2 ≠ 0) : LR P S0 e LX m B := by
  rcases h with ⟨x, w1, ex1, n1, sl1, w2, a1, a2, a3, a4, a5, a6⟩ | ⟨E, k, w1, ex1, n1, sl1, b, w2, a1, a2, a3, a4, a5⟩
  · refine ⟨0, x, ex1, n1, sl1, wL w1 72 0 x.toInt64, w2, e, by omega, ?_, a3, a4, fun _ => ⟨a5, a1⟩, a6⟩
    rw [hi x _ a2 a1, show s_sl (hp P w1 ex1 n1 sl1) (P.2.1 + 72) 0 x.toInt64 = some (hp P (wL w1 72 0 x.toInt64) ex1 n1 sl1) from wa_72 (i := 0) (by decide), ob]
  · exact ⟨k, b, ex1, n1, sl1, w1, w2, e + 1, Nat.le_refl _, hx E k _ a1 a2, a3, a4, fun z => absurd z (h0 _ a1), a5⟩
theorem PJ.lr {LX : Option (Int32 × sS)} (h : PJ P S0 e w ex n sl cj mj cs) (hi : ∀ x σ1, cj (hp P w ex n sl) = some (.inl x, σ1) → LX = (s_sl σ1 (P.2.1 + 72) 0 x).bind fun σ4 => some (0, σ4)) (hx : ∀ E k σ1, (E, k) ∈ cs → cj (hp P w ex n sl) = some (.inr E, σ1) → LX = some (k, σ1)) (h0 : ∀ p ∈ cs, p.2 ≠ 0) : LJ P S0 e LX mj := by
  rcases h with ⟨x, w1, ex1, n1, sl1, w2, a2, a3, a4, a5, a6⟩ | ⟨E, k, w1, ex1, n1, sl1, b, w2, a1, a2, a3, a4, a5⟩
  · refine ⟨0, x, ex1, n1, sl1, wL w1 72 0 x, w2, e, by omega, ?_, a3, a4, fun _ => a5, a6⟩
    rw [hi x _ a2, show s_sl (hp P w1 ex1 n1 sl1) (P.2.1 + 72) 0 x = some (hp P (wL w1 72 0 x) ex1 n1 sl1) from wa_72 (i := 0) (by decide), ob]
  · exact ⟨k, b, ex1, n1, sl1, w1, w2, e + 1, Nat.le_refl _, hx E k _ a1 a2, a3, a4, fun z => absurd z (h0 _ a1), a5⟩
/-- what follows the model's answer -/
theorem tl_I {k x : Int32} {K : sS → Option (Int32 × sS)} (h1 : w.1 46 0 = k) (h2 : k = 0 → w.2.2.2.1 72 0 = x.toInt64) : ((F_X8_thrown (P.2.1 + 46) (hp P w ex n sl)).bind fun q => if q.1 = k then (if k = 0 then ((s_al q.2 (P.2.1 + 72) 0).bind fun y => if (lg_cmp y x.toInt64) = 0 then (K q.2) else (some (0, q.2))) else (K q.2)) else (some (0, q.2))) = K (hp P w ex n sl) := by
  rw [m_thrown, ob]
  try dsimp only
  rw [if_pos h1]
  by_cases g : k = 0
  · rw [if_pos g, show s_al (hp P w ex n sl) (P.2.1 + 72) 0 = some (w.2.2.2.1 72 0) from ra_72 (i := 0) (by decide), ob, h2 g, if_pos ((lg_cmp_eq _ _).mpr rfl)]
  · rw [if_neg g]
theorem tl_J {k : Int32} {x : Int64} {K : sS → Option (Int32 × sS)} (h1 : w.1 46 0 = k) (h2 : k = 0 → w.2.2.2.1 72 0 = x) : ((F_X8_thrown (P.2.1 + 46) (hp P w ex n sl)).bind fun q => if q.1 = k then (if k = 0 then ((s_al q.2 (P.2.1 + 72) 0).bind fun y => if (lg_cmp y x) = 0 then (K q.2) else (some (0, q.2))) else (K q.2)) else (some (0, q.2))) = K (hp P w ex n sl) := by
  rw [m_thrown, ob]
  try dsimp only
  rw [if_pos h1]
  by_cases g : k = 0
  · rw [if_pos g, show s_al (hp P w ex n sl) (P.2.1 + 72) 0 = some (w.2.2.2.1 72 0) from ra_72 (i := 0) (by decide), ob, h2 g, if_pos ((lg_cmp_eq _ _).mpr rfl)]
  · rw [if_neg g]
/-- the script: an array that lies before the law's own cells -/
def KScr (P : sP) (a N : Nat) (g : Nat → Int32) : Prop := a < P.2.1 ∧ N ≤ 3584 ∧ P.1 a = some (.inl (4, N, .inl g))
theorem ks_len {a N : Nat} {g : Nat → Int32} (h : KScr P a N g) : s_len (hp P w ex n sl) a = some (mI N) := by
  unfold s_len
  rw [hp_ro h.1, h.2.2]
  rfl
theorem ks_ai {a N i : Nat} {g : Nat → Int32} (h : KScr P a N g) (hi : i < N) : s_ai (hp P w ex n sl) a (mI i) = some (g i) := by
  have := h.2.1
  unfold s_ai
  rw [hp_ro h.1, h.2.2]
  dsimp only
  rw [if_pos ⟨Or.inr rfl, mI_out hi (by omega)⟩, mI_nat (by omega)]
end LWS
