/-! books that change: what stays -/
section BKP
variable {I M I' M' : Nat → Int32} {A A' : Nat → Nat → Int32} {J J' : Nat → Nat → Int64} {D F L R U : Nat} {y : sLn} {φ : Nat → List Nat} {nf : Nat → Nat} {ρ : sRc}
theorem bkN.c (h : bkN I M D F L R U) (e : ∀ j, j = 0 ∨ j = 1 ∨ j = 2 ∨ j = 6 ∨ j = 9 → I' j = I j) (eM : ∀ i, i < 4 → M' i = M i) : bkN I' M' D F L R U := by
  obtain ⟨a, ⟨b0, b1, b2', b6, b9⟩, c0, c1, c2, c3⟩ := h
  exact ⟨a, ⟨(e 0 (by omega)).trans b0, (e 1 (by omega)).trans b1, (e 2 (by omega)).trans b2', (e 6 (by omega)).trans b6, (e 9 (by omega)).trans b9⟩, (eM 0 (by omega)).trans c0, (eM 1 (by omega)).trans c1, (eM 2 (by omega)).trans c2, (eM 3 (by omega)).trans c3⟩
theorem bkL.c (h : bkL M A J F L y) (hL : L ≤ 40) (e8 : ∀ i, i < 240 → A' 8 i = A 8 i) (eM : ∀ i, 1292 ≤ i → i < 1532 → M' i = M i) (f4 : ∀ i, i < 40 → J' 4 i = J 4 i) (f5 : ∀ i, i < 40 → J' 5 i = J 5 i) : bkL M' A' J' F L y := by
  obtain ⟨l1, l2, l3, l4, l5⟩ := h
  refine ⟨l1, hasLn_congr l2 (fun i hi => by rw [Nat.zero_add]; exact e8 i (by omega)), hasLn_congr l3 (fun i hi => eM _ (by omega) (by omega)), ?_, ?_⟩
  · intro l hl
    rw [f4 l (by omega), l4 l hl]
    exact rstV_congr l1 hl (fun p hp => (f4 p (by omega)).symm)
  · intro l hl
    rw [f5 l (by omega), l5 l hl]
    exact nedV_congr l1 hl (fun p hp => (f5 p (by omega)).symm)
theorem bkF.c (h : bkF M A J D F U φ nf) (h1 : 1 ≤ D) (h3 : D ≤ 3) (hF : F ≤ 30) (e6 : ∀ i, i < 30 → A' 6 i = A 6 i) (eM : ∀ i, 62 ≤ i → i < 1292 → M' i = M i) (f1 : ∀ i, i < 480 → J' 1 i = J 1 i) : bkF M' A' J' D F U φ nf := by
  obtain ⟨g1, g2, g3⟩ := h
  refine ⟨?_, ?_, ?_⟩
  · intro f hf
    rw [e6 f (by omega)]
    exact g1 f hf
  · intro f hf
    obtain ⟨a1, a2, a3, a4⟩ := g2 f hf
    exact ⟨by rw [eM _ (by omega) (by omega)]; exact a1, a2, a3, fun i hi => by rw [eM _ (by omega) (by omega)]; exact a4 i hi⟩
  · intro f hf wo hwo
    have := (nW_w h1 h3).2.1
    rw [f1 _ (by omega)]
    exact g3 f hf wo hwo
theorem bkR.c (h : bkR I M A L R y ρ) (hR : R ≤ 30) (e9 : ∀ i, i < 120 → A' 9 i = A 9 i) (eI : I' 10 = I 10) (eM : ∀ i, 1532 ≤ i → i < 1682 → M' i = M i) : bkR I' M' A' L R y ρ := by
  obtain ⟨r1, r2, r3, r4⟩ := h
  refine ⟨r1, ?_, ?_, ?_⟩
  · intro r hr
    rw [e9 _ (by omega), e9 _ (by omega), e9 _ (by omega), e9 _ (by omega)]
    exact r2 r hr
  · rw [eI]; exact r3
  · intro r hr
    rw [eM _ (by omega) (by omega), eM _ (by omega) (by omega), eM _ (by omega) (by omega), eM _ (by omega) (by omega), eM _ (by omega) (by omega)]
    exact r4 r hr
theorem bkH.c (h : bkH M A) (e2 : ∀ i, i < 3 → A' 2 i = A 2 i) (e3 : ∀ i, i < 4 → A' 3 i = A 3 i) (e7 : ∀ i, i < 51 → A' 7 i = A 7 i) (eM : ∀ i, 4 ≤ i → i < 62 → M' i = M i) : bkH M' A' := by
  obtain ⟨h1, h2, h3⟩ := h
  refine ⟨?_, ?_, ?_⟩
  · intro h hh
    rw [e2 h hh, eM _ (by omega) (by omega)]
    exact h1 h hh
  · intro h hh r hr
    rw [e7 _ (by omega), eM _ (by omega) (by omega)]
    exact h2 h hh r hr
  · intro u hu
    rw [e3 u hu, eM _ (by omega) (by omega)]
    exact h3 u hu
end BKP
/-- a frame for calls that change the open books -/
abbrev bkA : List Nat := [9, 10, 11, 12, 13, 14, 15, 16, 17, 18, 47, 72]
abbrev bkB : List Nat := [900, 901, 902, 906, 909, 910]
def FVb (w w' : sW) : Prop := (∀ k, k ∉ bkA ++ scA → w'.2.2.1 k = w.2.2.1 k ∧ w'.2.2.2.1 k = w.2.2.2.1 k) ∧ (∀ i, i < 30 → w'.2.2.1 49 i = w.2.2.1 49 i) ∧ (∀ i, i < 1200 → w'.2.2.1 50 i = w.2.2.1 50 i) ∧ (∀ k j, 100 * k + j ∉ bkB ++ scB → w'.1 k j = w.1 k j ∧ w'.2.1 k j = w.2.1 k j) ∧ w'.2.2.2.2 = w.2.2.2.2
section IVB
variable {P : sP} {S0 e : Nat} {w w' w1 w2 : sW} {ex : Nat → Option sC} {n sl D F L R U L' R' : Nat} {y y' : sLn} {φ : Nat → List Nat} {nf : Nat → Nat} {ρ ρ' : sRc} {nd : Nat → List Nat}
theorem Fr.fvb {A B : List Nat} (h : Fr A B w w') (hA : ∀ k ∈ A, k ∈ bkA ++ scA ∧ k ≠ 49 ∧ k ≠ 50) (hB : ∀ k ∈ B, k ∈ bkB ++ scB) : FVb w w' :=
  ⟨fun k hk => h.1 k (fun z => hk (hA k z).1), fun i _ => by rw [(h.1 49 (fun z => (hA 49 z).2.1 rfl)).1], fun i _ => by rw [(h.1 50 (fun z => (hA 50 z).2.2 rfl)).1], fun k j hk => h.2.1 k j (fun z => hk (hB _ z)), h.2.2⟩
theorem IVa.bk (h : IVa P S0 e w n sl D F L R U y φ nf ρ nd) (f : FVb w w') (hb : BKo w' D F L' R' U y' φ nf ρ') : IVa P S0 e w' n sl D F L' R' U y' φ nf ρ' nd := by
  have hb' := h.b
  obtain ⟨h1, h2, h3, h4, h5, h6, h7⟩ := h
  refine ⟨hb, ?_, h3, ?_, ?_, ?_, ?_⟩
  · have e2 := (f.1 2 (by decide)).1
    have e3 := (f.1 3 (by decide)).1
    have e4 := (f.1 4 (by decide)).1
    have e5 := (f.1 5 (by decide)).1
    have e6 := (f.1 6 (by decide)).1
    have e7 := (f.1 7 (by decide)).1
    have e8 := (f.1 8 (by decide)).1
    have e10 := (f.2.2.2.1 1 0 (by decide)).1
    have er := f.2.2.2.2
    unfold FS FT HB AL PL Hs w_fa at *
    rw [e2, e3, e4, e5, e6, e7, e8, e10, er]
    exact h2
  · intro k hk
    obtain ⟨a1, a2, a3, a4⟩ := h4 k hk
    exact ⟨(f.2.1 k (by omega)).trans a1, a2, a3, fun i hi => (f.2.2.1 _ (by omega)).trans (a4 i hi)⟩
  · obtain ⟨N, t, t1, t2, t3, t4⟩ := h5
    refine ⟨N, t, t1, (f.2.2.2.1 29 0 (by decide)).1.trans t2, (f.2.2.2.1 46 7 (by decide)).1.trans t3, ?_⟩
    rw [(f.1 30 (by decide)).1, (f.1 51 (by decide)).1]
    exact t4
  · rw [(f.2.2.2.1 29 1 (by decide)).1, (f.2.2.2.1 46 13 (by decide)).1]; exact h6
  · have k0 := (f.2.2.2.1 0 8 (by decide)).1
    have k1 := (f.2.2.2.1 46 3 (by decide)).1
    have a48 := (f.1 48 (by decide)).1
    have i19 : ∀ j, j < 11 → w'.1 19 j = w.1 19 j := fun j hj => (f.2.2.2.1 19 j (by simp; omega)).1
    have ek : ∀ k, k < 10 → w'.2.2.1 (19 + k) = w.2.2.1 (19 + k) ∧ w'.2.2.2.1 (19 + k) = w.2.2.2.1 (19 + k) := fun k hk => f.1 (19 + k) (by simp; omega)
    unfold KP
    rw [k0, k1]
    refine h7.imp id ?_
    rintro ⟨z1, z2, D', F', L', R', U', y', φ', nf', ρ', z3, z4⟩
    refine ⟨z1, z2, D', F', L', R', U', y', φ', nf', ρ', ?_, z4⟩
    refine BK.congr z3 i19 (fun i _ => by rw [a48]) ?_ ?_ ?_ ?_ ?_ ?_ ?_ ?_ ?_ <;> intro i _
    · rw [(ek 2 (by decide)).1]
    · rw [(ek 3 (by decide)).1]
    · rw [(ek 6 (by decide)).1]
    · rw [(ek 7 (by decide)).1]
    · rw [(ek 8 (by decide)).1]
    · rw [(ek 9 (by decide)).1]
    · rw [(ek 1 (by decide)).2]
    · rw [(ek 4 (by decide)).2]
    · rw [(ek 5 (by decide)).2]
/-- a call that changes the open books -/
theorem PI.b {c : sS → Option ((Int32 ⊕ String) × sS)} {m : sS → Option (Int32 × sS)} {cs : List (String × Int32)} {B : Int32 → Prop} {x : Int32} (hB : B x) (hI : IVa P S0 e w n sl D F L R U y φ nf ρ nd) (hc : c (hp P w ex n sl) = some (.inl x, hp P w1 ex n sl)) (hm : m (hp P (wL w1 72 0 x.toInt64) ex n sl) = some (x, hp P w2 ex n sl)) (h0 : w2.1 46 0 = 0) (h72 : w2.2.2.2.1 72 0 = x.toInt64) (f : FVb w w2) (hb : BKo w2 D F L' R' U y' φ nf ρ') : PI P S0 e w ex n sl c m cs B :=
  Or.inl ⟨x, w1, ex, n, sl, w2, hB, hc, hm, h0, h72, (hI.bk f hb).iv⟩
theorem up2_id {α : Type} {f : Nat → Nat → α} {k j : Nat} : up2 f k j (f k j) = f := by
  funext k' j'
  unfold up2
  by_cases h : k' = k ∧ j' = j
  · rw [if_pos h, h.1, h.2]
  · rw [if_neg h]
theorem wA_id {w : sW} {k j : Nat} {a : Int32} (h : w.2.2.1 k j = a) : wA w k j a = w := by
  subst h
  show (w.1, w.2.1, up2 w.2.2.1 k j (w.2.2.1 k j), w.2.2.2) = w
  rw [up2_id]
theorem up2_n {α : Type} {f : Nat → Nat → α} {k j k' j' : Nat} {x : α} (h : k' ≠ k ∨ j' ≠ j) : up2 f k j x k' j' = f k' j' := if_neg (fun z => h.elim (fun g => g z.1) (fun g => g z.2))
theorem up2_e {α : Type} {f : Nat → Nat → α} {k j k' j' : Nat} {x : α} (h : k' = k) (g : j' = j) : up2 f k j x k' j' = x := if_pos ⟨h, g⟩
end IVB
