/-! the invariant: class and model show one state -/
section BKD
variable (I M : Nat → Int32) (A : Nat → Nat → Int32) (J : Nat → Nat → Int64) (D F L R U : Nat) (y : sLn) (φ : Nat → List Nat) (nf : Nat → Nat) (ρ : sRc)
/-- counts -/
def bkN : Prop := (1 ≤ D ∧ D ≤ 3 ∧ F ≤ 30 ∧ L ≤ 40 ∧ R ≤ 30 ∧ U ≤ 160 * F) ∧ (I 0 = mI D ∧ I 1 = mI U ∧ I 2 = mI F ∧ I 6 = mI L ∧ I 9 = mI R) ∧ M 0 = mI D ∧ M 1 = mI F ∧ M 2 = mI L ∧ M 3 = mI R
/-- lines -/
def bkL : Prop := okLn F L y ∧ hasLn (A 8) 0 L y ∧ hasLn M 1292 L y ∧ (∀ l, l < L → J 4 l = rstV (J 4) y l) ∧ ∀ l, l < L → J 5 l = nedV (J 5) y l
/-- formulas -/
def bkF : Prop := (∀ f, f < F → wff (φ f) ∧ clo (φ f) ∧ nf f < U ∧ A 6 f = mI (nf f)) ∧ fwd M F φ ∧ ∀ f, f < F → ∀ wo, wo < wds D → J 1 (f * 16 + wo) = rowS (fun wd => TR D wd (φ f)) wo
/-- receipts -/
def bkR : Prop := okRc L R y ρ ∧ (∀ r, r < R → A 9 (r * 4 + 0) = mI (ρ.1 r) ∧ A 9 (r * 4 + 1) = mI (ρ.2.1 r) ∧ A 9 (r * 4 + 2) = mI (ρ.2.2.1 r) ∧ A 9 (r * 4 + 3) = mI (ρ.2.2.2.1 r)) ∧ (∀ i, i < 32 → (bt (I 10) i = true ↔ i < R ∧ ρ.2.2.2.2 i)) ∧ ∀ r, r < R → M (1532 + 5 * r + 0) = mI (ρ.1 r) ∧ M (1532 + 5 * r + 1) = mI (ρ.2.1 r) ∧ M (1532 + 5 * r + 2) = mI (ρ.2.2.1 r) ∧ M (1532 + 5 * r + 3) = mI (ρ.2.2.2.1 r) ∧ M (1532 + 5 * r + 4) = b2 (ρ.2.2.2.2 r)
/-- houses and customers -/
def bkH : Prop := (∀ h, h < 3 → A 2 h = M (4 + 18 * h)) ∧ (∀ h, h < 3 → ∀ r, r < 17 → ∃ p, p ≤ 99 ∧ (r = 16 → p ≤ 9) ∧ A 7 (h * 17 + r) = mI p ∧ M (4 + 18 * h + 1 + r) = mI p) ∧ ∀ u, u < 4 → A 3 u = M (58 + u)
def BK : Prop := bkN I M D F L R U ∧ bkL M A J F L y ∧ bkF M A J D F U φ nf ∧ bkR I M A L R y ρ ∧ bkH M A
end BKD
section BKC
variable {I M I' M' : Nat → Int32} {A A' : Nat → Nat → Int32} {J J' : Nat → Nat → Int64} {D F L R U : Nat} {y : sLn} {φ : Nat → List Nat} {nf : Nat → Nat} {ρ : sRc}
theorem hasLn_congr {B B' : Nat → Int32} {b : Nat} (h : hasLn B b L y) (e : ∀ i, i < 6 * L → B' (b + i) = B (b + i)) : hasLn B' b L y := by
  intro l hl
  obtain ⟨a1, a2, a3, a4⟩ := h l hl
  refine ⟨?_, ?_, ?_, fun j hj => ?_⟩
  · rw [Nat.add_assoc, e _ (by omega), ← Nat.add_assoc]; exact a1
  · rw [Nat.add_assoc, e _ (by omega), ← Nat.add_assoc]; exact a2
  · rw [Nat.add_assoc, e _ (by omega), ← Nat.add_assoc]; exact a3
  · rw [Nat.add_assoc, e _ (by omega), ← Nat.add_assoc]; exact a4 j hj
/-- only what lies within the arrays counts -/
theorem BK.congr (h : BK I M A J D F L R U y φ nf ρ) (eI : ∀ j, j < 11 → I' j = I j) (eM : ∀ i, i < 1682 → M' i = M i) (e2 : ∀ i, i < 3 → A' 2 i = A 2 i) (e3 : ∀ i, i < 4 → A' 3 i = A 3 i) (e6 : ∀ i, i < 30 → A' 6 i = A 6 i) (e7 : ∀ i, i < 51 → A' 7 i = A 7 i) (e8 : ∀ i, i < 240 → A' 8 i = A 8 i) (e9 : ∀ i, i < 120 → A' 9 i = A 9 i) (f1 : ∀ i, i < 480 → J' 1 i = J 1 i) (f4 : ∀ i, i < 40 → J' 4 i = J 4 i) (f5 : ∀ i, i < 40 → J' 5 i = J 5 i) : BK I' M' A' J' D F L R U y φ nf ρ := by
  obtain ⟨⟨⟨n1, n2, n3, n4, n5, n6⟩, nI, nM⟩, ⟨l1, l2, l3, l4, l5⟩, ⟨g1, g2, g3⟩, ⟨r1, r2, r3, r4⟩, h1, h2, h3⟩ := h
  refine ⟨⟨⟨n1, n2, n3, n4, n5, n6⟩, ?_, ?_⟩, ⟨l1, ?_, ?_, ?_, ?_⟩, ⟨?_, ?_, ?_⟩, ⟨r1, ?_, ?_, ?_⟩, ?_, ?_, ?_⟩
  · rw [eI 0 (by decide), eI 1 (by decide), eI 2 (by decide), eI 6 (by decide), eI 9 (by decide)]; exact nI
  · rw [eM 0 (by decide), eM 1 (by decide), eM 2 (by decide), eM 3 (by decide)]; exact nM
  · exact hasLn_congr l2 (fun i hi => by rw [Nat.zero_add]; exact e8 i (by omega))
  · exact hasLn_congr l3 (fun i hi => eM _ (by omega))
  · intro l hl
    rw [f4 l (by omega), l4 l hl]
    exact rstV_congr l1 hl (fun p hp => (f4 p (by omega)).symm)
  · intro l hl
    rw [f5 l (by omega), l5 l hl]
    exact nedV_congr l1 hl (fun p hp => (f5 p (by omega)).symm)
  · intro f hf
    rw [e6 f (by omega)]
    exact g1 f hf
  · intro f hf
    obtain ⟨a1, a2, a3, a4⟩ := g2 f hf
    exact ⟨by rw [eM _ (by omega)]; exact a1, a2, a3, fun i hi => by rw [eM _ (by omega)]; exact a4 i hi⟩
  · intro f hf wo hwo
    have := (nW_w n1 n2).2.1
    rw [f1 _ (by omega)]
    exact g3 f hf wo hwo
  · intro r hr
    rw [e9 _ (by omega), e9 _ (by omega), e9 _ (by omega), e9 _ (by omega)]
    exact r2 r hr
  · rw [eI 10 (by decide)]; exact r3
  · intro r hr
    rw [eM _ (by omega), eM _ (by omega), eM _ (by omega), eM _ (by omega), eM _ (by omega)]
    exact r4 r hr
  · intro h hh
    rw [e2 h hh, eM _ (by omega)]
    exact h1 h hh
  · intro h hh r hr
    rw [e7 _ (by omega), eM _ (by omega)]
    exact h2 h hh r hr
  · intro u hu
    rw [e3 u hu, eM _ (by omega)]
    exact h3 u hu
end BKC
/-- the books that are open, and those that an image keeps -/
def BKo (w : sW) (D F L R U : Nat) (y : sLn) (φ : Nat → List Nat) (nf : Nat → Nat) (ρ : sRc) : Prop := BK (w.1 9) (w.2.2.1 47) (fun k => w.2.2.1 (9 + k)) (fun k => w.2.2.2.1 (9 + k)) D F L R U y φ nf ρ
def BKk (w : sW) (D F L R U : Nat) (y : sLn) (φ : Nat → List Nat) (nf : Nat → Nat) (ρ : sRc) : Prop := BK (w.1 19) (w.2.2.1 48) (fun k => w.2.2.1 (19 + k)) (fun k => w.2.2.2.1 (19 + k)) D F L R U y φ nf ρ
/-- the tapes -/
def TP (w : sW) : Prop := ∃ (N : Nat) (t : Nat → Nat), N ≤ 400 ∧ w.1 29 0 = mI N ∧ w.1 46 7 = mI N ∧ ∀ i, i < N → t i < 256 ∧ w.2.2.1 30 i &&& 255 = mI (t i) ∧ w.2.2.1 51 i = sB (t i)
def KPn (D F' D' U U' : Nat) (φ' nd : Nat → List Nat) (nf' : Nat → Nat) : Prop := 0 < F' → D' = D ∧ U' ≤ U ∧ (∀ f, f < F' → nd (nf' f) = φ' f) ∧ ∀ i, i < U' → ∀ r, (nd i = 16 :: r ∨ nd i = 17 :: r) → ∀ t, t < D → ∃ q, q < U' ∧ nd q = r.map (ins (some t))
/-- the image -/
def KP (w : sW) (D U : Nat) (nd : Nat → List Nat) : Prop := (w.1 0 8 = 0 ∧ w.1 46 3 = 0) ∨ (w.1 0 8 = 1 ∧ w.1 46 3 = 1 ∧ ∃ D' F' L' R' U' y' φ' nf' ρ', BKk w D' F' L' R' U' y' φ' nf' ρ' ∧ KPn D F' D' U U' φ' nd nf')
def IVa (P : sP) (S0 e : Nat) (w : sW) (n sl D F L R U : Nat) (y : sLn) (φ : Nat → List Nat) (nf : Nat → Nat) (ρ : sRc) (nd : Nat → List Nat) : Prop :=
  BKo w D F L R U y φ nf ρ ∧ FS P S0 e w n sl U (fun _ => D) nd ∧ (∀ f, f < F → nd (nf f) = φ f) ∧ (∀ k, k < F → hasL w k (φ k)) ∧ TP w ∧ w.1 29 1 = w.1 46 13 ∧ KP w D U nd
def IV (P : sP) (S0 e : Nat) (w : sW) (n sl : Nat) : Prop := ∃ D F L R U y φ nf ρ nd, IVa P S0 e w n sl D F L R U y φ nf ρ nd
section IVS
variable {P : sP} {S0 e : Nat} {w w' : sW} {n sl D F L R U : Nat} {y : sLn} {φ : Nat → List Nat} {nf : Nat → Nat} {ρ : sRc} {nd : Nat → List Nat}
theorem IVa.iv (h : IVa P S0 e w n sl D F L R U y φ nf ρ nd) : IV P S0 e w n sl := ⟨D, F, L, R, U, y, φ, nf, ρ, nd, h⟩
theorem IVa.C (h : IVa P S0 e w n sl D F L R U y φ nf ρ nd) : CW w D F L U y φ nd nf := by
  obtain ⟨⟨⟨⟨n1, n2, n3, n4, n5, n6⟩, ⟨i0, i1, i2, i6, i9⟩, nM⟩, ⟨l1, l2, l3, l4, l5⟩, ⟨g1, g2, g3⟩, -, -⟩, hS, hn, -⟩ := h
  exact ⟨n1, n2, n3, n4, i0, i2, i6, l2, l1, FT_NT hS.1, fun f hf => ⟨(g1 f hf).2.2.1, (g1 f hf).2.2.2, hn f hf⟩⟩
theorem IVa.M (h : IVa P S0 e w n sl D F L R U y φ nf ρ nd) : MW w D F L y φ := by
  obtain ⟨⟨⟨⟨n1, n2, n3, n4, n5, n6⟩, -, ⟨m0, m1, m2, m3⟩⟩, ⟨l1, l2, l3, l4, l5⟩, ⟨g1, g2, g3⟩, -, -⟩, hS, hn, hl, -⟩ := h
  exact ⟨n1, n2, n3, n4, m0, m1, m2, l3, l1, fun k hk => ⟨hl k hk, (g1 k hk).1⟩⟩
theorem IVa.Q (h : IVa P S0 e w n sl D F L R U y φ nf ρ nd) : CQ w D F φ := by
  obtain ⟨⟨⟨⟨n1, n2, n3, n4, n5, n6⟩, ⟨i0, i1, i2, i6, i9⟩, nM⟩, -, ⟨g1, g2, g3⟩, -, -⟩, -⟩ := h
  exact ⟨n1, n2, n3, i0, i2, g3⟩
theorem IVa.Rc (h : IVa P S0 e w n sl D F L R U y φ nf ρ nd) : okRc L R y ρ ∧ CR w R ρ ∧ MR w R ρ := by
  obtain ⟨⟨⟨⟨n1, n2, n3, n4, n5, n6⟩, ⟨i0, i1, i2, i6, i9⟩, ⟨m0, m1, m2, m3⟩⟩, -, -, ⟨r1, r2, r3, r4⟩, -⟩, -⟩ := h
  exact ⟨r1, ⟨i9, r2, r3⟩, ⟨m3, r4⟩⟩
theorem IVa.rs (h : IVa P S0 e w n sl D F L R U y φ nf ρ nd) : (∀ l, l < L → w.2.2.2.1 13 l = rstV (w.2.2.2.1 13) y l) ∧ ∀ l, l < L → w.2.2.2.1 14 l = nedV (w.2.2.2.1 14) y l := by
  obtain ⟨⟨-, ⟨l1, l2, l3, l4, l5⟩, -⟩, -⟩ := h
  exact ⟨l4, l5⟩
theorem IVa.H (h : IVa P S0 e w n sl D F L R U y φ nf ρ nd) : (∀ h, h < 3 → w.2.2.1 11 h = w.2.2.1 47 (4 + 18 * h)) ∧ (∀ h, h < 3 → ∀ r, r < 17 → ∃ p, p ≤ 99 ∧ (r = 16 → p ≤ 9) ∧ w.2.2.1 16 (h * 17 + r) = mI p ∧ w.2.2.1 47 (4 + 18 * h + 1 + r) = mI p) ∧ ∀ u, u < 4 → w.2.2.1 12 u = w.2.2.1 47 (58 + u) := by
  obtain ⟨⟨-, -, -, -, h1, h2, h3⟩, -⟩ := h
  exact ⟨h1, h2, h3⟩
theorem IVa.b (h : IVa P S0 e w n sl D F L R U y φ nf ρ nd) : 1 ≤ D ∧ D ≤ 3 ∧ F ≤ 30 ∧ L ≤ 40 ∧ R ≤ 30 ∧ U ≤ 160 * F := h.1.1.1
/-- one more exception -/
theorem IVa.xc (h : IVa P S0 e w n sl D F L R U y φ nf ρ nd) : IVa P S0 (e + 1) w (n + 1) (sl + 6) D F L R U y φ nf ρ nd := ⟨h.1, h.2.1.xc, h.2.2⟩
/-- what a question may change -/
abbrev scA : List Nat := [32, 33, 34, 35, 36, 39, 40, 41, 42, 43, 44, 49, 50, 53, 54, 55, 56, 57, 58, 59, 60, 61, 62, 63, 64, 65, 66, 67, 68, 69, 70, 71]
abbrev scB : List Nat := [3700, 3701, 3702, 3703, 3808, 3809, 3810, 3811, 3812, 4600, 4633, 4634, 4635, 4638]
def FV (w w' : sW) : Prop := (∀ k, k ∉ scA → w'.2.2.1 k = w.2.2.1 k ∧ w'.2.2.2.1 k = w.2.2.2.1 k) ∧ (∀ i, i < 30 → w'.2.2.1 49 i = w.2.2.1 49 i) ∧ (∀ i, i < 1200 → w'.2.2.1 50 i = w.2.2.1 50 i) ∧ (∀ k j, 100 * k + j ∉ scB → w'.1 k j = w.1 k j ∧ w'.2.1 k j = w.2.1 k j) ∧ w'.2.2.2.2 = w.2.2.2.2
theorem FV.rf : FV w w := ⟨fun _ _ => ⟨rfl, rfl⟩, fun _ _ => rfl, fun _ _ => rfl, fun _ _ _ => ⟨rfl, rfl⟩, rfl⟩
theorem FV.tr {w'' : sW} (h : FV w w') (g : FV w' w'') : FV w w'' :=
  ⟨fun k hk => ⟨(g.1 k hk).1.trans (h.1 k hk).1, (g.1 k hk).2.trans (h.1 k hk).2⟩, fun i hi => (g.2.1 i hi).trans (h.2.1 i hi), fun i hi => (g.2.2.1 i hi).trans (h.2.2.1 i hi), fun k j hk => ⟨(g.2.2.2.1 k j hk).1.trans (h.2.2.2.1 k j hk).1, (g.2.2.2.1 k j hk).2.trans (h.2.2.2.1 k j hk).2⟩, g.2.2.2.2.trans h.2.2.2.2⟩
theorem Fr.fv {A B : List Nat} (h : Fr A B w w') (hA : ∀ k ∈ A, k ∈ scA ∧ k ≠ 49 ∧ k ≠ 50) (hB : ∀ k ∈ B, k ∈ scB) : FV w w' :=
  ⟨fun k hk => h.1 k (fun z => hk (hA k z).1), fun i _ => by rw [(h.1 49 (fun z => (hA 49 z).2.1 rfl)).1], fun i _ => by rw [(h.1 50 (fun z => (hA 50 z).2.2 rfl)).1], fun k j hk => h.2.1 k j (fun z => hk (hB _ z)), h.2.2⟩
theorem FV.t0 {v : Int32} : FV w (wI w 46 0 v) := ((Fr.rf (A := []) (B := [4600]) (w := w)).pI (k := 46) (j := 0) (v := v) (by decide)).fv (by decide) (by decide)
/-- the invariant under a weaker frame: one that leaves what it looks at -/
def FVo (w w' : sW) : Prop := (∀ k, k ∉ 72 :: scA → w'.2.2.1 k = w.2.2.1 k ∧ w'.2.2.2.1 k = w.2.2.2.1 k) ∧ (∀ i, i < 30 → w'.2.2.1 49 i = w.2.2.1 49 i) ∧ (∀ i, i < 1200 → w'.2.2.1 50 i = w.2.2.1 50 i) ∧ (∀ k j, 100 * k + j ∉ scB → w'.1 k j = w.1 k j ∧ w'.2.1 k j = w.2.1 k j) ∧ w'.2.2.2.2 = w.2.2.2.2
theorem FV.o (h : FV w w') : FVo w w' := ⟨fun k hk => h.1 k (fun z => hk (List.mem_cons_of_mem _ z)), h.2⟩
theorem FVo.out {v : Int64} : FVo w (wL w 72 0 v) := by
  refine ⟨fun k hk => ⟨rfl, ?_⟩, fun _ _ => rfl, fun _ _ => rfl, fun _ _ _ => ⟨rfl, rfl⟩, rfl⟩
  show up2 w.2.2.2.1 72 0 v k = _
  exact up2_k (fun z => hk (by rw [z]; exact List.mem_cons_self))
theorem FS.fvo (h : FS P S0 e w n sl U (fun _ => D) nd) (f : FVo w w') : FS P S0 e w' n sl U (fun _ => D) nd := by
  have e2 := (f.1 2 (by decide)).1
  have e3 := (f.1 3 (by decide)).1
  have e4 := (f.1 4 (by decide)).1
  have e5 := (f.1 5 (by decide)).1
  have e6 := (f.1 6 (by decide)).1
  have e7 := (f.1 7 (by decide)).1
  have e8 := (f.1 8 (by decide)).1
  have e10 := (f.2.2.2.1 1 0 (by decide)).1
  have er := f.2.2.2.2
  unfold FS FT HB AL PL Hs w_fa at *
  rw [e2, e3, e4, e5, e6, e7, e8, e10, er]
  exact h
theorem hasL.fvo {f : Nat} {l : List Nat} (h : hasL w f l) (hf : f < 30) (g : FVo w w') : hasL w' f l := by
  obtain ⟨h1, h2, h3, h4⟩ := h
  exact ⟨(g.2.1 f hf).trans h1, h2, h3, fun k hk => (g.2.2.1 _ (by omega)).trans (h4 k hk)⟩
theorem IVa.fvo (h : IVa P S0 e w n sl D F L R U y φ nf ρ nd) (f : FVo w w') : IVa P S0 e w' n sl D F L R U y φ nf ρ nd := by
  have hb := h.b
  obtain ⟨h1, h2, h3, h4, h5, h6, h7⟩ := h
  have a47 := (f.1 47 (by decide)).1
  have a48 := (f.1 48 (by decide)).1
  have a30 := (f.1 30 (by decide)).1
  have a51 := (f.1 51 (by decide)).1
  have i9 : ∀ j, j < 11 → w'.1 9 j = w.1 9 j := fun j hj => (f.2.2.2.1 9 j (by simp; omega)).1
  have i19 : ∀ j, j < 11 → w'.1 19 j = w.1 19 j := fun j hj => (f.2.2.2.1 19 j (by simp; omega)).1
  have eo : ∀ k, k < 10 → w'.2.2.1 (9 + k) = w.2.2.1 (9 + k) ∧ w'.2.2.2.1 (9 + k) = w.2.2.2.1 (9 + k) := fun k hk => f.1 (9 + k) (by simp; omega)
  have ek : ∀ k, k < 10 → w'.2.2.1 (19 + k) = w.2.2.1 (19 + k) ∧ w'.2.2.2.1 (19 + k) = w.2.2.2.1 (19 + k) := fun k hk => f.1 (19 + k) (by simp; omega)
  refine ⟨?_, h2.fvo f, h3, fun k hk => (h4 k hk).fvo (by omega) f, ?_, ?_, ?_⟩
  · refine BK.congr h1 i9 (fun i _ => by rw [a47]) ?_ ?_ ?_ ?_ ?_ ?_ ?_ ?_ ?_ <;> intro i _
    · rw [(eo 2 (by decide)).1]
    · rw [(eo 3 (by decide)).1]
    · rw [(eo 6 (by decide)).1]
    · rw [(eo 7 (by decide)).1]
    · rw [(eo 8 (by decide)).1]
    · rw [(eo 9 (by decide)).1]
    · rw [(eo 1 (by decide)).2]
    · rw [(eo 4 (by decide)).2]
    · rw [(eo 5 (by decide)).2]
  · obtain ⟨N, t, t1, t2, t3, t4⟩ := h5
    refine ⟨N, t, t1, (f.2.2.2.1 29 0 (by decide)).1.trans t2, (f.2.2.2.1 46 7 (by decide)).1.trans t3, ?_⟩
    rw [a30, a51]
    exact t4
  · rw [(f.2.2.2.1 29 1 (by decide)).1, (f.2.2.2.1 46 13 (by decide)).1]; exact h6
  · have k0 := (f.2.2.2.1 0 8 (by decide)).1
    have k1 := (f.2.2.2.1 46 3 (by decide)).1
    unfold KP
    rw [k0, k1]
    refine h7.imp id ?_
    rintro ⟨z1, z2, D', F', L', R', U', y', φ', nf', ρ', z3, z4⟩
    refine ⟨z1, z2, D', F', L', R', U', y', φ', nf', ρ', ?_, z4⟩
    refine BK.congr z3 i19 (fun i _ => by rw [a48]) ?_ ?_ ?_ ?_ ?_ ?_ ?_ ?_ ?_ <;> intro i _
    · rw [(ek 2 (by decide)).1]
    · rw [(ek 3 (by decide)).1]
    · rw [(ek 6 (by decide)).1]
    · rw [(ek 7 (by decide)).1]
    · rw [(ek 8 (by decide)).1]
    · rw [(ek 9 (by decide)).1]
    · rw [(ek 1 (by decide)).2]
    · rw [(ek 4 (by decide)).2]
    · rw [(ek 5 (by decide)).2]
theorem IVa.fv (h : IVa P S0 e w n sl D F L R U y φ nf ρ nd) (f : FV w w') : IVa P S0 e w' n sl D F L R U y φ nf ρ nd := h.fvo f.o
end IVS
theorem wL_s {w : sW} {k j : Nat} {v : Int64} : (wL w k j v).2.2.2.1 k j = v := by
  show up2 w.2.2.2.1 k j v k j = _
  exact up2_s
theorem wA_s {w : sW} {k j : Nat} {v : Int32} : (wA w k j v).2.2.1 k j = v := by
  show up2 w.2.2.1 k j v k j = _
  exact up2_s
/-! what a pair of calls must show -/
section PRS
variable (P : sP) (S0 e : Nat) (w : sW) (ex : Nat → Option sC) (n sl : Nat)
/-- class and model answer alike: with an int, or with an exception and its number -/
def PI (c : sS → Option ((Int32 ⊕ String) × sS)) (m : sS → Option (Int32 × sS)) (cs : List (String × Int32)) (B : Int32 → Prop) : Prop :=
  (∃ x w1 ex1 n1 sl1 w2, B x ∧ c (hp P w ex n sl) = some (.inl x, hp P w1 ex1 n1 sl1) ∧ m (hp P (wL w1 72 0 x.toInt64) ex1 n1 sl1) = some (x, hp P w2 ex1 n1 sl1) ∧ w2.1 46 0 = 0 ∧ w2.2.2.2.1 72 0 = x.toInt64 ∧ IV P S0 e w2 n1 sl1) ∨
  (∃ E k w1 ex1 n1 sl1 b w2, (E, k) ∈ cs ∧ c (hp P w ex n sl) = some (.inr E, hp P w1 ex1 n1 sl1) ∧ m (hp P w1 ex1 n1 sl1) = some (b, hp P w2 ex1 n1 sl1) ∧ w2.1 46 0 = k ∧ IV P S0 (e + 1) w2 n1 sl1)
def PJ (c : sS → Option ((Int64 ⊕ String) × sS)) (m : sS → Option (Int64 × sS)) (cs : List (String × Int32)) : Prop :=
  (∃ x w1 ex1 n1 sl1 w2, c (hp P w ex n sl) = some (.inl x, hp P w1 ex1 n1 sl1) ∧ m (hp P (wL w1 72 0 x) ex1 n1 sl1) = some (x, hp P w2 ex1 n1 sl1) ∧ w2.1 46 0 = 0 ∧ w2.2.2.2.1 72 0 = x ∧ IV P S0 e w2 n1 sl1) ∨
  (∃ E k w1 ex1 n1 sl1 b w2, (E, k) ∈ cs ∧ c (hp P w ex n sl) = some (.inr E, hp P w1 ex1 n1 sl1) ∧ m (hp P w1 ex1 n1 sl1) = some (b, hp P w2 ex1 n1 sl1) ∧ w2.1 46 0 = k ∧ IV P S0 (e + 1) w2 n1 sl1)
/-- calls that throw nothing -/
def PN (c : sS → Option (Int32 × sS)) (m : sS → Option (Int32 × sS)) : Prop := ∃ x w1 ex1 n1 sl1 w2, c (hp P w ex n sl) = some (x, hp P w1 ex1 n1 sl1) ∧ m (hp P w1 ex1 n1 sl1) = some (x, hp P w2 ex1 n1 sl1) ∧ IV P S0 e w2 n1 sl1
end PRS
abbrev eUO : String := "java/lang/UnsupportedOperationException"
abbrev eNS : String := "java/util/NoSuchElementException"
abbrev eIS : String := "java/lang/IllegalStateException"
abbrev csX : List (String × Int32) := [(eIX, 1)]
abbrev csXA : List (String × Int32) := [(eIX, 1), (eIA, 2)]
abbrev csA : List (String × Int32) := [(eIA, 1)]
abbrev csXAU : List (String × Int32) := [(eIX, 1), (eIA, 2), (eUO, 3)]
abbrev csXN : List (String × Int32) := [(eIX, 1), (eNS, 2)]
abbrev csAU : List (String × Int32) := [(eIA, 1), (eUO, 2)]
abbrev anyI : Int32 → Prop := fun _ => True
abbrev bolI : Int32 → Prop := fun x => x = 0 ∨ x = 1
section PRL
variable {P : sP} {S0 e : Nat} {w w1 : sW} {ex : Nat → Option sC} {n sl D F L R U : Nat} {y : sLn} {φ : Nat → List Nat} {nf : Nat → Nat} {ρ : sRc} {nd : Nat → List Nat} {c : sS → Option ((Int32 ⊕ String) × sS)} {m : sS → Option (Int32 × sS)} {cj : sS → Option ((Int64 ⊕ String) × sS)} {mj : sS → Option (Int64 × sS)} {cn : sS → Option (Int32 × sS)} {cs : List (String × Int32)} {B : Int32 → Prop}
/-- a question -/
theorem PI.q {x : Int32} (hB : B x) (hI : IVa P S0 e w n sl D F L R U y φ nf ρ nd) (hc : c (hp P w ex n sl) = some (.inl x, hp P w1 ex n sl)) (f : FV w w1) (hm : ∀ u, IVa P S0 e u n sl D F L R U y φ nf ρ nd → FVo w u → ∃ u', m (hp P u ex n sl) = some (x, hp P u' ex n sl) ∧ FV u u' ∧ u'.1 46 0 = 0) : PI P S0 e w ex n sl c m cs B := by
  have f2 : FVo w (wL w1 72 0 x.toInt64) := ⟨fun k hk => ⟨(f.o.1 k hk).1, ((FVo.out (w := w1)).1 k hk).2.trans (f.o.1 k hk).2⟩, f.2.1, f.2.2.1, f.2.2.2.1, f.2.2.2.2⟩
  obtain ⟨u', m1, m2, m3⟩ := hm (wL w1 72 0 x.toInt64) (hI.fvo f2) f2
  refine Or.inl ⟨x, w1, ex, n, sl, u', hB, hc, m1, m3, ?_, ((hI.fvo f2).fv m2).iv⟩
  rw [(m2.1 72 (by decide)).2]
  exact wL_s
theorem PJ.q {x : Int64} (hI : IVa P S0 e w n sl D F L R U y φ nf ρ nd) (hc : cj (hp P w ex n sl) = some (.inl x, hp P w1 ex n sl)) (f : FV w w1) (hm : ∀ u, IVa P S0 e u n sl D F L R U y φ nf ρ nd → FVo w u → ∃ u', mj (hp P u ex n sl) = some (x, hp P u' ex n sl) ∧ FV u u' ∧ u'.1 46 0 = 0) : PJ P S0 e w ex n sl cj mj cs := by
  have f2 : FVo w (wL w1 72 0 x) := ⟨fun k hk => ⟨(f.o.1 k hk).1, ((FVo.out (w := w1)).1 k hk).2.trans (f.o.1 k hk).2⟩, f.2.1, f.2.2.1, f.2.2.2.1, f.2.2.2.2⟩
  obtain ⟨u', m1, m2, m3⟩ := hm (wL w1 72 0 x) (hI.fvo f2) f2
  refine Or.inl ⟨x, w1, ex, n, sl, u', hc, m1, m3, ?_, ((hI.fvo f2).fv m2).iv⟩
  rw [(m2.1 72 (by decide)).2]
  exact wL_s
/-- an exception on both sides -/
theorem PI.x {E : String} {k b : Int32} {w2 : sW} (hI : IVa P S0 e w n sl D F L R U y φ nf ρ nd) (hE : (E, k) ∈ cs) (hc : c (hp P w ex n sl) = some (.inr E, hp P w ex (n + 1) (sl + 6))) (hm : m (hp P w ex (n + 1) (sl + 6)) = some (b, hp P w2 ex (n + 1) (sl + 6))) (f : FV w w2) (hk : w2.1 46 0 = k) : PI P S0 e w ex n sl c m cs B :=
  Or.inr ⟨E, k, w, ex, n + 1, sl + 6, b, w2, hE, hc, hm, hk, (hI.xc.fv f).iv⟩
theorem PJ.x {E : String} {k : Int32} {b : Int64} {w2 : sW} (hI : IVa P S0 e w n sl D F L R U y φ nf ρ nd) (hE : (E, k) ∈ cs) (hc : cj (hp P w ex n sl) = some (.inr E, hp P w ex (n + 1) (sl + 6))) (hm : mj (hp P w ex (n + 1) (sl + 6)) = some (b, hp P w2 ex (n + 1) (sl + 6))) (f : FV w w2) (hk : w2.1 46 0 = k) : PJ P S0 e w ex n sl cj mj cs :=
  Or.inr ⟨E, k, w, ex, n + 1, sl + 6, b, w2, hE, hc, hm, hk, (hI.xc.fv f).iv⟩
theorem PN.q {x : Int32} (hI : IVa P S0 e w n sl D F L R U y φ nf ρ nd) (hc : cn (hp P w ex n sl) = some (x, hp P w1 ex n sl)) (f : FV w w1) (hm : ∀ u, IVa P S0 e u n sl D F L R U y φ nf ρ nd → FVo w u → ∃ u', m (hp P u ex n sl) = some (x, hp P u' ex n sl) ∧ FV u u') : PN P S0 e w ex n sl cn m := by
  obtain ⟨u', m1, m2⟩ := hm w1 (hI.fv f) f.o
  exact ⟨x, w1, ex, n, sl, u', hc, m1, ((hI.fv f).fv m2).iv⟩
end PRL
