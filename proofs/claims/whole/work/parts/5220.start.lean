/-! what the Statement gives of the start, as the picture wants it -/
def gC : List Cond := flatC (Cond.and given_1 narrow_1)
/-- what holds at the law's entry -/
def Ent (s : State) (b : Nat) : Prop := (∀ w ∈ lw_tbl, w.before #[Value.ref b] s = true) ∧ (∀ w ∈ gC, w.before #[Value.ref b] s = true) ∧ heapFits s = true
abbrev tAsk : Term := .static "ProofShop$Auditor" "ASKED" "[I"
abbrev tCol : Term := .static "ProofShop$Forms" "COLUMNS" "[J"
def stE (s : State) (q : String × Nat × String × Nat) : Nat := match (Term.string q.1 q.2.1).eval #[] s none [] s with
  | some (.ref a) => a
  | _ => 0
def ttE (s : State) (t : Term) : Nat := match t.eval #[] s none [] s with
  | some (.ref a) => a
  | _ => 0
def evS (s : State) (k : Nat) : Nat := if k = 0 then ttE s tAsk else if k = 1 then ttE s tCol else match s_strs.find? (fun p => p.2.2.2 == k) with
  | some q => stE s q
  | none => 0
section ENT
variable {s : State} {b : Nat}
theorem eA (a : Nat) : a < s.heap.size → ¬ s_A s.heap.size a := fun h z => absurd h (Nat.not_lt.mpr z)
theorem in_ask : ∀ j, j < 16 → Cond.eq (.elem tAsk (.int (Int32.ofNat j))) (.int (mI (askL j))) ∈ gC := by decide +kernel
theorem in_col : ∀ j, j < 6 → Cond.eq (.elem tCol (.int (Int32.ofNat j))) (.long (colL j)) ∈ gC := by decide +kernel
theorem in_askA : Cond.arrayOf tAsk .int ∈ gC ∧ Cond.eq (.length tAsk) (.int (Int32.ofNat 16)) ∈ gC := by decide +kernel
theorem in_colA : Cond.arrayOf tCol .long ∈ gC ∧ Cond.eq (.length tCol) (.int (Int32.ofNat 6)) ∈ gC := by decide +kernel
theorem e_ask (h : Ent s b) : tAsk.eval #[] s none [] s = some (.ref (evS s 0)) ∧ va_T .int (evS s 0) 16 (fun j => .int (mI (askL j))) (s_A s.heap.size) s s.heap := by
  obtain ⟨t, h1, h2⟩ := va_Tof (args := #[Value.ref b]) (s := s) (tm := tAsk) (ty := .int) (N := 16) (f := fun j => .int (mI (askL j))) (A := s_A s.heap.size) (by decide) (h.2.1 _ in_askA.1) (va_eqt (h.2.1 _ in_askA.2)) (fun j hj => va_eqt (h.2.1 _ (in_ask j hj))) eA
  have h1' : tAsk.eval #[] s none [] s = some (.ref t) := h1
  have e : evS s 0 = t := by
    show ttE s tAsk = t
    unfold ttE
    rw [h1']
  rw [e]
  exact ⟨h1', h2⟩
theorem e_col (h : Ent s b) : tCol.eval #[] s none [] s = some (.ref (evS s 1)) ∧ va_T .long (evS s 1) 6 (fun j => .long (colL j)) (s_A s.heap.size) s s.heap := by
  obtain ⟨t, h1, h2⟩ := va_Tof (args := #[Value.ref b]) (s := s) (tm := tCol) (ty := .long) (N := 6) (f := fun j => .long (colL j)) (A := s_A s.heap.size) (by decide) (h.2.1 _ in_colA.1) (va_eqt (h.2.1 _ in_colA.2)) (fun j hj => va_eqtl (h.2.1 _ (in_col j hj))) eA
  have h1' : tCol.eval #[] s none [] s = some (.ref t) := h1
  have e : evS s 1 = t := by
    show ttE s tCol = t
    unfold ttE
    rw [h1']
  rw [e]
  exact ⟨h1', h2⟩
/-- strings -/
abbrev tStr (i : Nat) : Term := .string "ProofShop$Reader" i
theorem e_str {i : Nat} {W : List Nat} {B : List Int32} (h : Ent s b) (h0 : W.length < 100) (h1 : Cond.exactly (tStr i) "java/lang/String" ∈ gC) (h2 : Cond.eq (.field (tStr i) "java/lang/String" "coder" "B") (.int 0) ∈ gC) (h3 : Cond.arrayOf (.field (tStr i) "java/lang/String" "value" "[B") .byte ∈ gC) (h4 : Cond.eq (.length (.field (tStr i) "java/lang/String" "value" "[B")) (.int (Int32.ofNat W.length)) ∈ gC) (h5 : ∀ j, j < W.length → Cond.eq (.elem (.field (tStr i) "java/lang/String" "value" "[B") (.int (Int32.ofNat j))) (.int (B.getD j 0)) ∈ gC) (h6 : ∀ j, j < W.length → B.getD j 0 = mI (W.getD j 0)) : ∃ a v, (tStr i).eval #[] s none [] s = some (.ref a) ∧ a < s.heap.size ∧ v < s.heap.size ∧ pcA s a = some (.inr (100, [.ref v, .int 0])) ∧ ∃ f, pcA s v = some (.inl (6, W.length, .inl f)) ∧ ∀ j, j < W.length → f j = mI (W.getD j 0) := by
  obtain ⟨adK, adV, ⟨g1, -⟩, g2⟩ := vk_Sof (args := #[Value.ref b]) (s := s) (N := 1) (tm := fun _ => tStr i) (len := [W.length]) (byt := [B]) (A := s_A s.heap.size)
    (fun k hk => by cases (show k = 0 by omega); exact Nat.lt_trans h0 (by decide)) (fun k _ => h.2.1 _ h1) (fun k _ => h.2.1 _ h2) (fun k _ => h.2.1 _ h3) (fun k hk => by cases (show k = 0 by omega); exact h.2.1 _ h4) (fun k hk j hj => by cases (show k = 0 by omega); exact h.2.1 _ (h5 j hj)) (fun i j hi hj hn => absurd (show i = j by omega) hn) eA
  obtain ⟨k1, k2, k3, k4⟩ := g1 0 (by decide)
  have k4 : va_T .byte (adV 0) W.length (fun j => .int (B.getD j 0)) (s_A s.heap.size) s s.heap := k4
  obtain ⟨f, f1, f2⟩ := pcA_6 (f := fun j => B.getD j 0) k4 (Nat.lt_trans h0 (by decide))
  refine ⟨adK 0, adV 0, g2 0 (by decide), ?_, vt_lt k4, pcA_7 h.2.2 k1 k3 k2, f, f1, fun j hj => (f2 j hj).trans (h6 j hj)⟩
  obtain ⟨cell, w1, -⟩ := k1
  exact (Array.getElem?_eq_some_iff.mp w1).1
/-- the fixed part of the picture -/
noncomputable def PEs (s : State) : sP := (pcA s, s.heap.size, evS s)
theorem e_KA (h : Ent s b) : KA (PEs s) := by
  obtain ⟨f, f1, f2⟩ := pcA_4 (f := fun j => mI (askL j)) (e_ask h).2 (by decide)
  exact ⟨vt_lt (e_ask h).2, f, f1, f2⟩
theorem e_KC (h : Ent s b) : KC (PEs s) := by
  obtain ⟨f, f1, f2⟩ := pcA_5 (f := colL) (e_col h).2 (by decide)
  exact ⟨vt_lt (e_col h).2, f, f1, f2⟩
theorem e_KW {c i : Nat} {tx : String} {W : List Nat} {B : List Int32} (h : Ent s b) (hc : 2 ≤ c) (hf : s_strs.find? (fun p => p.2.2.2 == c) = some ("ProofShop$Reader", i, tx, c)) (hW : ∀ x ∈ W, x < 128) (h0 : W.length < 100) (h1 : Cond.exactly (tStr i) "java/lang/String" ∈ gC) (h2 : Cond.eq (.field (tStr i) "java/lang/String" "coder" "B") (.int 0) ∈ gC) (h3 : Cond.arrayOf (.field (tStr i) "java/lang/String" "value" "[B") .byte ∈ gC) (h4 : Cond.eq (.length (.field (tStr i) "java/lang/String" "value" "[B")) (.int (Int32.ofNat W.length)) ∈ gC) (h5 : ∀ j, j < W.length → Cond.eq (.elem (.field (tStr i) "java/lang/String" "value" "[B") (.int (Int32.ofNat j))) (.int (B.getD j 0)) ∈ gC) (h6 : ∀ j, j < W.length → B.getD j 0 = mI (W.getD j 0)) : KW (PEs s) c W := by
  obtain ⟨a, v, k1, k2, k3, k4, f, k5, k6⟩ := e_str h h0 h1 h2 h3 h4 h5 h6
  have e : evS s c = a := by
    unfold evS
    rw [if_neg (by omega), if_neg (by omega), hf]
    dsimp only
    unfold stE
    dsimp only
    rw [k1]
  refine ⟨v, f, ?_, k3, ?_, k5, h0, fun j hj => ⟨k6 j hj, ?_⟩⟩
  · show evS s c < s.heap.size
    rw [e]; exact k2
  · show pcA s (evS s c) = _
    rw [e]; exact k4
  · rw [List.getD_eq_getElem?_getD, List.getElem?_eq_getElem hj]
    exact hW _ (List.getElem_mem hj)
theorem e_KS (h : Ent s b) : KS (PEs s) :=
  ⟨e_KW (i := 84) (tx := "all") (B := [97, 108, 108]) h (by decide) (by decide +kernel) (by decide) (by decide) (by decide +kernel) (by decide +kernel) (by decide +kernel) (by decide +kernel) (by decide +kernel) (by decide +kernel),
   e_KW (i := 94) (tx := "some") (B := [115, 111, 109, 101]) h (by decide) (by decide +kernel) (by decide) (by decide) (by decide +kernel) (by decide +kernel) (by decide +kernel) (by decide +kernel) (by decide +kernel) (by decide +kernel),
   e_KW (i := 102) (tx := "fx") (B := [102, 120]) h (by decide) (by decide +kernel) (by decide) (by decide) (by decide +kernel) (by decide +kernel) (by decide +kernel) (by decide +kernel) (by decide +kernel) (by decide +kernel),
   e_KW (i := 104) (tx := "gx") (B := [103, 120]) h (by decide) (by decide +kernel) (by decide) (by decide) (by decide +kernel) (by decide +kernel) (by decide +kernel) (by decide +kernel) (by decide +kernel) (by decide +kernel)⟩
theorem e_KScr {N : Nat} {xs : Nat → Int32} (h : va_X b N xs s s.heap) (hN : N ≤ 3584) : ∃ g, KScr (PEs s) b N g := by
  obtain ⟨cell, h1, h2, h3, h4, h5⟩ := h
  have hb : b < s.heap.size := (Array.getElem?_eq_some_iff.mp h1).1
  have hT : va_T .int b N (fun j => .int (xs j)) (s_A s.heap.size) s s.heap := ⟨cell, h1, h2, h3, Nat.le_of_eq h4.symm, by rw [h4], h5, eA b hb⟩
  obtain ⟨g, g1, -⟩ := pcA_4 hT (Nat.lt_of_le_of_lt hN (by decide))
  exact ⟨g, hb, hN, g1⟩
end ENT
