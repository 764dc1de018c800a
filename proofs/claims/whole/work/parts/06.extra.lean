/-! ends of methods that may throw; calls on String constants -/
theorem e_IX_l {q : (Int32 ⊕ String) × sS} {x : Int32} (h : q.1 = .inl x) : (e_IX q).1 = .inl (some (.int x)) := by
  obtain ⟨a, τ⟩ := q
  have h : a = .inl x := h
  subst h
  rfl
theorem e_IX_r {q : (Int32 ⊕ String) × sS} {x : String} (h : q.1 = .inr x) : (e_IX q).1 = .inr x := by
  obtain ⟨a, τ⟩ := q
  have h : a = .inr x := h
  subst h
  rfl
theorem e_JX_l {q : (Int64 ⊕ String) × sS} {x : Int64} (h : q.1 = .inl x) : (e_JX q).1 = .inl (some (.long x)) := by
  obtain ⟨a, τ⟩ := q
  have h : a = .inl x := h
  subst h
  rfl
theorem e_JX_r {q : (Int64 ⊕ String) × sS} {x : String} (h : q.1 = .inr x) : (e_JX q).1 = .inr x := by
  obtain ⟨a, τ⟩ := q
  have h : a = .inr x := h
  subst h
  rfl
theorem e_VX_l {q : (Unit ⊕ String) × sS} {x : Unit} (h : q.1 = .inl x) : (e_VX q).1 = .inl none := by
  obtain ⟨a, τ⟩ := q
  have h : a = .inl x := h
  subst h
  rfl
theorem e_VX_r {q : (Unit ⊕ String) × sS} {x : String} (h : q.1 = .inr x) : (e_VX q).1 = .inr x := by
  obtain ⟨a, τ⟩ := q
  have h : a = .inr x := h
  subst h
  rfl
section SEXTRA
variable {G : sG} {d : Nat} {M : sM} {vs0 : List Value} {σ0 σ : sS} {r : sR} {p : Program} {e : Env} {s : State} {m : MethodId} {below : List Frame} {meth : Method} {c : Code} {H : Heap} {locs : List Loc} {cells slots : Nat} {pc : Nat} {ls : Array Slot} {rest : List Value}
theorem r_callVs (X : s_Cx M p s m vs0.toArray meth c) (I : s_I G σ s H locs) {idx n d' b : Nat} {Y : sM} {As : List Value} {r' : sR} {v : Option Value} (hL : Cond.methodLink M.1.cls idx Y.1 ∈ s_TB) (hY : s_MVs Y n) (hd : d' + 1 ≤ d) (hT : s_T G d' Y (.ref b :: As) σ r') (hb : ∃ fs, σ.1 b = some (.inr (100, fs))) (hv : r'.1 = .inl v)
    (hn : As.length = n) (hls : ls.size = M.2.2.1) {stk : List Value} (hst : stk = As.reverse ++ .ref b :: rest) (hw : (rest.map fun v => v.category).sum ≤ 8) (hf : cells + σ0.2.1 ≤ σ.2.1 ∧ slots + σ0.2.2.1 ≤ σ.2.2.1) (hle : s_le r'.2 r.2) (hdg : decode M.2.1 pc = .ok (.invokevirtual idx, 3))
    (kk : ∀ (H1 : Heap) (locs1 : List Loc) (cells1 slots1 : Nat), s_I G r'.2 s H1 locs1 → cells1 + σ0.2.1 ≤ r'.2.2.1 → slots1 + σ0.2.2.1 ≤ r'.2.2.2.1 → s_W G d vs0 σ0 r p e s m below meth c H1 locs1 cells1 slots1 (F0 m (pc + 3) ls (v.toList ++ rest))) :
    s_W G d vs0 σ0 r p e s m below meth c H locs cells slots (F0 m pc ls stk) := by
  obtain ⟨hle0, hM⟩ := hT
  obtain ⟨hYB, hin, hse, hcls⟩ := hY
  obtain ⟨fs, hbs⟩ := hb
  have hc := (I.1.2.2.2.1 b _ hbs).2
  dsimp only [s_cell] at hc
  rw [if_pos rfl] at hc
  obtain ⟨w9, -, ⟨cell, c1, c2, c3, -⟩, -, -⟩ := hc
  have hrec : ∃ cellB : Cell, H[b]? = some cellB ∧ cellB.vm.isStatics = false ∧ s.vm.findClass Y.1.cls = some cellB.cls := ⟨cell, c1, c2, by rw [hcls]; exact c3⟩
  have g1 := hle0.1
  have g2 := hle0.2.1
  have g3 := hle.1
  have g4 := hle.2.1
  refine s_run9 (Y := Y) (vs := .ref b :: As) (st := rest) I hle0 (vx_runV (C := Y.1.cls) (As := As) (rest := rest) (s_fix X) hM ⟨s_cb X hYB hL hd, X.2.2.2.2.2.2.1 _ hin, X.2.2.2.2.2.2.1 _ hse⟩ ⟨(s_pre I (.ref b :: As)).1, hrec, (s_pre I (.ref b :: As)).2⟩ rfl hn hls hst (by show 2 * 0 + _ ≤ 8; omega) hdg ⟨by show _ ≤ r.2.2.1 - σ0.2.1; omega, by show _ ≤ r.2.2.2.1 - σ0.2.2.1; omega⟩) ?_ ?_
  · intro v' hv' H1 locs1 I1
    rw [hv] at hv'
    cases hv'
    exact kk H1 locs1 _ _ I1 (by omega) (by omega)
  · intro E hE
    rw [hv] at hE
    cases hE
end SEXTRA
/-! the values that count at a label, one by one -/
def g_r : List Value → Option (Nat × List Value)
  | .ref a :: l => some (a, l)
  | _ => none
def g_i : List Value → Option (Int32 × List Value)
  | .int a :: l => some (a, l)
  | _ => none
def g_l : List Value → Option (Int64 × List Value)
  | .long a :: l => some (a, l)
  | _ => none
def g_w : List Value → Option (Value × List Value)
  | a :: l => some (a, l)
  | _ => none
def g_e : List Value → Option Unit
  | [] => some ()
  | _ => none
theorem g_r_to {vs : List Value} {a : Nat × List Value} (h : g_r vs = some a) : vs = .ref a.1 :: a.2 := by
  unfold g_r at h
  split at h
  · cases h; rfl
  · cases h
theorem g_i_to {vs : List Value} {a : Int32 × List Value} (h : g_i vs = some a) : vs = .int a.1 :: a.2 := by
  unfold g_i at h
  split at h
  · cases h; rfl
  · cases h
theorem g_l_to {vs : List Value} {a : Int64 × List Value} (h : g_l vs = some a) : vs = .long a.1 :: a.2 := by
  unfold g_l at h
  split at h
  · cases h; rfl
  · cases h
theorem g_w_to {vs : List Value} {a : Value × List Value} (h : g_w vs = some a) : vs = a.1 :: a.2 := by
  unfold g_w at h
  split at h
  · cases h; rfl
  · cases h
theorem g_e_to {vs : List Value} {u : Unit} (h : g_e vs = some u) : vs = [] := by
  unfold g_e at h
  split at h
  · rfl
  · cases h
theorem s_nws {σ τ : sS} {ci N : Nat} {fs : List Value} (h : some (s_nw σ ci N fs) = some τ) : s_le σ τ := by
  cases h
  exact s_nw_le
