/-! the picture at the start: what lies in the heap before the law -/
section PIC
variable {s : State} {a n n' : Nat}
noncomputable def pcA (s : State) (a : Nat) : Option sC :=
  @dite _ (∃ q : Nat × (Nat → Int32), q.1 < 2 ^ 31 ∧ va_T .int a q.1 (fun j => .int (q.2 j)) (s_A s.heap.size) s s.heap) (Classical.propDecidable _) (fun h => some (.inl (4, h.choose.1, .inl h.choose.2))) (fun _ =>
  @dite _ (∃ q : Nat × (Nat → Int64), q.1 < 2 ^ 31 ∧ va_T .long a q.1 (fun j => .long (q.2 j)) (s_A s.heap.size) s s.heap) (Classical.propDecidable _) (fun h => some (.inl (5, h.choose.1, .inr (.inl h.choose.2)))) (fun _ =>
  @dite _ (∃ q : Nat × (Nat → Int32), q.1 < 2 ^ 31 ∧ va_T .byte a q.1 (fun j => .int (q.2 j)) (s_A s.heap.size) s s.heap) (Classical.propDecidable _) (fun h => some (.inl (6, h.choose.1, .inl h.choose.2))) (fun _ =>
  @dite _ (∃ v : Value, va_O s_str a (s_A s.heap.size) s s.heap ∧ va_OF s_str "value" "[B" v a (s_A s.heap.size) s s.heap ∧ va_OF s_str "coder" "B" (.int 0) a (s_A s.heap.size) s s.heap) (Classical.propDecidable _) (fun h => some (.inr (100, [h.choose, .int 0]))) (fun _ => none))))
theorem vt_lt {ty : FieldType} {f : Nat → Value} {A : Nat → Prop} (h : va_T ty a n f A s s.heap) : a < s.heap.size := by
  obtain ⟨cell, h1, -⟩ := h
  exact (Array.getElem?_eq_some_iff.mp h1).1
/-- two views of one array agree -/
theorem vt_eq {ty ty' : FieldType} {f f' : Nat → Value} {A A' : Nat → Prop} (h : va_T ty a n f A s s.heap) (h' : va_T ty' a n' f' A' s s.heap) (hn : n < 2 ^ 31) (hn' : n' < 2 ^ 31) : ty = ty' ∧ n = n' ∧ ∀ j, j < n → f j = f' j := by
  obtain ⟨cell, h1, h2, h3, h4, h5, h6, h7⟩ := h
  obtain ⟨cell', g1, g2, g3, g4, g5, g6, g7⟩ := h'
  have hc : cell = cell' := Option.some.inj (h1.symm.trans g1)
  subst hc
  obtain ⟨-, k, k1, c1, k2⟩ := h2
  obtain ⟨-, k', m1, c2, m2⟩ := g2
  have hk : k = k' := Option.some.inj (k1.symm.trans m1)
  subst hk
  have hn2 : n = n' := (mI_inj hn hn').mp (h5.symm.trans g5)
  subst hn2
  refine ⟨?_, rfl, fun j hj => Option.some.inj ((h6 j hj).symm.trans (g6 j hj))⟩
  have := k2.symm.trans m2
  injection this
/-- a cell that holds a reference is no array of numbers -/
theorem vt_ref {ty : FieldType} {f : Nat → Value} {A A' : Nat → Prop} {o m d : String} {v : Nat} (hf : heapFits s = true) (h : va_T ty a n f A s s.heap) (g : va_OF o m d (.ref v) a A' s s.heap) (hty : fits ty (.ref v) = false) : False := by
  obtain ⟨cell, h1, ⟨h2, k, k1, c1, k2⟩, -⟩ := h
  obtain ⟨cf, kk, i, fd, cell', g1, g2, g3, g4, g5, g6⟩ := g
  have hc : cell = cell' := Option.some.inj (h1.symm.trans g3)
  subst hc
  obtain ⟨ha, he⟩ := Array.getElem?_eq_some_iff.mp h1
  have z1 := (Array.all_eq_true_iff_forall_mem.mp hf) _ (Array.getElem_mem ha)
  rw [he] at z1
  have hi : fd.slot < cell.slots.size := (Array.getElem?_eq_some_iff.mp g5).1
  have z2 := (List.all_eq_true.mp z1) fd.slot (List.mem_range.mpr hi)
  rw [g5] at z2
  have z3 : s.fitsSlot cell.cls cell.vm fd.slot (.ref v) = true := z2
  have z4 : s.slotType? cell.cls cell.vm fd.slot = some ty := by
    unfold State.slotType?
    rw [k1]
    cases hv : cell.vm with
    | statics q => exact absurd hv (h2 q)
    | _ => simp [k2]
  unfold State.fitsSlot at z3
  rw [z4] at z3
  have z5 : fits ty (.ref v) = true := z3
  rw [hty] at z5
  cases z5
theorem pcA_4 {f : Nat → Int32} (h : va_T .int a n (fun j => .int (f j)) (s_A s.heap.size) s s.heap) (hn : n < 2 ^ 31) : ∃ g, pcA s a = some (.inl (4, n, .inl g)) ∧ ∀ j, j < n → g j = f j := by
  have hx : ∃ q : Nat × (Nat → Int32), q.1 < 2 ^ 31 ∧ va_T .int a q.1 (fun j => .int (q.2 j)) (s_A s.heap.size) s s.heap := ⟨(n, f), hn, h⟩
  obtain ⟨-, e2, e3⟩ := vt_eq hx.choose_spec.2 h hx.choose_spec.1 hn
  refine ⟨hx.choose.2, ?_, fun j hj => Value.int.inj (e3 j (by rw [e2]; exact hj))⟩
  unfold pcA
  rw [dif_pos hx, e2]
theorem pcA_5 {f : Nat → Int64} (h : va_T .long a n (fun j => .long (f j)) (s_A s.heap.size) s s.heap) (hn : n < 2 ^ 31) : ∃ g, pcA s a = some (.inl (5, n, .inr (.inl g))) ∧ ∀ j, j < n → g j = f j := by
  have hx : ∃ q : Nat × (Nat → Int64), q.1 < 2 ^ 31 ∧ va_T .long a q.1 (fun j => .long (q.2 j)) (s_A s.heap.size) s s.heap := ⟨(n, f), hn, h⟩
  obtain ⟨-, e2, e3⟩ := vt_eq hx.choose_spec.2 h hx.choose_spec.1 hn
  refine ⟨hx.choose.2, ?_, fun j hj => Value.long.inj (e3 j (by rw [e2]; exact hj))⟩
  unfold pcA
  rw [dif_neg (fun z => absurd (vt_eq z.choose_spec.2 h z.choose_spec.1 hn).1 (by decide)), dif_pos hx, e2]
theorem pcA_6 {f : Nat → Int32} (h : va_T .byte a n (fun j => .int (f j)) (s_A s.heap.size) s s.heap) (hn : n < 2 ^ 31) : ∃ g, pcA s a = some (.inl (6, n, .inl g)) ∧ ∀ j, j < n → g j = f j := by
  have hx : ∃ q : Nat × (Nat → Int32), q.1 < 2 ^ 31 ∧ va_T .byte a q.1 (fun j => .int (q.2 j)) (s_A s.heap.size) s s.heap := ⟨(n, f), hn, h⟩
  obtain ⟨-, e2, e3⟩ := vt_eq hx.choose_spec.2 h hx.choose_spec.1 hn
  refine ⟨hx.choose.2, ?_, fun j hj => Value.int.inj (e3 j (by rw [e2]; exact hj))⟩
  unfold pcA
  rw [dif_neg (fun z => absurd (vt_eq z.choose_spec.2 h z.choose_spec.1 hn).1 (by decide)), dif_neg (fun z => absurd (vt_eq z.choose_spec.2 h z.choose_spec.1 hn).1 (by decide)), dif_pos hx, e2]
theorem of_eq {o m d : String} {v v' : Value} {A A' : Nat → Prop} (h : va_OF o m d v a A s s.heap) (g : va_OF o m d v' a A' s s.heap) : v = v' := by
  obtain ⟨cf, kk, i, fd, cell, h1, h2, h3, h4, h5, h6⟩ := h
  obtain ⟨cf', kk', i', fd', cell', g1, g2, g3, g4, g5, g6⟩ := g
  have e1 := Option.some.inj (h1.symm.trans g1)
  have e2 : fd = fd' := congrArg (fun z => z.2.2.2) e1
  have hc : cell = cell' := Option.some.inj (h3.symm.trans g3)
  subst hc
  subst e2
  exact Option.some.inj (h5.symm.trans g5)
theorem pcA_7 {v : Nat} (hf : heapFits s = true) (h1 : va_O s_str a (s_A s.heap.size) s s.heap) (h2 : va_OF s_str "value" "[B" (.ref v) a (s_A s.heap.size) s s.heap) (h3 : va_OF s_str "coder" "B" (.int 0) a (s_A s.heap.size) s s.heap) : pcA s a = some (.inr (100, [.ref v, .int 0])) := by
  have hx : ∃ v : Value, va_O s_str a (s_A s.heap.size) s s.heap ∧ va_OF s_str "value" "[B" v a (s_A s.heap.size) s s.heap ∧ va_OF s_str "coder" "B" (.int 0) a (s_A s.heap.size) s s.heap := ⟨.ref v, h1, h2, h3⟩
  have e : hx.choose = .ref v := of_eq hx.choose_spec.2.1 h2
  unfold pcA
  rw [dif_neg (fun z => vt_ref hf z.choose_spec.2 h2 rfl), dif_neg (fun z => vt_ref hf z.choose_spec.2 h2 rfl), dif_neg (fun z => vt_ref hf z.choose_spec.2 h2 rfl), dif_pos hx, e]
theorem pcA_ok {D : va_G} {cA : Nat → ClassId} {c : sC} (h : pcA s a = some c) : a < s.heap.size ∧ s_cell D cA s.heap.size s s.heap a c := by
  unfold pcA at h
  by_cases z1 : ∃ q : Nat × (Nat → Int32), q.1 < 2 ^ 31 ∧ va_T .int a q.1 (fun j => .int (q.2 j)) (s_A s.heap.size) s s.heap
  · rw [dif_pos z1] at h
    cases h
    exact ⟨vt_lt z1.choose_spec.2, z1.choose_spec.2⟩
  rw [dif_neg z1] at h
  by_cases z2 : ∃ q : Nat × (Nat → Int64), q.1 < 2 ^ 31 ∧ va_T .long a q.1 (fun j => .long (q.2 j)) (s_A s.heap.size) s s.heap
  · rw [dif_pos z2] at h
    cases h
    exact ⟨vt_lt z2.choose_spec.2, z2.choose_spec.2⟩
  rw [dif_neg z2] at h
  by_cases z3 : ∃ q : Nat × (Nat → Int32), q.1 < 2 ^ 31 ∧ va_T .byte a q.1 (fun j => .int (q.2 j)) (s_A s.heap.size) s s.heap
  · rw [dif_pos z3] at h
    cases h
    exact ⟨vt_lt z3.choose_spec.2, z3.choose_spec.2⟩
  rw [dif_neg z3] at h
  by_cases z4 : ∃ v : Value, va_O s_str a (s_A s.heap.size) s s.heap ∧ va_OF s_str "value" "[B" v a (s_A s.heap.size) s s.heap ∧ va_OF s_str "coder" "B" (.int 0) a (s_A s.heap.size) s s.heap
  · rw [dif_pos z4] at h
    cases h
    refine ⟨?_, ?_⟩
    · obtain ⟨cell, w1, -⟩ := z4.choose_spec.1
      exact (Array.getElem?_eq_some_iff.mp w1).1
    · unfold s_cell
      dsimp only
      rw [if_pos rfl]
      exact ⟨z4.choose, rfl, z4.choose_spec⟩
  · rw [dif_neg z4] at h
    cases h
end PIC
