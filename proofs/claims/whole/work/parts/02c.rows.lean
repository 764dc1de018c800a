/-! rows over the picture: fields and arrays -/
theorem s_cell_obj {D : va_G} {cA : Nat → ClassId} {B : Nat} {U : State} {H : Heap} {a ci : Nat} {fs : List Value} (h : s_cell D cA B U H a (.inr (ci, fs))) (hc : ci < 100) : B ≤ a ∧ va_at D s_cl (a, .inr (ci, fs)) H := by
  dsimp only [s_cell] at h
  rw [if_neg (by show ¬ ci = 100; omega)] at h
  exact h
theorem s_mk_obj {D : va_G} {cA : Nat → ClassId} {B : Nat} {U : State} {H : Heap} {a ci : Nat} {fs : List Value} (hc : ci < 100) (h1 : B ≤ a) (h2 : va_at D s_cl (a, .inr (ci, fs)) H) : s_cell D cA B U H a (.inr (ci, fs)) := by
  dsimp only [s_cell]
  rw [if_neg (by show ¬ ci = 100; omega)]
  exact ⟨h1, h2⟩
theorem s_cell.kept {D : va_G} {cA : Nat → ClassId} {B : Nat} {U : State} {H H1 : Heap} {a : Nat} {c : sC} (h : s_cell D cA B U H a c) (h1 : H1[a]? = H[a]?) (h2 : ∀ q : Nat, q < H.size → ¬ s_A B q → H1[q]? = H[q]?) : s_cell D cA B U H1 a c := by
  unfold s_cell at h ⊢
  split at h
  · exact ⟨h.1, h.2.kept h1⟩
  · exact ⟨h.1, h.2.kept h1⟩
  · exact ⟨h.1, h.2.kept h1⟩
  · exact ⟨h.1, h.2.kept h1⟩
  · exact h.kept h2
  · exact h.kept h2
  · exact h.kept h2
  · split at h
    next e =>
      obtain ⟨v, g0, g1, g2, g3⟩ := h
      rw [if_pos e]
      exact ⟨v, g0, g1.kept h2, g2.kept h2, g3.kept h2⟩
    next e => rw [if_neg e]; exact ⟨h.1, h.2.kept h1⟩
  · exact h
theorem s_env.kept {B : Nat} {ev : Nat → Nat} {U : State} {H H1 : Heap} (h : s_env B ev U H) (h2 : ∀ q : Nat, q < H.size → ¬ s_A B q → H1[q]? = H[q]?) : s_env B ev U H1 :=
  ⟨h.1.kept h2, h.2.1.kept h2, h.2.2.1.kept h2, h.2.2.2.1.kept h2, h.2.2.2.2.1.kept h2, va_Zq.kept h.2.2.2.2.2 h2⟩
/-- a cell of ours is written -/
theorem s_I.put {G : sG} {σ : sS} {s : State} {H H1 : Heap} {locs : List Loc} {a : Nat} {c : sC} (I : s_I G σ s H locs) (z : H1.size = H.size) (oq : ∀ q : Nat, q ≠ a → H1[q]? = H[q]?) (ha : s_B G ≤ a) (hl : a < H.size) (hc : s_cell G.2.1 G.2.2.1 (s_B G) s H1 a c) (ks : List Loc) (hks : ∀ q ∈ ks, q.base = a) : s_I G (s_up σ a c) s H1 (locs ++ ks) := by
  obtain ⟨⟨h0, h1, h2, h3, h4, h5, h6⟩, hS, hB⟩ := I
  have out : ∀ q : Nat, q < H.size → ¬ s_A (s_B G) q → H1[q]? = H[q]? := fun q _ hq => oq q (fun e => hq (by rw [e]; exact ha))
  refine ⟨⟨h0, z.trans h1, h2, fun q c' hq => ?_, h4, h5.kept out, h6⟩, ⟨by rw [z]; exact hS.1, fun q g1 g2 => ?_, fun q hq => ?_⟩, hB⟩
  · show q < σ.2.1 ∧ _
    have hq' : (if q = a then some c else σ.1 q) = some c' := hq
    by_cases e : q = a
    · subst e
      rw [if_pos rfl] at hq'
      cases hq'
      exact ⟨by omega, hc⟩
    · rw [if_neg e] at hq'
      obtain ⟨g1, g2⟩ := h3 q c' hq'
      exact ⟨g1, g2.kept (oq q e) out⟩
  · rw [oq q (fun e => g2 (by rw [e]; exact ha))]
    exact hS.2.1 q g1 g2
  · rcases List.mem_append.mp hq with h | h
    · exact hS.2.2 q h
    · rw [hks q h]; exact ha
/-- a cell comes at the end -/
theorem s_I.add {G : sG} {σ σ' : sS} {s : State} {H H1 : Heap} {locs : List Loc} (I : s_I G σ s H locs) (z : H1.size = H.size + 1) (oq : ∀ q : Nat, q < H.size → H1[q]? = H[q]?) (hn : σ'.2.1 = σ.2.1 + 1) (hev : σ'.2.2.2 = σ.2.2.2)
    (hc : ∀ q c', σ'.1 q = some c' → (q = σ.2.1 ∧ s_cell G.2.1 G.2.2.1 (s_B G) s H1 q c') ∨ σ.1 q = some c') : s_I G σ' s H1 locs := by
  obtain ⟨⟨h0, h1, h2, h3, h4, h5, h6⟩, hS, hB⟩ := I
  have out : ∀ q : Nat, q < H.size → ¬ s_A (s_B G) q → H1[q]? = H[q]? := fun q g _ => oq q g
  refine ⟨⟨h0, by omega, by rw [hn]; omega, fun q c' hq => ?_, h4, by rw [hev]; exact h5.kept out, by rw [hev]; exact h6⟩, ⟨by rw [z]; exact Nat.le_trans hS.1 (by omega), fun q g1 g2 => ?_, hS.2.2⟩, hB⟩
  · rcases hc q c' hq with ⟨e, g⟩ | g
    · exact ⟨by omega, g⟩
    · obtain ⟨g1, g2⟩ := h3 q c' g
      exact ⟨by omega, g2.kept (oq q (by omega)) out⟩
  · rw [oq q (Nat.lt_of_lt_of_le g1 hS.1)]
    exact hS.2.1 q g1 g2
theorem s_P1 {D : va_G} {a : Nat} {x : va_E} {H : Heap} (h : va_at D s_cl (a, x) H) : va_P D s_cl [(a, x)] H := by
  intro k q hk
  cases k with
  | zero => cases hk; exact h
  | succ k => simp at hk
theorem s_outF {i : Int32} {n : Nat} (h : s_out i n = false) : vp_in i n := by
  unfold s_out at h
  intro q
  rcases q with q | q
  · simp [q] at h
  · simp [q] at h
/-- a field by its place in a class' constant pool: class number, place among the fields -/
def s_FL (own : String) (idx ci k : Nat) : Prop := ci < 100 ∧ ∃ (C : String) (T : u_T) (N : Nat), s_cl[ci]? = some (C, T, N) ∧ (∀ w ∈ u_ws C T N, w ∈ s_TB) ∧ k < N ∧ Cond.fieldLink own idx (T k).1 (T k).2.1 (T k).2.2.1 ∈ s_TB
/-- .. and its type, and whether it is final, for a store -/
def s_FP (own : String) (idx ci k : Nat) (ty : FieldType) (fin : Bool) : Prop := ci < 100 ∧ ∃ (C : String) (T : u_T) (N : Nat) (ty0 : Nat → FieldType), s_cl[ci]? = some (C, T, N) ∧ (∀ w ∈ u_ws C T N, w ∈ s_TB) ∧ k < N ∧ Cond.fieldLink own idx (T k).1 (T k).2.1 (T k).2.2.1 ∈ s_TB ∧
  (∀ k, k < N → parseFieldDescriptor (T k).2.2.1 = some (ty0 k)) ∧ (∀ a, a < N → ∀ b, b < N → a ≠ b → (T a).2.1 ≠ (T b).2.1) ∧ parseFieldDescriptor (T k).2.2.1 = some ty ∧ (T k).2.2.2 = fin ∧ (fin = true → (T k).1 = own)
theorem s_fv_to {σ : sS} {a ci k : Nat} {v : Value} (h : s_fv σ a ci k = some v) : ∃ fs, σ.1 a = some (.inr (ci, fs)) ∧ fs[k]? = some v := by
  unfold s_fv at h
  split at h
  next o ho =>
    split at h
    next e => exact ⟨o.2, by rw [ho, ← e], h⟩
    next => cases h
  next => cases h
theorem s_fi_to {σ : sS} {a ci k : Nat} {x : Int32} (h : s_fi σ a ci k = some x) : s_fv σ a ci k = some (.int x) := by
  unfold s_fi at h
  split at h
  next e => cases h; exact e
  next => cases h
theorem s_fl_to {σ : sS} {a ci k : Nat} {x : Int64} (h : s_fl σ a ci k = some x) : s_fv σ a ci k = some (.long x) := by
  unfold s_fl at h
  split at h
  next e => cases h; exact e
  next => cases h
theorem s_fr_to {σ : sS} {a ci k : Nat} {x : Nat} (h : s_fr σ a ci k = some x) : s_fv σ a ci k = some (.ref x) := by
  unfold s_fr at h
  split at h
  next e => cases h; exact e
  next => cases h
section SROW
variable {G : sG} {d : Nat} {M : sM} {vs0 : List Value} {σ0 σ : sS} {r : sR} {p : Program} {e : Env} {s : State} {m : MethodId} {below : List Frame} {meth : Method} {c : Code} {H : Heap} {locs : List Loc} {cells slots : Nat} {pc : Nat} {ls : Array Slot} {rest : List Value}
theorem r_getf (X : s_Cx M p s m vs0.toArray meth c) (I : s_I G σ s H locs) {idx ci k a : Nat} (hf : s_FL M.1.cls idx ci k) {v : Value} (hv : s_fv σ a ci k = some v) (hd : decode M.2.1 pc = .ok (.getfield idx, 3))
    (kk : s_W G d vs0 σ0 r p e s m below meth c H locs cells slots (F0 m (pc + 3) ls (v :: rest))) : s_W G d vs0 σ0 r p e s m below meth c H locs cells slots (F0 m pc ls (.ref a :: rest)) := by
  obtain ⟨hx, hb, -, -, -, hown, hts, -⟩ := X
  obtain ⟨hci, C, T, N, hc, hin, hk, hl⟩ := hf
  obtain ⟨fs, h1, h2⟩ := s_fv_to hv
  have hcell := s_cell_obj (I.1.2.2.2.1 a _ h1).2 hci
  exact va_get (D := G.2.1) (cl := s_cl) (tys := s_tys G.2.2.1) (ws := [(a, .inr (ci, fs))]) hx hb hts hin hown I.1.2.2.2.2.1 (s_P1 hcell.2) 0 rfl hc k hk (hts _ hl) (fun _ h => h) h2 hd kk
theorem r_gi (X : s_Cx M p s m vs0.toArray meth c) (I : s_I G σ s H locs) {idx ci k a : Nat} (hf : s_FL M.1.cls idx ci k) {v : Int32} (hv : s_fi σ a ci k = some v) (hd : decode M.2.1 pc = .ok (.getfield idx, 3))
    (kk : s_W G d vs0 σ0 r p e s m below meth c H locs cells slots (F0 m (pc + 3) ls (.int v :: rest))) : s_W G d vs0 σ0 r p e s m below meth c H locs cells slots (F0 m pc ls (.ref a :: rest)) := r_getf X I hf (s_fi_to hv) hd kk
theorem r_gl (X : s_Cx M p s m vs0.toArray meth c) (I : s_I G σ s H locs) {idx ci k a : Nat} (hf : s_FL M.1.cls idx ci k) {v : Int64} (hv : s_fl σ a ci k = some v) (hd : decode M.2.1 pc = .ok (.getfield idx, 3))
    (kk : s_W G d vs0 σ0 r p e s m below meth c H locs cells slots (F0 m (pc + 3) ls (.long v :: rest))) : s_W G d vs0 σ0 r p e s m below meth c H locs cells slots (F0 m pc ls (.ref a :: rest)) := r_getf X I hf (s_fl_to hv) hd kk
theorem r_gr (X : s_Cx M p s m vs0.toArray meth c) (I : s_I G σ s H locs) {idx ci k a : Nat} (hf : s_FL M.1.cls idx ci k) {v : Nat} (hv : s_fr σ a ci k = some v) (hd : decode M.2.1 pc = .ok (.getfield idx, 3))
    (kk : s_W G d vs0 σ0 r p e s m below meth c H locs cells slots (F0 m (pc + 3) ls (.ref v :: rest))) : s_W G d vs0 σ0 r p e s m below meth c H locs cells slots (F0 m pc ls (.ref a :: rest)) := r_getf X I hf (s_fr_to hv) hd kk
/-- a store into a field -/
theorem r_put (X : s_Cx M p s m vs0.toArray meth c) (I : s_I G σ s H locs) {idx ci k a : Nat} {ty : FieldType} {fin : Bool} (hf : s_FP M.1.cls idx ci k ty fin) (hi : fin = true → M.1.name = "<init>") {v : Value} {σ' : sS} (hv : s_pf σ a ci k v = some σ') (hn : narrow ty v = v) (hfit : fits ty v = true) (hdg : decode M.2.1 pc = .ok (.putfield idx, 3))
    (kk : ∀ (H1 : Heap) (locs1 : List Loc), s_I G σ' s H1 locs1 → s_W G d vs0 σ0 r p e s m below meth c H1 locs1 cells slots (F0 m (pc + 3) ls rest)) : s_W G d vs0 σ0 r p e s m below meth c H locs cells slots (F0 m pc ls (v :: .ref a :: rest)) := by
  obtain ⟨hx, hb, -, -, -, hown, hts, hnm0, -⟩ := X
  obtain ⟨hci, C, T, N, ty0, hc, hin, hk, hl, hty, hnm, hd, hfin, hdecl⟩ := hf
  unfold s_pf at hv
  split at hv
  next o ho =>
    split at hv
    next ho1 =>
      obtain ⟨ho1, ho2⟩ := ho1
      obtain ⟨oc, fs⟩ := o
      dsimp only at ho1 ho2 hv
      subst ho1
      cases hv
      have hcell := s_cell_obj (I.1.2.2.2.1 a _ ho).2 hci
      have hK := I.1.2.2.2.2.1
      have hap := va_apart (own := M.1.cls) hts hin ty0 hty hnm hK hc
      obtain ⟨rr, h1, cell, q1, q2, q3, q4⟩ := hcell.2
      have hr : rr = (C, T, N) := Option.some.inj (h1.symm.trans hc)
      subst hr
      obtain ⟨hS, hfc, kC, hkC, hkind⟩ := hK.1 oc _ hc
      obtain ⟨cf, kf, fi, f, hif, hsl⟩ := hS k hk
      have hlay := hts _ (hin _ (u_in_lay hk))
      have hst := (u_facts hfc hkC (u_lays hts hin hk) hif).1
      have hlt : a < H.size := (Array.getElem?_eq_some_iff.mp q1).1
      have fin9 : ∀ H' : Heap, H'[a]? = some (cell.setSlot f.slot v) → H'.size = H.size → (∀ q, q ≠ a → H'[q]? = H[q]?) → s_I G (s_up σ a (.inr (oc, fs.set k v))) s H' (locs ++ [⟨a, f.slot⟩]) := by
        intro H' e1 e2 e3
        refine I.put e2 e3 hcell.1 hlt (s_mk_obj hci hcell.1 ?_) _ (fun q hq => by rw [List.mem_singleton.mp hq])
        rw [hsl] at e1
        exact ⟨_, hc, t_OB.to (V := updV (vp_V fs) k v) ⟨_, e1, q2, q3, t_set q4 hap hk v⟩ (fun j _ => vp_updV_set ho2 v j)⟩
      cases fin with
      | false =>
        unfold u_lay at hlay
        rw [if_neg (by rw [hfin]; decide)] at hlay
        have h6 := u_store hfc hkC hkind hlay hif hd hn hfit
        exact W.putK hx hb (f := f) ⟨hown, hts _ hl, ⟨_, _, _, hif⟩, hst⟩ (by rw [q2]; exact h6) q1 q3 (by rw [hsl]; exact k2_hasslot (q4 k hk)) rfl rfl hdg fun H' e1 e2 e3 => kk H' _ (fin9 H' e1 e2 e3)
      | true =>
        unfold u_lay at hlay
        rw [if_pos hfin] at hlay
        have hcf : m.cls = cf := by
          obtain ⟨_, _, c', _, _, _, -, -, hf', -, -, -, hown2, -⟩ := Cond.laysFinal_spec hlay
          have e1 : c' = cf := by have := hif.symm.trans hf'; simp at this; exact this.1.symm
          rw [hdecl rfl] at hown2
          rw [← e1]; exact Option.some.inj (hown.symm.trans hown2)
        have h6 := u_fits hfc hkC hkind (Or.inr hlay) hif hd hn hfit
        exact W.putFinK hx hb hown (hts _ hl) hif hst hcf (hnm0.trans (hi rfl)) (by rw [q2]; exact h6) q1 q3 (by rw [hsl]; exact k2_hasslot (q4 k hk)) rfl rfl hdg fun H' e1 e2 e3 => kk H' _ (fin9 H' e1 e2 e3)
    next => cases hv
  next => cases hv
end SROW
