/-! rows over the picture: arrays, new cells, ends -/
theorem s_ai_to {σ : sS} {a : Nat} {i x : Int32} (h : s_ai σ a i = some x) : ∃ t n f, σ.1 a = some (.inl (t, n, .inl f)) ∧ (t = 0 ∨ t = 4) ∧ vp_in i n ∧ x = f i.toNatClampNeg := by
  unfold s_ai at h
  split at h
  next t n f ho =>
    split at h
    next e => cases h; exact ⟨t, n, f, ho, e.1, s_outF e.2, rfl⟩
    next => cases h
  next => cases h
theorem s_ab_to {σ : sS} {a : Nat} {i x : Int32} (h : s_ab σ a i = some x) : ∃ t n f, σ.1 a = some (.inl (t, n, .inl f)) ∧ (t = 2 ∨ t = 3 ∨ t = 6) ∧ vp_in i n ∧ x = f i.toNatClampNeg := by
  unfold s_ab at h
  split at h
  next t n f ho =>
    split at h
    next e => cases h; exact ⟨t, n, f, ho, e.1, s_outF e.2, rfl⟩
    next => cases h
  next => cases h
theorem s_al_to {σ : sS} {a : Nat} {i : Int32} {x : Int64} (h : s_al σ a i = some x) : ∃ t n f, σ.1 a = some (.inl (t, n, .inr (.inl f))) ∧ (t = 1 ∨ t = 5) ∧ vp_in i n ∧ x = f i.toNatClampNeg := by
  unfold s_al at h
  split at h
  next t n f ho =>
    split at h
    next e => cases h; exact ⟨t, n, f, ho, e.1, s_outF e.2, rfl⟩
    next => cases h
  next => cases h
section SARR
variable {G : sG} {d : Nat} {M : sM} {vs0 : List Value} {σ0 σ : sS} {r : sR} {p : Program} {e : Env} {s : State} {m : MethodId} {below : List Frame} {meth : Method} {c : Code} {H : Heap} {locs : List Loc} {cells slots : Nat} {pc : Nat} {ls : Array Slot} {rest : List Value}
theorem r_iald (X : s_Cx M p s m vs0.toArray meth c) (I : s_I G σ s H locs) {a : Nat} {i x : Int32} (hv : s_ai σ a i = some x) (hd : decode M.2.1 pc = .ok (.iaload, 1))
    (kk : s_W G d vs0 σ0 r p e s m below meth c H locs cells slots (F0 m (pc + 1) ls (.int x :: rest))) : s_W G d vs0 σ0 r p e s m below meth c H locs cells slots (F0 m pc ls (.int i :: .ref a :: rest)) := by
  obtain ⟨hx, hb, -⟩ := X
  obtain ⟨t, n, f, h1, h2, h3, rfl⟩ := s_ai_to hv
  have hcell := (I.1.2.2.2.1 a _ h1).2
  rcases h2 with rfl | rfl
  · exact va_iald (D := G.2.1) (cl := s_cl) (tys := s_tys G.2.2.1) (ws := [(a, .inl (G.2.2.1 0, n, .inl f))]) hx hb I.1.2.2.2.2.1 (s_P1 hcell.2) 0 0 rfl rfl h3 hd kk
  · obtain ⟨cell, q1, q2, q3, q4, q5, q6, q7⟩ := (show va_T .int a n (fun j => .int (f j)) (s_A (s_B G)) s H from hcell)
    have hlt : i.toNatClampNeg < n := Nat.not_le.mp fun q => h3 (Or.inr q)
    exact W.iald hx hb q1 q2 q3 (fun z => h3 (z.imp id (fun z => Nat.le_trans q4 z))) (q6 _ hlt) rfl rfl hd kk
theorem r_bald (X : s_Cx M p s m vs0.toArray meth c) (I : s_I G σ s H locs) {a : Nat} {i x : Int32} (hv : s_ab σ a i = some x) (hd : decode M.2.1 pc = .ok (.baload, 1))
    (kk : s_W G d vs0 σ0 r p e s m below meth c H locs cells slots (F0 m (pc + 1) ls (.int x :: rest))) : s_W G d vs0 σ0 r p e s m below meth c H locs cells slots (F0 m pc ls (.int i :: .ref a :: rest)) := by
  obtain ⟨hx, hb, -⟩ := X
  obtain ⟨t, n, f, h1, h2, h3, rfl⟩ := s_ab_to hv
  have hcell := (I.1.2.2.2.1 a _ h1).2
  rcases h2 with rfl | rfl | rfl
  · exact va_bald (D := G.2.1) (cl := s_cl) (tys := s_tys G.2.2.1) (ws := [(a, .inl (G.2.2.1 2, n, .inl f))]) hx hb I.1.2.2.2.2.1 (s_P1 hcell.2) 0 2 rfl rfl h3 hd kk
  · exact va_zald (D := G.2.1) (cl := s_cl) (tys := s_tys G.2.2.1) (ws := [(a, .inl (G.2.2.1 3, n, .inl f))]) hx hb I.1.2.2.2.2.1 (s_P1 hcell.2) 0 3 rfl rfl h3 hd kk
  · obtain ⟨cell, q1, q2, q3, q4, q5, q6, q7⟩ := (show va_T .byte a n (fun j => .int (f j)) (s_A (s_B G)) s H from hcell)
    have hlt : i.toNatClampNeg < n := Nat.not_le.mp fun q => h3 (Or.inr q)
    exact W.bald hx hb q1 q2 q3 (fun z => h3 (z.imp id (fun z => Nat.le_trans q4 z))) (q6 _ hlt) rfl rfl hd kk
theorem r_lald (X : s_Cx M p s m vs0.toArray meth c) (I : s_I G σ s H locs) {a : Nat} {i : Int32} {x : Int64} (hv : s_al σ a i = some x) (hd : decode M.2.1 pc = .ok (.laload, 1))
    (kk : s_W G d vs0 σ0 r p e s m below meth c H locs cells slots (F0 m (pc + 1) ls (.long x :: rest))) : s_W G d vs0 σ0 r p e s m below meth c H locs cells slots (F0 m pc ls (.int i :: .ref a :: rest)) := by
  obtain ⟨hx, hb, -⟩ := X
  obtain ⟨t, n, f, h1, h2, h3, rfl⟩ := s_al_to hv
  have hcell := (I.1.2.2.2.1 a _ h1).2
  rcases h2 with rfl | rfl
  · exact va_lald (D := G.2.1) (cl := s_cl) (tys := s_tys G.2.2.1) (ws := [(a, .inl (G.2.2.1 1, n, .inr (.inl f)))]) hx hb I.1.2.2.2.2.1 (s_P1 hcell.2) 0 1 rfl rfl h3 hd kk
  · obtain ⟨cell, q1, q2, q3, q4, q5, q6, q7⟩ := (show va_T .long a n (fun j => .long (f j)) (s_A (s_B G)) s H from hcell)
    have hlt : i.toNatClampNeg < n := Nat.not_le.mp fun q => h3 (Or.inr q)
    exact W.lald hx hb q1 q2 q3 (fun z => h3 (z.imp id (fun z => Nat.le_trans q4 z))) (q6 _ hlt) rfl rfl hd kk
theorem r_alen (X : s_Cx M p s m vs0.toArray meth c) (I : s_I G σ s H locs) {a : Nat} {x : Int32} (hv : s_len σ a = some x) (hd : decode M.2.1 pc = .ok (.arraylength, 1))
    (kk : s_W G d vs0 σ0 r p e s m below meth c H locs cells slots (F0 m (pc + 1) ls (.int x :: rest))) : s_W G d vs0 σ0 r p e s m below meth c H locs cells slots (F0 m pc ls (.ref a :: rest)) := by
  obtain ⟨hx, hb, -⟩ := X
  unfold s_len at hv
  split at hv
  next t y ho =>
    split at hv
    next ht =>
      cases hv
      have hcell := (I.1.2.2.2.1 a _ ho).2
      have hK := I.1.2.2.2.2.1
      have key : ∀ (ty : FieldType) (n : Nat) (f : Nat → Value), va_T ty a n f (s_A (s_B G)) s H → y.1 = n → s_W G d vs0 σ0 r p e s m below meth c H locs cells slots (F0 m pc ls (.ref a :: rest)) := by
        intro ty n f hT hn
        obtain ⟨cell, q1, q2, q3, q4, q5, q6, q7⟩ := hT
        exact W.alen hx hb q1 q2 (by rw [q5, ← hn]) rfl rfl hd kk
      have t7 : t = 0 ∨ t = 1 ∨ t = 2 ∨ t = 3 ∨ t = 4 ∨ t = 5 ∨ t = 6 := by omega
      rcases t7 with rfl | rfl | rfl | rfl | rfl | rfl | rfl
      · exact va_alen (D := G.2.1) (cl := s_cl) (tys := s_tys G.2.2.1) (ws := [(a, .inl (G.2.2.1 0, y))]) hx hb hK (s_P1 hcell.2) 0 0 rfl rfl rfl hd kk
      · exact va_alen (D := G.2.1) (cl := s_cl) (tys := s_tys G.2.2.1) (ws := [(a, .inl (G.2.2.1 1, y))]) hx hb hK (s_P1 hcell.2) 0 1 rfl rfl rfl hd kk
      · exact va_alen (D := G.2.1) (cl := s_cl) (tys := s_tys G.2.2.1) (ws := [(a, .inl (G.2.2.1 2, y))]) hx hb hK (s_P1 hcell.2) 0 2 rfl rfl rfl hd kk
      · exact va_alen (D := G.2.1) (cl := s_cl) (tys := s_tys G.2.2.1) (ws := [(a, .inl (G.2.2.1 3, y))]) hx hb hK (s_P1 hcell.2) 0 3 rfl rfl rfl hd kk
      · obtain ⟨n, z⟩ := y
        rcases z with f | f | f | f | f
        · exact key _ n _ hcell rfl
        all_goals exact hcell.elim
      · obtain ⟨n, z⟩ := y
        rcases z with f | f | f | f | f
        · exact hcell.elim
        · exact key _ n _ hcell rfl
        all_goals exact hcell.elim
      · obtain ⟨n, z⟩ := y
        rcases z with f | f | f | f | f
        · exact key _ n _ hcell rfl
        all_goals exact hcell.elim
    next => cases hv
  next => cases hv
theorem r_iast (X : s_Cx M p s m vs0.toArray meth c) (I : s_I G σ s H locs) {a : Nat} {i x : Int32} {σ' : sS} (hv : s_si σ a i x = some σ') (hd : decode M.2.1 pc = .ok (.iastore, 1))
    (kk : ∀ (H1 : Heap) (locs1 : List Loc), s_I G σ' s H1 locs1 → s_W G d vs0 σ0 r p e s m below meth c H1 locs1 cells slots (F0 m (pc + 1) ls rest)) : s_W G d vs0 σ0 r p e s m below meth c H locs cells slots (F0 m pc ls (.int x :: .int i :: .ref a :: rest)) := by
  obtain ⟨hx, hb, -⟩ := X
  unfold s_si at hv
  split at hv
  next t n f ho =>
    split at hv
    next ht =>
      obtain ⟨rfl, hin⟩ := ht
      cases hv
      have hcell := (I.1.2.2.2.1 a _ ho).2
      have hat : H[a]? = some (vp_cell (G.2.2.1 0) (n, .inl f)) := hcell.2
      refine W.iast hx hb hat ((I.1.2.2.2.2.1.2 0 _ rfl).1 n (fun j => .int (f j))) (fun q => by cases q) (by show ¬ (i < 0 ∨ (arrV _ _ _).slots.size ≤ _); rw [arrV_size]; exact s_outF hin) rfl rfl hd fun H1 e1 z oq => kk H1 _ (I.put (c := .inl (0, n, .inl (upd f i.toNatClampNeg x))) z oq hcell.1 (Array.getElem?_eq_some_iff.mp hat).1 ⟨hcell.1, ?_⟩ _ (fun q hq => by rw [List.mem_singleton.mp hq]))
      show H1[a]? = some (vp_cell _ _)
      rw [e1, vp_cell_i, vp_cell_i, arrV_store]
      congr 2
      funext q
      by_cases hq : q = i.toNatClampNeg
      · subst hq
        simp [updV, upd]
      · simp [updV, upd, hq]
    next => cases hv
  next => cases hv
theorem r_bast (X : s_Cx M p s m vs0.toArray meth c) (I : s_I G σ s H locs) {a : Nat} {i x : Int32} {σ' : sS} (hv : s_sb σ a i x = some σ') (hd : decode M.2.1 pc = .ok (.bastore, 1))
    (kk : ∀ (H1 : Heap) (locs1 : List Loc), s_I G σ' s H1 locs1 → s_W G d vs0 σ0 r p e s m below meth c H1 locs1 cells slots (F0 m (pc + 1) ls rest)) : s_W G d vs0 σ0 r p e s m below meth c H locs cells slots (F0 m pc ls (.int x :: .int i :: .ref a :: rest)) := by
  obtain ⟨hx, hb, -⟩ := X
  unfold s_sb at hv
  split at hv
  next t n f ho =>
    split at hv
    next hin =>
      have hcell := (I.1.2.2.2.1 a _ ho).2
      split at hv
      next ht =>
        subst ht
        cases hv
        have hat : H[a]? = some (vp_cell (G.2.2.1 2) (n, .inl f)) := hcell.2
        refine W.bast hx hb hat ((I.1.2.2.2.2.1.2 2 _ rfl).1 n (fun j => .int (f j))) (fun q => by cases q) (by show ¬ (i < 0 ∨ (arrV _ _ _).slots.size ≤ _); rw [arrV_size]; exact s_outF hin) rfl rfl hd fun H1 e1 z oq => kk H1 _ (I.put (c := .inl (2, n, .inl (upd f i.toNatClampNeg (vp_nar .byte x)))) z oq hcell.1 (Array.getElem?_eq_some_iff.mp hat).1 ⟨hcell.1, ?_⟩ _ (fun q hq => by rw [List.mem_singleton.mp hq]))
        show H1[a]? = some (vp_cell _ _)
        rw [e1, vp_cell_i, vp_cell_i, arrV_store]
        congr 2
        funext q
        by_cases hq : q = i.toNatClampNeg
        · subst hq
          simp [updV, upd, vp_nar]
          try rfl
        · simp [updV, upd, hq]
      next =>
        split at hv
        next ht =>
          subst ht
          cases hv
          have hat : H[a]? = some (vp_cell (G.2.2.1 3) (n, .inl f)) := hcell.2
          refine W.zast hx hb hat ((I.1.2.2.2.2.1.2 3 _ rfl).1 n (fun j => .int (f j))) (fun q => by cases q) (by show ¬ (i < 0 ∨ (arrV _ _ _).slots.size ≤ _); rw [arrV_size]; exact s_outF hin) rfl rfl hd fun H1 e1 z oq => kk H1 _ (I.put (c := .inl (3, n, .inl (upd f i.toNatClampNeg (vp_nar .boolean x)))) z oq hcell.1 (Array.getElem?_eq_some_iff.mp hat).1 ⟨hcell.1, ?_⟩ _ (fun q hq => by rw [List.mem_singleton.mp hq]))
          show H1[a]? = some (vp_cell _ _)
          rw [e1, vp_cell_i, vp_cell_i, arrV_store]
          congr 2
          funext q
          by_cases hq : q = i.toNatClampNeg
          · subst hq
            simp [updV, upd, vp_nar]
            try rfl
          · simp [updV, upd, hq]
        next => cases hv
    next => cases hv
  next => cases hv
theorem r_last (X : s_Cx M p s m vs0.toArray meth c) (I : s_I G σ s H locs) {a : Nat} {i : Int32} {x : Int64} {σ' : sS} (hv : s_sl σ a i x = some σ') (hd : decode M.2.1 pc = .ok (.lastore, 1))
    (kk : ∀ (H1 : Heap) (locs1 : List Loc), s_I G σ' s H1 locs1 → s_W G d vs0 σ0 r p e s m below meth c H1 locs1 cells slots (F0 m (pc + 1) ls rest)) : s_W G d vs0 σ0 r p e s m below meth c H locs cells slots (F0 m pc ls (.long x :: .int i :: .ref a :: rest)) := by
  obtain ⟨hx, hb, -⟩ := X
  unfold s_sl at hv
  split at hv
  next t n f ho =>
    split at hv
    next ht =>
      obtain ⟨rfl, hin⟩ := ht
      cases hv
      have hcell := (I.1.2.2.2.1 a _ ho).2
      have hat : H[a]? = some (vp_cell (G.2.2.1 1) (n, .inr (.inl f))) := hcell.2
      refine W.last hx hb hat ((I.1.2.2.2.2.1.2 1 _ rfl).1 n (fun j => .long (f j))) (fun q => by cases q) (by show ¬ (i < 0 ∨ (arrV _ _ _).slots.size ≤ _); rw [arrV_size]; exact s_outF hin) rfl rfl hd fun H1 e1 z oq => kk H1 _ (I.put (c := .inl (1, n, .inr (.inl (vp_updL f i.toNatClampNeg x)))) z oq hcell.1 (Array.getElem?_eq_some_iff.mp hat).1 ⟨hcell.1, ?_⟩ _ (fun q hq => by rw [List.mem_singleton.mp hq]))
      show H1[a]? = some (vp_cell _ _)
      rw [e1, vp_cell_l, vp_cell_l, arrV_store]
      congr 2
      funext q
      by_cases hq : q = i.toNatClampNeg
      · subst hq
        simp [updV, vp_updL]
      · simp [updV, vp_updL, hq]
    next => cases hv
  next => cases hv
end SARR
