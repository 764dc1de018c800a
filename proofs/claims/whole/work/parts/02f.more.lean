/-! rows over the picture: static calls, constructors, ends, new cells, constants -/
section SMORE
variable {G : sG} {d : Nat} {M : sM} {vs0 : List Value} {σ0 σ : sS} {r : sR} {p : Program} {e : Env} {s : State} {m : MethodId} {below : List Frame} {meth : Method} {c : Code} {H : Heap} {locs : List Loc} {cells slots : Nat} {pc : Nat} {ls : Array Slot} {rest : List Value}
theorem r_callS (X : s_Cx M p s m vs0.toArray meth c) (I : s_I G σ s H locs) {idx n d' : Nat} {Y : sM} {As : List Value} {r' : sR} {v : Option Value} (hL : Cond.methodLink M.1.cls idx Y.1 ∈ s_TB) (hY : s_MS Y n) (hd : d' + 1 ≤ d) (hT : s_T G d' Y As σ r') (hv : r'.1 = .inl v)
    (hn : As.length = n) (hls : ls.size = M.2.2.1) {stk : List Value} (hst : stk = As.reverse ++ rest) (hw : (rest.map fun v => v.category).sum ≤ 8) (hf : cells + σ0.2.1 ≤ σ.2.1 ∧ slots + σ0.2.2.1 ≤ σ.2.2.1) (hle : s_le r'.2 r.2) (hdg : decode M.2.1 pc = .ok (.invokestatic idx, 3))
    (kk : ∀ (H1 : Heap) (locs1 : List Loc) (cells1 slots1 : Nat), s_I G r'.2 s H1 locs1 → cells1 + σ0.2.1 ≤ r'.2.2.1 → slots1 + σ0.2.2.1 ≤ r'.2.2.2.1 → s_W G d vs0 σ0 r p e s m below meth c H1 locs1 cells1 slots1 (F0 m (pc + 3) ls (v.toList ++ rest))) :
    s_W G d vs0 σ0 r p e s m below meth c H locs cells slots (F0 m pc ls stk) := by
  obtain ⟨hle0, hM⟩ := hT
  obtain ⟨hYB, hse⟩ := hY
  have g1 := hle0.1
  have g2 := hle0.2.1
  have g3 := hle.1
  have g4 := hle.2.1
  refine s_run9 (Y := Y) (vs := As) (st := rest) I hle0 (vx_runS (As := As) (rest := rest) (s_fix X) hM ⟨s_cb X hYB hL hd, X.2.2.2.2.2.2.1 _ hse⟩ (s_pre I As) rfl hn hls hst (by show 2 * 0 + _ ≤ 8; omega) hdg ⟨by show _ ≤ r.2.2.1 - σ0.2.1; omega, by show _ ≤ r.2.2.2.1 - σ0.2.2.1; omega⟩) ?_ ?_
  · intro v' hv' H1 locs1 I1
    rw [hv] at hv'
    cases hv'
    exact kk H1 locs1 _ _ I1 (by omega) (by omega)
  · intro E hE
    rw [hv] at hE
    cases hE
theorem s_met {Y : sM} {vs : List Value} {r' : sR} {d' : Nat} {v : Option Value} (hv : r'.1 = .inl v) (hT : s_T G d' Y vs σ r') : Met G.1 Y.1 (s_hd Y :: s_TB) (s_room d' (r'.2.2.1 - σ.2.1) (r'.2.2.2.1 - σ.2.2.1)) (va_Pc vs (fun U => s_ok G σ U)) (s_Qc G r') (r'.2.2.1 - σ.2.1) (r'.2.2.2.1 - σ.2.2.1) (s_A (s_B G)) := by
  intro p e h1 h2 h3 s m args below h4 h5 h6 h7
  obtain ⟨n, o, g1, g2, g3, g4⟩ := hT.2 p e h1 h2 h3 s m args below h4 h5 h6 h7
  refine ⟨n, o, g1, g2, g3, ?_⟩
  rcases g4 with g4 | ⟨q, -, E, ce, L, g5, -⟩
  · exact g4
  · unfold s_XC at g5
    rw [hv] at g5
    exact g5.elim
/-- a constructor that returns -/
theorem r_callI (X : s_Cx M p s m vs0.toArray meth c) (I : s_I G σ s H locs) {idx n d' b : Nat} {Y : sM} {As : List Value} {r' : sR} (hL : Cond.methodLink M.1.cls idx Y.1 ∈ s_TB) (hY : s_MI Y n) (hd : d' + 1 ≤ d) (hT : s_T G d' Y (.ref b :: As) σ r') (hv : r'.1 = .inl none)
    (hn : As.length = n) (hls : ls.size = M.2.2.1) {stk : List Value} (hst : stk = As.reverse ++ .ref b :: rest) (hw : (rest.map fun v => v.category).sum ≤ 8) (hf : cells + σ0.2.1 ≤ σ.2.1 ∧ slots + σ0.2.2.1 ≤ σ.2.2.1) (hle : s_le r'.2 r.2) (hdg : decode M.2.1 pc = .ok (.invokespecial idx, 3))
    (kk : ∀ (H1 : Heap) (locs1 : List Loc) (cells1 slots1 : Nat), s_I G r'.2 s H1 locs1 → cells1 + σ0.2.1 ≤ r'.2.2.1 → slots1 + σ0.2.2.1 ≤ r'.2.2.2.1 → s_W G d vs0 σ0 r p e s m below meth c H1 locs1 cells1 slots1 (F0 m (pc + 3) ls rest)) :
    s_W G d vs0 σ0 r p e s m below meth c H locs cells slots (F0 m pc ls stk) := by
  have hMt := s_met hv hT
  obtain ⟨hle0, -⟩ := hT
  obtain ⟨hYB, hin, hnm, hret⟩ := hY
  have g1 := hle0.1
  have g2 := hle0.2.1
  have g3 := hle.1
  have g4 := hle.2.1
  have cb := s_cb (d := d) (mc := r'.2.2.1 - σ.2.1) (ms := r'.2.2.2.1 - σ.2.2.1) (mc' := r.2.2.1 - σ0.2.1) (ms' := r.2.2.2.1 - σ0.2.2.1) X hYB hL hd
  rw [hret] at cb
  have hrun := va_runI (e := e) (below := below) (meth := meth) (locs := locs) (cells := cells) (slots := slots) (g := F0 m pc ls stk) (As := As) (rest := rest) (s_fix X) hMt ⟨cb, hnm, X.2.2.2.2.2.2.1 _ hin⟩ (s_pre I (.ref b :: As)) rfl hn hls hst (by show 2 * 0 + _ ≤ 8; omega) hdg ⟨by show _ ≤ r.2.2.1 - σ0.2.1; omega, by show _ ≤ r.2.2.2.1 - σ0.2.2.1; omega⟩
  intro T hT X0
  obtain ⟨v, st₀, t, T', L, h0, X', hL9, e1, e2, hq, st1⟩ := hrun T hT X0
  have hvm : s.vm.Alike t.vm := by rw [← e2]; exact X'.warmed.alike
  unfold s_Qc at hq
  rw [hv] at hq
  obtain ⟨w1, w2, w3⟩ := hq
  cases w1
  obtain ⟨t2, a1, b1⟩ := kk T'.heap (locs ++ L) _ _ (s_after (Y := Y) (As := As) I hle0.2.2 h0 e1 hvm hL9 w2 w3) (by omega) (by omega) T' rfl X'
  exact ⟨t2, st1 t2 a1, b1⟩
theorem r_iret (X : s_Cx M p s m vs0.toArray meth c) (I : s_I G σ s H locs) {ty : FieldType} {v : Int32} (hret : M.2.2.2.1 = some ty) (hn : narrow ty (.int v) = .int v) (hr : r = (.inl (some (.int v)), σ)) (hf : cells + σ0.2.1 ≤ σ.2.1 ∧ slots + σ0.2.2.1 ≤ σ.2.2.1) (hd : decode M.2.1 pc = .ok (.ireturn, 1)) :
    s_W G d vs0 σ0 r p e s m below meth c H locs cells slots (F0 m pc ls [.int v]) := by
  subst hr
  have hlocks := X.2.2.2.2.1
  exact vx_ret (W.widen (by dsimp only; omega) (by dsimp only; omega) (W.zret X.1 X.2.1 (X.2.2.2.1.trans hret) hn (fun t ht hW => ⟨rfl, s_fin I t ht hW⟩) I.2.1.2.2 hd))
theorem r_lret (X : s_Cx M p s m vs0.toArray meth c) (I : s_I G σ s H locs) {v : Int64} (hret : M.2.2.2.1 = some .long) (hr : r = (.inl (some (.long v)), σ)) (hf : cells + σ0.2.1 ≤ σ.2.1 ∧ slots + σ0.2.2.1 ≤ σ.2.2.1) (hd : decode M.2.1 pc = .ok (.lreturn, 1)) :
    s_W G d vs0 σ0 r p e s m below meth c H locs cells slots (F0 m pc ls [.long v]) := by
  subst hr
  have hlocks := X.2.2.2.2.1
  exact vx_ret (W.widen (by dsimp only; omega) (by dsimp only; omega) (W.lret X.1 X.2.1 (X.2.2.2.1.trans hret) (fun t ht hW => ⟨rfl, s_fin I t ht hW⟩) I.2.1.2.2 hd))
theorem r_vret (X : s_Cx M p s m vs0.toArray meth c) (I : s_I G σ s H locs) (hret : M.2.2.2.1 = none) (hr : r = (.inl none, σ)) (hf : cells + σ0.2.1 ≤ σ.2.1 ∧ slots + σ0.2.2.1 ≤ σ.2.2.1) (hd : decode M.2.1 pc = .ok (.return_, 1)) :
    s_W G d vs0 σ0 r p e s m below meth c H locs cells slots (F0 m pc ls []) := by
  subst hr
  have hlocks := X.2.2.2.2.1
  exact vx_ret (W.widen (by dsimp only; omega) (by dsimp only; omega) (W.vret X.1 X.2.1 (X.2.2.2.1.trans hret) (fun t ht hW => ⟨rfl, s_fin I t ht hW⟩) I.2.1.2.2 hd))
theorem r_aret (X : s_Cx M p s m vs0.toArray meth c) (I : s_I G σ s H locs) {rt : FieldType} {a : Nat} (hret : M.2.2.2.1 = some rt) (hrt : (∃ n, rt = .object n) ∨ ∃ t, rt = .array t) (hr : r = (.inl (some (.ref a)), σ)) (hf : cells + σ0.2.1 ≤ σ.2.1 ∧ slots + σ0.2.2.1 ≤ σ.2.2.1) (hd : decode M.2.1 pc = .ok (.areturn, 1)) :
    s_W G d vs0 σ0 r p e s m below meth c H locs cells slots (F0 m pc ls [.ref a]) := by
  subst hr
  have hlocks := X.2.2.2.2.1
  exact vx_ret (W.widen (by dsimp only; omega) (by dsimp only; omega) (W.aret X.1 X.2.1 (X.2.2.2.1.trans hret) hrt (Or.inr ⟨a, rfl⟩) (fun t ht hW => ⟨rfl, s_fin I t ht hW⟩) I.2.1.2.2 hd))
/-- a new object: its class by the constant pool -/
def s_NW (own : String) (idx ci N : Nat) (fs : List Value) : Prop := ci < 100 ∧ ∃ (C : String) (T : u_T) (ty : Nat → FieldType), s_cl[ci]? = some (C, T, N) ∧ (∀ w ∈ u_ws C T N, w ∈ s_TB) ∧ (∀ k, k < N → parseFieldDescriptor (T k).2.2.1 = some (ty k)) ∧ Cond.classLink own idx C ∈ s_TB ∧ Cond.instantiable C N ∈ s_TB ∧ Cond.initialized C ∈ s_TB ∧ ∀ j, j < N → defaultValue (ty j) = vp_V fs j
theorem r_new (X : s_Cx M p s m vs0.toArray meth c) (I : s_I G σ s H locs) {idx ci N : Nat} {fs : List Value} (hN : s_NW M.1.cls idx ci N fs) (hf : cells + σ0.2.1 ≤ σ.2.1 ∧ slots + σ0.2.2.1 ≤ σ.2.2.1) (hle : s_le (s_nw σ ci N fs) r.2) (hdg : decode M.2.1 pc = .ok (.new idx, 3))
    (kk : ∀ (H1 : Heap), s_I G (s_nw σ ci N fs) s H1 locs → s_W G d vs0 σ0 r p e s m below meth c H1 locs (cells + 1) (slots + N) (F0 m (pc + 3) ls (.ref σ.2.1 :: rest))) :
    s_W G d vs0 σ0 r p e s m below meth c H locs cells slots (F0 m pc ls rest) := by
  obtain ⟨hx, hb, -, -, -, hown, hts, -⟩ := X
  obtain ⟨hci, C, T, ty, hc, hin, hty, h1, h2, h3, hfs⟩ := hN
  have hKn := I.1.2.2.2.2.1.1 ci _ hc
  have g1 : σ.2.1 + 1 ≤ r.2.2.1 := hle.1
  have g2 : σ.2.2.1 + N ≤ r.2.2.2.1 := hle.2.1
  refine W.newcK hx hb hown (hts _ h1) (hts _ h2) (hts _ h3) rfl hdg (by show _ ≤ r.2.2.1 - σ0.2.1; omega) (by show _ ≤ r.2.2.2.1 - σ0.2.2.1; omega) hKn.2.1 I.1.2.1 fun H1 kC hkC e1 z1 o1 => ?_
  refine kk H1 (I.add (by rw [z1, I.1.2.1]) (by rw [I.1.2.1]; exact o1) rfl rfl (fun q c' hq => ?_))
  have hq' : (if q = σ.2.1 then some (Sum.inr (ci, fs)) else σ.1 q) = some c' := hq
  by_cases e9 : q = σ.2.1
  · rw [if_pos e9] at hq'
    cases hq'
    subst e9
    exact Or.inl ⟨rfl, s_mk_obj hci I.1.2.2.1 ⟨_, hc, (u_born ty hts hin hKn hkC e1 hty).to hfs⟩⟩
  · rw [if_neg e9] at hq'
    exact Or.inr hq'
def s_at (t : Nat) (atype : ArrayType) (ty : FieldType) : Prop := newarray.typeOf atype = ty ∧ Cond.arrayClass ty ∈ s_TB ∧ componentBytes ty ≤ 8 ∧ ((t = 0 ∧ ty = .int) ∨ (t = 1 ∧ ty = .long) ∨ (t = 2 ∧ ty = .byte) ∨ (t = 3 ∧ ty = .boolean))
theorem r_newa (X : s_Cx M p s m vs0.toArray meth c) (I : s_I G σ s H locs) {t : Nat} {atype : ArrayType} {ty : FieldType} (ha : s_at t atype ty) {n : Int32} {σ' : sS} (hv : s_na σ t n = some σ') (hf : cells + σ0.2.1 ≤ σ.2.1 ∧ slots + σ0.2.2.1 ≤ σ.2.2.1) (hle : s_le σ' r.2) (hdg : decode M.2.1 pc = .ok (.newarray atype, 2))
    (kk : ∀ (H1 : Heap), s_I G σ' s H1 locs → s_W G d vs0 σ0 r p e s m below meth c H1 locs (cells + 1) (slots + n.toNatClampNeg) (F0 m (pc + 2) ls (.ref σ.2.1 :: rest))) :
    s_W G d vs0 σ0 r p e s m below meth c H locs cells slots (F0 m pc ls (.int n :: rest)) := by
  obtain ⟨hx, hb, -, -, -, hown, hts, -⟩ := X
  obtain ⟨rfl, h2, h3, h4⟩ := ha
  unfold s_na at hv
  split at hv
  next => cases hv
  next hn =>
    cases hv
    have g1 : σ.2.1 + 1 ≤ r.2.2.1 := hle.1
    have g2 : σ.2.2.1 + n.toNatClampNeg ≤ r.2.2.2.1 := hle.2.1
    have hn1 : ¬ n < 0 := fun z => hn (Or.inl z)
    have hn2 : n.toNatClampNeg ≤ 1000000 := Nat.not_lt.mp fun z => hn (Or.inr z)
    have hby : n.toNatClampNeg * componentBytes (newarray.typeOf atype) ≤ 536870912 := Nat.le_trans (Nat.mul_le_mul hn2 h3) (by decide)
    refine va_newaK hx hb (hts _ h2) rfl hdg rfl hn1 rfl hby (by show _ ≤ r.2.2.1 - σ0.2.1; omega) (by show _ ≤ r.2.2.2.1 - σ0.2.2.1; omega) I.1.2.1 fun H1 cA e1 z1 o1 hAr hNm => ?_
    refine kk H1 (I.add (by rw [z1, I.1.2.1]) (by rw [I.1.2.1]; exact o1) rfl rfl (fun q c' hq => ?_))
    have hq' : (if q = σ.2.1 then some (Sum.inl (t, n.toNatClampNeg, if t = 1 then .inr (.inl (fun _ => 0)) else .inl (fun _ => 0))) else σ.1 q) = some c' := hq
    by_cases e9 : q = σ.2.1
    · rw [if_pos e9] at hq'
      cases hq'
      subst e9
      refine Or.inl ⟨rfl, ?_⟩
      have hK := I.1.2.2.2.2.1.2
      rcases h4 with ⟨rfl, ht⟩ | ⟨rfl, ht⟩ | ⟨rfl, ht⟩ | ⟨rfl, ht⟩
      · rw [ht] at e1 hNm
        cases Option.some.inj (hNm.symm.trans (hK 0 _ rfl).2)
        exact ⟨I.1.2.2.1, e1⟩
      · rw [ht] at e1 hNm
        cases Option.some.inj (hNm.symm.trans (hK 1 _ rfl).2)
        exact ⟨I.1.2.2.1, e1⟩
      · rw [ht] at e1 hNm
        cases Option.some.inj (hNm.symm.trans (hK 2 _ rfl).2)
        exact ⟨I.1.2.2.1, e1⟩
      · rw [ht] at e1 hNm
        cases Option.some.inj (hNm.symm.trans (hK 3 _ rfl).2)
        exact ⟨I.1.2.2.1, e1⟩
    · rw [if_neg e9] at hq'
      exact Or.inr hq'
end SMORE
