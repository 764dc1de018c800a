/-! methods with handlers -/
theorem s_ofVH {G : sG} {d : Nat} {M : sM} {vs : List Value} {σ : sS} {lay : Nat → List Nat} {r : sR} {hh : List (Nat × Nat × Nat × Nat)} (hM : M.2.2.2.2 = some hh) (hy : plainName M.1.cls = true) (hn : (lg_sl vs).length ≤ M.2.2.1) (hz : (lay 0).zip vs = lv_args 0 vs) (hl : vs.drop (lay 0).length = []) (hV : s_V G d M vs σ lay (0, vs, σ) r) : s_T G d M vs σ r := by
  have hhd : s_hd M = Cond.codeWith M.1 M.2.1 M.2.2.1 M.2.2.2.1 hh := by unfold s_hd; rw [hM]
  refine ⟨hV.1, vx_ofWH (cc := M.2.1) (maxL := M.2.2.1) (ret := M.2.2.2.1) (hh := hh) (ws' := s_TB) hy (by rw [hhd]) ?_⟩
  intro p e s m args below meth c s₁ B hml hv
  obtain ⟨rfl, hok⟩ := hv
  have hts := atoms_spec (ws := s_hd M :: s_TB) B.pre
  have htb : c.exceptionTable.toList = tableOf hh := vx_table (x := M.1) B (bytes := M.2.1) (maxL' := M.2.2.1) (ret' := M.2.2.2.1) (by have h9 := hts _ List.mem_cons_self; rw [hhd] at h9; exact h9)
  have hE := lv_entry vs (n := M.2.2.1) hn
  rw [lg_entry_eq]
  have h9 := hV.2 p e s m below meth c s.heap [] 0 0 _ ⟨B.exec, B.bytes, hml, B.returns, B.notSynchronized, findClass_of_methodNamed B.named, fun w hw => hts w (List.mem_cons_of_mem _ hw), (name_of_methodNamed B.named B.method).1, by rw [hM]; exact htb⟩ ⟨hok, va_S.rf, by rw [hok.2.1]; exact hok.2.2.1⟩ (by show 0 + σ.2.1 ≤ σ.2.1; omega) (by show 0 + σ.2.2.1 ≤ σ.2.2.1; omega) (by show lv_has _ _ ((lay 0).zip vs); rw [hz]; exact hE)
  dsimp only at h9
  rw [hl] at h9
  exact h9
def s_MX (Y : sM) (n : Nat) (hh : List (Nat × Nat × Nat × Nat)) : Prop := s_hd Y ∈ s_TB ∧ Cond.initialized Y.1.cls ∈ s_TB ∧ (Y.1.cls ≠ "java/lang/invoke/MethodHandle" ∧ Y.1.cls ≠ "java/lang/invoke/VarHandle" ∧ (parseMethodDescriptor Y.1.desc).map (fun d => d.parameters.length) = some n) ∧ Y.2.2.1 ≤ 41 ∧ Y.2.2.2.2 = some hh ∧ Cond.static Y.1 ∈ s_TB
section SHAND
variable {G : sG} {d : Nat} {M : sM} {vs0 : List Value} {σ0 σ : sS} {r : sR} {p : Program} {e : Env} {s : State} {m : MethodId} {below : List Frame} {meth : Method} {c : Code} {H : Heap} {locs : List Loc} {cells slots : Nat} {pc : Nat} {ls : Array Slot} {rest : List Value}
/-- a static callee with handlers, which returns -/
theorem r_callX (X : s_Cx M p s m vs0.toArray meth c) (I : s_I G σ s H locs) {idx n d' : Nat} {Y : sM} {hh : List (Nat × Nat × Nat × Nat)} {As : List Value} {r' : sR} {v : Option Value} (hL : Cond.methodLink M.1.cls idx Y.1 ∈ s_TB) (hY : s_MX Y n hh) (hd : d' + 1 ≤ d) (hT : s_T G d' Y As σ r') (hv : r'.1 = .inl v)
    (hn : As.length = n) (hls : ls.size = M.2.2.1) {stk : List Value} (hst : stk = As.reverse ++ rest) (hw : (rest.map fun v => v.category).sum ≤ 8) (hf : cells + σ0.2.1 ≤ σ.2.1 ∧ slots + σ0.2.2.1 ≤ σ.2.2.1) (hle : s_le r'.2 r.2) (hdg : decode M.2.1 pc = .ok (.invokestatic idx, 3))
    (kk : ∀ (H1 : Heap) (locs1 : List Loc) (cells1 slots1 : Nat), s_I G r'.2 s H1 locs1 → cells1 + σ0.2.1 ≤ r'.2.2.1 → slots1 + σ0.2.2.1 ≤ r'.2.2.2.1 → s_W G d vs0 σ0 r p e s m below meth c H1 locs1 cells1 slots1 (F0 m (pc + 3) ls (v.toList ++ rest))) :
    s_W G d vs0 σ0 r p e s m below meth c H locs cells slots (F0 m pc ls stk) := by
  obtain ⟨hle0, hM⟩ := hT
  obtain ⟨hY1, hY2, hY3, hY4, hY5, hY6⟩ := hY
  have hhd : s_hd Y = Cond.codeWith Y.1 Y.2.1 Y.2.2.1 Y.2.2.2.1 hh := by unfold s_hd; rw [hY5]
  have hts := X.2.2.2.2.2.2.1
  have g1 := hle0.1
  have g2 := hle0.2.1
  have g3 := hle.1
  have g4 := hle.2.1
  have hG : GoodIn s_TB (va_wsS M.1.cls idx Y.1 (s_hd Y :: s_TB)) := s_good (fun w hw => by
    unfold va_wsS at hw
    rcases List.mem_append.mp hw with h | h
    · simp only [List.mem_cons, List.not_mem_nil, or_false] at h
      rcases h with rfl | rfl | rfl
      · exact hL
      · exact hY6
      · exact hY2
    · exact s_all hY1 w h)
  have cw : vx_CSW (s_room d (r.2.2.1 - σ0.2.1) (r.2.2.2.1 - σ0.2.2.1)) s vs0.toArray M.1.cls idx Y.1 Y.2.1 Y.2.2.1 Y.2.2.2.1 hh (s_hd Y :: s_TB) (s_room d' (r'.2.2.1 - σ.2.1) (r'.2.2.2.1 - σ.2.2.1)) (r'.2.2.1 - σ.2.1) (r'.2.2.2.1 - σ.2.2.1) n :=
    vx_cwSW n hts hG (by rw [hhd]) rfl rfl hY3 ⟨by show d' + 10 + 1 ≤ d + 10; omega, by show 8 + (_ + 11) + (60 * d' + 400) ≤ 60 * d + 400; omega⟩
  refine s_run9 (Y := Y) (vs := As) (st := rest) I hle0 (vx_runSX (As := As) (rest := rest) (s_fix X) hM cw (s_pre I As) rfl hn hls hst (by show 2 * 0 + _ ≤ 8; omega) hdg ⟨by show _ ≤ r.2.2.1 - σ0.2.1; omega, by show _ ≤ r.2.2.2.1 - σ0.2.2.1; omega⟩) ?_ ?_
  · intro v' hv' H1 locs1 I1
    rw [hv] at hv'
    cases hv'
    exact kk H1 locs1 _ _ I1 (by omega) (by omega)
  · intro E hE
    rw [hv] at hE
    cases hE
/-- the rows of a table ahead of the one that takes E: they cover the place, and name classes that E isn't of -/
def s_pass (own E : String) (pc : Nat) (pre : List (Nat × Nat × Nat × Nat)) : Prop := ∀ q ∈ pre, covers ⟨q.1, q.2.1, q.2.2.1, q.2.2.2⟩ pc = true ∧ q.2.2.2 ≠ 0 ∧ ∃ nm : String, Cond.classLink own q.2.2.2 nm ∈ s_TB ∧ (E, nm) ∈ s_ncs
/-- the call threw E, and a row of this method's table takes it -/
theorem r_callVh (X : s_Cx M p s m vs0.toArray meth c) (I : s_I G σ s H locs) {idx ci n d' b : Nat} {Y : sM} {As : List Value} {r' : sR} {E name : String} {x : Nat × Nat × Nat × Nat} (pre suf : List (Nat × Nat × Nat × Nat)) (hM0 : M.2.2.2.2 = some (pre ++ x :: suf)) (hp : s_pass M.1.cls E pc pre) (hx1 : covers ⟨x.1, x.2.1, x.2.2.1, x.2.2.2⟩ pc = true) (hx2 : x.2.2.2 ≠ 0) (hx3 : Cond.classLink M.1.cls x.2.2.2 name ∈ s_TB) (hx4 : (E, name) ∈ s_casts)
    (hL : Cond.methodLink M.1.cls idx Y.1 ∈ s_TB) (hY : s_MV Y ci n) (hd : d' + 1 ≤ d) (hT : s_T G d' Y (.ref b :: As) σ r') (hb : ∃ fs, σ.1 b = some (.inr (ci, fs))) (hv : r'.1 = .inr E)
    (hn : As.length = n) (hls : ls.size = M.2.2.1) {stk : List Value} (hst : stk = As.reverse ++ .ref b :: rest) (hw : (rest.map fun v => v.category).sum ≤ 8) (hf : cells + σ0.2.1 ≤ σ.2.1 ∧ slots + σ0.2.2.1 ≤ σ.2.2.1) (hle : s_le r'.2 r.2) (hdg : decode M.2.1 pc = .ok (.invokevirtual idx, 3))
    (kk : ∀ (q : Nat) (H1 : Heap) (locs1 : List Loc) (cells1 slots1 : Nat), s_I G r'.2 s H1 locs1 → cells1 + σ0.2.1 ≤ r'.2.2.1 → slots1 + σ0.2.2.1 ≤ r'.2.2.2.1 → s_W G d vs0 σ0 r p e s m below meth c H1 locs1 cells1 slots1 (F0 m x.2.2.1 ls [.ref q])) :
    s_W G d vs0 σ0 r p e s m below meth c H locs cells slots (F0 m pc ls stk) := by
  obtain ⟨hle0, hM⟩ := hT
  obtain ⟨hYB, ⟨T9, N9, hc⟩, hin, hse, hci⟩ := hY
  obtain ⟨fs, hbs⟩ := hb
  have hcell := s_cell_obj (I.1.2.2.2.1 b _ hbs).2 hci
  have hrec := va_recv I.1.2.2.2.2.1 (s_P1 hcell.2) hc (q0 := 0) rfl
  have hts := X.2.2.2.2.2.2.1
  have g1 := hle0.1
  have g2 := hle0.2.1
  have g3 := hle.1
  have g4 := hle.2.1
  refine s_run9 (Y := Y) (vs := .ref b :: As) (st := rest) I hle0 (vx_runV (As := As) (rest := rest) (s_fix X) hM ⟨s_cb X hYB hL hd, hts _ hin, hts _ hse⟩ ⟨(s_pre I (.ref b :: As)).1, hrec, (s_pre I (.ref b :: As)).2⟩ rfl hn hls hst (by show 2 * 0 + _ ≤ 8; omega) hdg ⟨by show _ ≤ r.2.2.1 - σ0.2.1; omega, by show _ ≤ r.2.2.2.1 - σ0.2.2.1; omega⟩) ?_ ?_
  · intro v' hv'
    rw [hv] at hv'
    cases hv'
  · intro E' hE H1 locs1 q ce I1 hce hcv hcl
    rw [hv] at hE
    cases hE
    have htb := X.2.2.2.2.2.2.2.2
    rw [hM0] at htb
    have hsplit : c.exceptionTable.toList = tableOf pre ++ (⟨x.1, x.2.1, x.2.2.1, x.2.2.2⟩ : ExceptionTableEntry) :: tableOf suf := by
      rw [htb]; simp [tableOf]
    refine ve_catch (own := M.1.cls) (name := name) (E := E) X.2.2.2.2.2.1 (tableOf pre) ⟨x.1, x.2.1, x.2.2.1, x.2.2.2⟩ (tableOf suf) hsplit (fun z hz => ?_) hx1 hx2 (hts _ hx3) (I.1.2.2.2.2.2.2.2.1 _ hx4) hce hcv hcl (kk q H1 locs1 _ _ I1 (by omega) (by omega))
    unfold tableOf at hz
    obtain ⟨y, hy, rfl⟩ := List.mem_map.mp hz
    obtain ⟨w1, w2, nm, w3, w4⟩ := hp y hy
    exact ⟨w1, w2, nm, hts _ w3, I.1.2.2.2.2.2.2.2.2.1 _ w4⟩
end SHAND
