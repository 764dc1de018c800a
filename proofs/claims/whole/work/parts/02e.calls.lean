/-! rows over the picture: the entry, calls, ends, new cells -/
def s_is (σ : sS) (b ci : Nat) : Option Unit := match σ.1 b with
  | some (.inr o) => if o.1 = ci then some () else none
  | _ => none
theorem s_is_to {σ : sS} {b ci : Nat} {u : Unit} (h : s_is σ b ci = some u) : ∃ fs, σ.1 b = some (.inr (ci, fs)) := by
  unfold s_is at h
  split at h
  next o ho =>
    split at h
    next e => exact ⟨o.2, by rw [ho, ← e]⟩
    next => cases h
  next => cases h
theorem s_blind (G : sG) (vs : List Value) (σ : sS) : FrameBlind (va_Pc vs (fun U => s_ok G σ U)) := by
  intro a U g mk h
  exact ⟨h.1, s_okH.warm (s := U) (U := U.calling g mk a) (State.WarmedH.refl U) h.2⟩
/-- a method's contract out of its first label -/
theorem s_ofV {G : sG} {d : Nat} {M : sM} {vs : List Value} {σ : sS} {lay : Nat → List Nat} {r : sR} (hM : M.2.2.2.2 = none) (hy : plainName M.1.cls = true) (hn : (lg_sl vs).length ≤ M.2.2.1) (hz : (lay 0).zip vs = lv_args 0 vs) (hl : vs.drop (lay 0).length = []) (hV : s_V G d M vs σ lay (0, vs, σ) r) : s_T G d M vs σ r := by
  refine ⟨hV.1, vx_ofW (cc := M.2.1) (maxL := M.2.2.1) (ret := M.2.2.2.1) (ws' := s_TB) hy ?_ ?_⟩
  · unfold s_hd; rw [hM]
  · intro p e s m args below meth c s₁ B hml ht hv
    obtain ⟨rfl, hok⟩ := hv
    have hts := atoms_spec (ws := s_hd M :: s_TB) B.pre
    have hE := lv_entry vs (n := M.2.2.1) hn
    rw [lg_entry_eq]
    have h9 := hV.2 p e s m below meth c s.heap [] 0 0 _ ⟨B.exec, B.bytes, hml, B.returns, B.notSynchronized, findClass_of_methodNamed B.named, fun w hw => hts w (List.mem_cons_of_mem _ hw), (name_of_methodNamed B.named B.method).1, by rw [hM]; exact ht⟩ ⟨hok, va_S.rf, by rw [hok.2.1]; exact hok.2.2.1⟩ (by show 0 + σ.2.1 ≤ σ.2.1; omega) (by show 0 + σ.2.2.1 ≤ σ.2.2.1; omega) (by show lv_has _ _ ((lay 0).zip vs); rw [hz]; exact hE)
    dsimp only at h9
    rw [hl] at h9
    exact h9
/-- a callee: its words, where its class stands in the list, how many arguments -/
def s_MB (Y : sM) (n : Nat) : Prop := s_hd Y ∈ s_TB ∧ Cond.initialized Y.1.cls ∈ s_TB ∧ (Y.1.cls ≠ "java/lang/invoke/MethodHandle" ∧ Y.1.cls ≠ "java/lang/invoke/VarHandle" ∧ (parseMethodDescriptor Y.1.desc).map (fun d => d.parameters.length) = some n) ∧ Y.2.2.1 ≤ 41 ∧ Y.2.2.2.2 = none
def s_MV (Y : sM) (ci n : Nat) : Prop := s_MB Y n ∧ (∃ (T : u_T) (N : Nat), s_cl[ci]? = some (Y.1.cls, T, N)) ∧ Cond.instanceMethod Y.1 ∈ s_TB ∧ Cond.selects Y.1.cls Y.1 Y.1 ∈ s_TB ∧ ci < 100
/-- a method of String, called on a constant -/
def s_MVs (Y : sM) (n : Nat) : Prop := s_MB Y n ∧ Cond.instanceMethod Y.1 ∈ s_TB ∧ Cond.selects Y.1.cls Y.1 Y.1 ∈ s_TB ∧ Y.1.cls = s_str
def s_MI (Y : sM) (n : Nat) : Prop := s_MB Y n ∧ Cond.instanceMethod Y.1 ∈ s_TB ∧ Y.1.name = "<init>" ∧ Y.2.2.2.1 = none
def s_MS (Y : sM) (n : Nat) : Prop := s_MB Y n ∧ Cond.static Y.1 ∈ s_TB
theorem s_good {ws : List Cond} (h : ∀ w ∈ ws, w ∈ s_TB) : GoodIn s_TB ws := fun w hw => ⟨h w hw, s_TB_good (h w hw)⟩
theorem s_all {hd : Cond} (h : hd ∈ s_TB) : ∀ w ∈ hd :: s_TB, w ∈ s_TB := fun w hw => (List.mem_cons.mp hw).elim (fun z => by rw [z]; exact h) id
/-- a throw that no row of the method's table covers leaves it -/
theorem ve_out {p : Program} {l : Launch} {e : Env} {R : Room} {s : State} {m : MethodId} {args : Array Value} {below : List Frame} {meth : Method} {c : Code} {H : Heap} {locs : List Loc} {cells slots : Nat} {ls : Array Slot} {rest : List Value} {free : Addr → Prop} {Qc : Array Value → State → Outcome → State → Prop} {XC : String → State → State → Prop} {pc : Nat} {E : String} {ce : Cell} {q : Addr} {mc ms : Nat} (hout : ∀ x ∈ c.exceptionTable.toList, covers x pc = false) (hlocks : meth.locks = false) (hcell : H[q]? = some ce) (hv : ce.vm = .none) (hcl : s.vm.findClass E = some ce.cls)
    (hx : ∀ t : State, t.heap = H → s.WarmedH t.vm → XC E s t) (hf : ∀ z ∈ locs, free z.base) (hc : cells ≤ mc) (hs : slots ≤ ms) :
    vx_W p l e R s m args below meth c H locs cells slots (vx_MQ below Qc XC args s mc ms free) (F0 m pc ls rest) q := by
  intro T hT X
  obtain ⟨st1, hrun, hend, hW, hsm⟩ := X.leaveThrown q (g := F0 m pc ls rest) rfl rfl rfl hout hlocks
  exact ⟨_, st1, .threw q, hrun, hend, Or.inr ⟨q, rfl, E, ce, locs, hx _ hT hW, by show T.heap[q]? = some ce; rw [hT]; exact hcell, hv, hcl, hW, hsm.mono hc hs, hf⟩⟩
theorem s_fin {G : sG} {σ : sS} {s : State} {H : Heap} {locs : List Loc} (I : s_I G σ s H locs) (t : State) (ht : t.heap = H) (hW : s.WarmedH t.vm) : s_ok G σ t ∧ va_F (s_A (s_B G)) s t :=
  ⟨by show s_okH G σ t t.heap; rw [ht]; exact I.1.warm hW, I.2.1.F ht⟩
section SCALL
variable {G : sG} {d : Nat} {M : sM} {vs0 : List Value} {σ0 σ : sS} {r : sR} {p : Program} {e : Env} {s : State} {m : MethodId} {below : List Frame} {meth : Method} {c : Code} {H : Heap} {locs : List Loc} {cells slots : Nat} {pc : Nat} {ls : Array Slot} {rest : List Value}
theorem s_pre (I : s_I G σ s H locs) (vs : List Value) : FrameBlind (va_Pc vs (fun U => s_ok G σ U)) ∧ ∀ U : State, U.heap = H → s.WarmedH U.vm → va_Pc vs (fun U => s_ok G σ U) vs.toArray U :=
  ⟨s_blind G vs σ, fun U hU hW => ⟨rfl, by show s_okH G σ U U.heap; rw [hU]; exact I.1.warm hW⟩⟩
theorem s_cb (X : s_Cx M p s m vs0.toArray meth c) {Y : sM} {n idx d' mc ms mc' ms' : Nat} (hY : s_MB Y n) (hL : Cond.methodLink M.1.cls idx Y.1 ∈ s_TB) (hd : d' + 1 ≤ d) : CallB (s_room d mc' ms') s vs0.toArray M.1.cls idx Y.1 Y.2.1 Y.2.2.1 Y.2.2.2.1 (s_hd Y :: s_TB) (s_room d' mc ms) mc ms n := by
  obtain ⟨-, -, -, -, -, hown, hts, -⟩ := X
  obtain ⟨h1, h2, h3, h4, h5⟩ := hY
  exact callB_of n hts (s_good (s_all h1)) (by unfold s_hd; rw [h5]) rfl rfl (hts _ h2) (hts _ hL) h3 ⟨by show d' + 10 + 1 ≤ d + 10; omega, by show 8 + (_ + 11) + (60 * d' + 400) ≤ 60 * d + 400; omega⟩
theorem s_fix (X : s_Cx M p s m vs0.toArray meth c) : CallFix p m c M.2.1 M.2.2.1 s vs0.toArray s_TB M.1.cls := ⟨X.1, X.2.1, X.2.2.1, X.2.2.2.2.2.1, X.2.2.2.2.2.2.1⟩
/-- behind a call that ran: it returned, or it threw -/
theorem s_after (I : s_I G σ s H locs) {Y : sM} {As : List Value} {r' : sR} {st₀ t T' : State} {L : List Loc} (hev : r'.2.2.2.2 = σ.2.2.2) (h0 : st₀.heap = H) (e1 : T'.heap = t.heap) (hvm : s.vm.Alike t.vm) (hL : ∀ q ∈ L, s_A (s_B G) q.base) (hok : s_ok G r'.2 t) (hF : va_F (s_A (s_B G)) st₀ t) : s_I G r'.2 s T'.heap (locs ++ L) := by
  obtain ⟨k1, k2, k3⟩ := vx_keep h0 e1 I.2.1 (fun _ _ h => h) (fun _ h => h) hL hF
  refine ⟨?_, k3, I.2.2⟩
  have h9 := s_okH.back hvm hev I.1 hok
  rw [e1]
  exact h9
theorem s_run9 {Y : sM} {rest st : List Value} {vs : List Value} {r' : sR} (I : s_I G σ s H locs) (hle : s_le σ r'.2) (hr : vx_Run p G.1 e (s_room d (r.2.2.1 - σ0.2.1) (r.2.2.2.1 - σ0.2.2.1)) s m vs0.toArray below meth c H locs cells slots (r'.2.2.1 - σ.2.1) (r'.2.2.2.1 - σ.2.2.1) (F0 m pc ls (rest)) st (fun st₀ oc t => s_Qc G r' vs.toArray st₀ oc t) (s_XC G r') (s_A (s_B G)))
    (kk : (∀ v, r'.1 = .inl v → ∀ (H1 : Heap) (locs1 : List Loc), s_I G r'.2 s H1 locs1 → s_W G d vs0 σ0 r p e s m below meth c H1 locs1 (cells + (r'.2.2.1 - σ.2.1)) (slots + (r'.2.2.2.1 - σ.2.2.1)) (F0 m (pc + 3) ls (v.toList ++ st))))
    (kx : (∀ E, r'.1 = .inr E → ∀ (H1 : Heap) (locs1 : List Loc) (q : Addr) (ce : Cell), s_I G r'.2 s H1 locs1 → H1[q]? = some ce → ce.vm = .none → s.vm.findClass E = some ce.cls → vx_W p G.1 e (s_room d (r.2.2.1 - σ0.2.1) (r.2.2.2.1 - σ0.2.2.1)) s m vs0.toArray below meth c H1 locs1 (cells + (r'.2.2.1 - σ.2.1)) (slots + (r'.2.2.2.1 - σ.2.2.1)) (vx_MQ below (s_Qc G r) (s_XC G r) vs0.toArray s (r.2.2.1 - σ0.2.1) (r.2.2.2.1 - σ0.2.2.1) (s_A (s_B G))) (F0 m pc ls st) q)) :
    s_W G d vs0 σ0 r p e s m below meth c H locs cells slots (F0 m pc ls (rest)) := by
  intro T hT X0
  rcases hr T hT X0 with ⟨v, st₀, t, T', L, h0, X', hL, e1, e2, hq, st1⟩ | ⟨q, st₀, t, T', L, E, ce, h0, X', hL, e1, e2, hq, hce, hcv, hcl, st1⟩
  · have hvm : s.vm.Alike t.vm := by rw [← e2]; exact X'.warmed.alike
    unfold s_Qc at hq
    split at hq
    next v' hv' =>
      obtain ⟨g1, g2, g3⟩ := hq
      cases g1
      obtain ⟨t2, a1, b1⟩ := kk _ hv' T'.heap (locs ++ L) (s_after (Y := Y) (As := vs) I hle.2.2 h0 e1 hvm hL g2 g3) T' rfl X'
      exact ⟨t2, st1 t2 a1, b1⟩
    next => exact hq.elim
  · have hvm : s.vm.Alike t.vm := by rw [← e2]; exact X'.warmed.alike
    unfold s_XC at hq
    split at hq
    next => exact hq.elim
    next E' hE' =>
      obtain ⟨g1, g2, g3⟩ := hq
      subst g1
      obtain ⟨t2, a1, b1⟩ := kx _ hE' T'.heap (locs ++ L) q ce (s_after (Y := Y) (As := vs) I hle.2.2 h0 e1 hvm hL g2 g3) (by rw [e1]; exact hce) hcv hcl T' rfl X'
      exact ⟨t2, st1.trans a1, b1⟩
/-- the call came back with v -/
theorem r_callV (X : s_Cx M p s m vs0.toArray meth c) (I : s_I G σ s H locs) {idx ci n d' b : Nat} {Y : sM} {As : List Value} {r' : sR} {v : Option Value} (hL : Cond.methodLink M.1.cls idx Y.1 ∈ s_TB) (hY : s_MV Y ci n) (hd : d' + 1 ≤ d) (hT : s_T G d' Y (.ref b :: As) σ r') (hb : ∃ fs, σ.1 b = some (.inr (ci, fs))) (hv : r'.1 = .inl v)
    (hn : As.length = n) (hls : ls.size = M.2.2.1) {stk : List Value} (hst : stk = As.reverse ++ .ref b :: rest) (hw : (rest.map fun v => v.category).sum ≤ 8) (hf : cells + σ0.2.1 ≤ σ.2.1 ∧ slots + σ0.2.2.1 ≤ σ.2.2.1) (hle : s_le r'.2 r.2) (hdg : decode M.2.1 pc = .ok (.invokevirtual idx, 3))
    (kk : ∀ (H1 : Heap) (locs1 : List Loc) (cells1 slots1 : Nat), s_I G r'.2 s H1 locs1 → cells1 + σ0.2.1 ≤ r'.2.2.1 → slots1 + σ0.2.2.1 ≤ r'.2.2.2.1 → s_W G d vs0 σ0 r p e s m below meth c H1 locs1 cells1 slots1 (F0 m (pc + 3) ls (v.toList ++ rest))) :
    s_W G d vs0 σ0 r p e s m below meth c H locs cells slots (F0 m pc ls stk) := by
  obtain ⟨hle0, hM⟩ := hT
  obtain ⟨hYB, ⟨T9, N9, hc⟩, hin, hse, hci⟩ := hY
  obtain ⟨fs, hbs⟩ := hb
  have hcell := s_cell_obj (I.1.2.2.2.1 b _ hbs).2 hci
  have hrec := va_recv I.1.2.2.2.2.1 (s_P1 hcell.2) hc (q0 := 0) rfl
  have g1 := hle0.1
  have g2 := hle0.2.1
  have g3 := hle.1
  have g4 := hle.2.1
  refine s_run9 (Y := Y) (vs := .ref b :: As) (st := rest) I hle0 (vx_runV (As := As) (rest := rest) (s_fix X) hM ⟨s_cb X hYB hL hd, X.2.2.2.2.2.2.1 _ hin, X.2.2.2.2.2.2.1 _ hse⟩ ⟨(s_pre I (.ref b :: As)).1, hrec, (s_pre I (.ref b :: As)).2⟩ rfl hn hls hst (by show 2 * 0 + _ ≤ 8; omega) hdg ⟨by show _ ≤ r.2.2.1 - σ0.2.1; omega, by show _ ≤ r.2.2.2.1 - σ0.2.2.1; omega⟩) ?_ ?_
  · intro v' hv' H1 locs1 I1
    rw [hv] at hv'
    cases hv'
    exact kk H1 locs1 _ _ I1 (by omega) (by omega)
  · intro E hE
    rw [hv] at hE
    cases hE
/-- the call threw, and this method has no handlers: it throws on -/
theorem r_callVx (X : s_Cx M p s m vs0.toArray meth c) (I : s_I G σ s H locs) {idx ci n d' b : Nat} {Y : sM} {As : List Value} {r' : sR} {E : String} (hM0 : M.2.2.2.2 = none) (hL : Cond.methodLink M.1.cls idx Y.1 ∈ s_TB) (hY : s_MV Y ci n) (hd : d' + 1 ≤ d) (hT : s_T G d' Y (.ref b :: As) σ r') (hb : ∃ fs, σ.1 b = some (.inr (ci, fs))) (hv : r'.1 = .inr E)
    (hn : As.length = n) (hls : ls.size = M.2.2.1) {stk : List Value} (hst : stk = As.reverse ++ .ref b :: rest) (hw : (rest.map fun v => v.category).sum ≤ 8) (hf : cells + σ0.2.1 ≤ σ.2.1 ∧ slots + σ0.2.2.1 ≤ σ.2.2.1) (hr : r = (.inr E, r'.2)) (hdg : decode M.2.1 pc = .ok (.invokevirtual idx, 3)) :
    s_W G d vs0 σ0 r p e s m below meth c H locs cells slots (F0 m pc ls stk) := by
  obtain ⟨hle0, hM⟩ := hT
  obtain ⟨hYB, ⟨T9, N9, hc⟩, hin, hse, hci⟩ := hY
  obtain ⟨fs, hbs⟩ := hb
  have hcell := s_cell_obj (I.1.2.2.2.1 b _ hbs).2 hci
  have hrec := va_recv I.1.2.2.2.2.1 (s_P1 hcell.2) hc (q0 := 0) rfl
  have g1 := hle0.1
  have g2 := hle0.2.1
  subst hr
  dsimp only at *
  refine s_run9 (Y := Y) (vs := .ref b :: As) (st := rest) I hle0 (vx_runV (As := As) (rest := rest) (s_fix X) hM ⟨s_cb X hYB hL hd, X.2.2.2.2.2.2.1 _ hin, X.2.2.2.2.2.2.1 _ hse⟩ ⟨(s_pre I (.ref b :: As)).1, hrec, (s_pre I (.ref b :: As)).2⟩ rfl hn hls hst (by show 2 * 0 + _ ≤ 8; omega) hdg ⟨by show _ ≤ r'.2.2.1 - σ0.2.1; omega, by show _ ≤ r'.2.2.2.1 - σ0.2.2.1; omega⟩) ?_ ?_
  · intro v' hv'
    rw [hv] at hv'
    cases hv'
  · intro E' hE H1 locs1 q ce I1 hce hcv hcl
    rw [hv] at hE
    cases hE
    refine ve_out (fun x hx => ?_) X.2.2.2.2.1 hce hcv hcl (fun t ht hW => ⟨rfl, s_fin I1 t ht hW⟩) I1.2.1.2.2 (by dsimp only; omega) (by dsimp only; omega)
    have h9 := X.2.2.2.2.2.2.2.2
    rw [hM0] at h9
    exact (h9 x hx).elim
end SCALL
