/-! the claim: out of the law's contract (the heads and lw_P, lw_Q, lw_pre_spec, lw_frame, lw_limb, i_vc began as the skeleton's text) -/
def lw_P (b : Addr) (xs : List Int32) (args : Array Value) (s : State) : Prop := args = #[.ref b] ∧ s.IntsAt b xs ∧ xs.length ≤ 3584 ∧ (Jvm.Cond.and given_1 narrow_1).before args s = true
def lw_Q (_ : Array Value) (s : State) (o : Outcome) (t : State) : Prop := o = .returned (some (.int 1)) ∧ Framed s o t [] 601024 7293034
/-- atoms one by one -/
theorem at_all {args : Array Value} {s : State} : ∀ ws : List Cond, (∀ w ∈ ws, w.before args s = true) → (allAtoms ws).before args s = true := by
  intro ws
  induction ws with
  | nil => intro _; rfl
  | cons w r ih =>
    intro h
    have e : (allAtoms (w :: r)).before args s = (w.before args s && (allAtoms r).before args s) := Cond.before_and w (allAtoms r)
    rw [e, h w List.mem_cons_self, ih (fun z hz => h z (List.mem_cons_of_mem _ hz))]
    rfl
/-- a smaller room -/
theorem room_s {s : State} {pl : Platform} {mc ms : Nat} (hc : mc ≤ 601024) (hs : ms ≤ 7293034) (h : s.hasRoom pl room_1 = true) : s.hasRoom pl (s_room (0 + 139) mc ms) = true := by
  have q1 : (s_room (0 + 139) mc ms).locals = 8740 := rfl
  have q2 : (s_room (0 + 139) mc ms).frames = 149 := rfl
  have q3 : (s_room (0 + 139) mc ms).cells = mc := rfl
  have q4 : (s_room (0 + 139) mc ms).slots = ms := rfl
  have r1 : room_1.locals = 84000 := rfl
  have r2 : room_1.frames = 2048 := rfl
  have r3 : room_1.cells = 601024 := rfl
  have r4 : room_1.slots = 7293034 := rfl
  unfold State.hasRoom at h ⊢
  rw [q1, q2, q3, q4]
  rw [r1, r2, r3, r4] at h
  simp only [Bool.and_eq_true, decide_eq_true_eq] at h ⊢
  obtain ⟨⟨⟨⟨y1, y2, y3, y4, y5, y6⟩, y7⟩, y8⟩, y9⟩ := h
  exact ⟨⟨⟨⟨by omega, by omega, by omega, by omega, by omega, y6⟩, by omega⟩, by omega⟩, y9⟩
theorem lw_walk (l : Launch) (hst : l.stackTraces = false) (b : Addr) (xs : List Int32) : MetFree l x (headSpec (Jvm.Cond.code x code maxLocals ret :: tables_1) room_1) (fun args s => lw_P b xs args s ∧ heapFits s = true) (fun _ _ _ _ _ => True) lw_Q := by
  intro p e ha hc hk s m args below hf happ hP _
  obtain ⟨⟨rfl, hx, hbd, hgv⟩, hfit⟩ := hP
  obtain ⟨a1, a2, a3, a4, a5, a6, a7, a8⟩ := (Spec.appliesLoose_iff hf).mp happ
  have hts0 : ∀ c ∈ (Jvm.Cond.code x code maxLocals ret :: tables_1), c.before #[Value.ref b] s = true := atoms_spec (ws := Jvm.Cond.code x code maxLocals ret :: tables_1) a8
  have hts : ∀ w ∈ lw_tbl, w.before #[Value.ref b] s = true := k2_hts_sels lw_privs (fun w hw => hts0 w (List.mem_cons_of_mem _ hw)) lw_privs_ok
  have hE : Ent s b := ⟨hts, flat_of_before _ hgv, hfit⟩
  obtain ⟨scr, harrAt, hlist, hof, hsmall⟩ := hx
  obtain ⟨hcb, hkn, -, -⟩ := State.arrayAt?_spec harrAt
  have hsz : scr.slots.size = xs.length := by rw [← Array.length_toList, hlist, List.length_map]
  have hval : ∀ j : Nat, j < xs.length → scr.slots[j]? = some (.int (xs.getD j 0)) := fun j hj => by
    rw [← Array.getElem?_toList, hlist]
    simp [hj]
  have hX : va_X b xs.length (fun j => xs.getD j 0) s s.heap := ⟨scr, hcb, hof, hkn, hsz, hval⟩
  obtain ⟨g, hS⟩ := e_KScr hX hbd
  obtain ⟨τ, r1, r2, r3⟩ := e_run hE hS
  obtain ⟨D, cA, hok⟩ := e_ok (l := l) hE hst
  have hT := t_law (G := (l, D, cA, s.heap.size)) (d := 0) r1
  have hw : ∀ w ∈ s_hd M_L_law :: s_TB, w.before #[Value.ref b] s = true := by
    intro w hw
    rcases List.mem_cons.mp hw with rfl | hw
    · exact hts0 _ List.mem_cons_self
    · exact hts w (List.mem_filter.mp hw).1
  have hmc : (e_I (1, τ)).2.2.1 - (ls (PEs s) (fun _ => none) [] 0).2.1 ≤ 601024 := by
    show τ.2.1 - (s.heap.size + 0) ≤ 601024
    omega
  have hms : (e_I (1, τ)).2.2.2.1 - (ls (PEs s) (fun _ => none) [] 0).2.2.1 ≤ 7293034 := by
    show τ.2.2.1 - 0 ≤ 7293034
    omega
  obtain ⟨n, o, k1, k2, k3, k4⟩ := hT.2 p e ha hc hk s m #[Value.ref b] below hf ((Spec.appliesLoose_iff hf).mpr ⟨a1, a2, a3, a4, a5, a6, room_s hmc hms a7, at_all _ hw⟩) ⟨rfl, hok⟩ trivial
  refine ⟨n, o, k1, k2, k3, ?_⟩
  rcases k4 with ⟨⟨e1, -, -⟩, L, ⟨-, f2, b1, b2, b3, b4, b5, b6⟩, hL⟩ | ⟨q, -, E, ce, L, hX9, -⟩
  · refine ⟨e1, ⟨_, e1⟩, f2, b1, b2, Nat.le_trans b3 (Nat.add_le_add_left hmc _), b4, Nat.le_trans b5 hms, fun a c hac => ?_⟩
    obtain ⟨c', d1, d2, d3, d4⟩ := b6 a c hac
    exact ⟨c', d1, d2, d3, fun i _ => d4 i (fun hm => absurd (Array.getElem?_eq_some_iff.mp hac).1 (Nat.not_lt.mpr (hL _ hm)))⟩
  · exact hX9.elim
theorem lw_pre_spec {args : Array Value} {s : State} (h : (Jvm.Cond.and given_1 narrow_1).before args s = true) (hr : rest_1_c.before args s = true) : ∃ (b : Addr) (xs : List Int32), lw_P b xs args s := by
  have hs := flat_of_before _ h
  have hq := flat_of_before _ hr
  have hc : (Cond.count 1).before args s = true := hs _ (by decide +kernel)
  have harr : (Cond.arrayOf (.arg 0) .int).before args s = true := hs _ (by decide +kernel)
  have hle : (Cond.le (.length (.arg 0)) (.int 3584)).before args s = true := hs _ (by decide +kernel)
  have hlen : (Cond.isInt (.length (.arg 0))).before args s = true := hq _ (by decide +kernel)
  have hall : (Cond.all (.arg 0) (.isInt (.elem (.arg 0) (.index 0)))).before args s = true := hq _ (by decide +kernel)
  obtain ⟨b, xs, hb, hx⟩ := State.ints_of_pre rfl harr hlen hall
  have hsm : xs.length < 2 ^ 31 := hx.choose_spec.2.2.2
  have hev : (Term.length (.arg 0)).eval args s none [] s = some (.int xs.length.toInt32) := hx.length_eval hb
  have hv := Cond.le_ints hev (show (Term.int 3584).eval args s none [] s = some (.int 3584) from rfl)
  have hd : xs.length.toInt32 ≤ 3584 := by
    simpa [Cond.before, Cond.holds, hv] using hle
  have hN : xs.length ≤ 3584 := (Int32.ofNat_le_ofNat hsm (by decide)).mp (show Int32.ofNat xs.length ≤ Int32.ofNat 3584 from hd)
  exact ⟨b, xs, Cond.one_arg hc (show args[0]? = some (.ref b) from hb), hx, hN, h⟩
theorem lw_comes (l : Launch) (hst : l.stackTraces = false) : Comes l x (Jvm.Cond.code x code maxLocals ret :: tables_1) room_1 (fun tb e args s => Calls_1 tb e args s ∧ rest_1 tb e args s ∧ Pre_1 tb e args s)
    (fun _ _ args s o t => lw_Q args s o t) := by
  intro p e ha hc hk s m args below hf hfit hheap happ hpre
  obtain ⟨b, xs, hP⟩ := lw_pre_spec hpre.2.2 hpre.2.1
  obtain ⟨k, o, h1, h2, h3, hQ⟩ := lw_walk l hst b xs p e ha hc hk s m args below hf ((Spec.applies_iff_loose hf).mp happ).1 ⟨hP, hheap⟩ trivial
  exact ⟨k, o, h1, h2, h3, hQ⟩
theorem lw_frame {s t : State} {o : Outcome} {args : Array Value} (h : Framed s o t [] 601024 7293034) :
    Framed s o t (fieldLocs frame_1_writes args s ++ arrayLocs frame_1_arrays args s ++ staticLocs frame_1_statics s) 601024 7293034 := h
theorem lw_limb (L : Cond) (hL : ∀ (args : Array Value) (s t : State), L.after args s (.returned (some (.int 1))) t = true) :
    ArmFor flags0 classFile x code maxLocals ret World_1 tables_1 room_1 Calls_1 rest_1 Pre_1
      (fun tb e a s o t => postC L tb e a s o t ∧ Framed s o t (fieldLocs frame_1_writes a s ++ arrayLocs frame_1_arrays a s ++ staticLocs frame_1_statics s) 601024 7293034) := by
  intro l hfl _ _ p e ha hc hk s m args below hf hfit hheap happ hpre
  have hst : l.stackTraces = false := by
    unfold Launch.stackTraces
    rw [hfl]
    decide +kernel
  obtain ⟨k, o, h1, h2, h3, rfl, hF⟩ := lw_comes l hst p e ha hc hk s m args below hf hfit hheap happ hpre
  exact ⟨k, _, h1, h2, h3, hL args s _, lw_frame hF⟩
theorem i_vc : Claimed_1_1 ∧ Claimed_1_2 := ⟨lw_limb limb_1_1 (fun args s t => by simp [limb_1_1, Cond.after, Cond.holds, Cond.value]), lw_limb limb_1_2 (fun args s t => Cond.after_iff.mpr (by
  first | (rw [show limb_1_2 = Cond.eq .result (.int 1) from rfl, Cond.eq_ints (x := 1) (y := 1) rfl rfl]; simp; done) | (simp [limb_1_2, Cond.value, Term.eval]; done)))⟩
