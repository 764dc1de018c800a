/-! NoSuchElementException: its constructor finds the superclass's at another place of its pool (13, not 7), so the printed throw row doesn't speak of it; these rows do (they go by the library's own laws of Throwable's constructors) -/
def vn_N : String := "java/util/NoSuchElementException"
def vn_R : String := "java/lang/RuntimeException"
def vn_E : String := "java/lang/Exception"
def vn_c : ByteArray := prog_33_method_4_code
def vn_last (own : String) (ic : Nat) : List Cond :=
  [.methodLink own ic (Bundle.initS vn_N), .instantiable vn_N 6, .castable vn_N vn_N, .selects vn_N Bundle.tFill0 Bundle.tFill0, .selects vn_N Bundle.tFill Bundle.tFill,
   .lays vn_N Bundle.tN "cause" "Ljava/lang/Throwable;", .lays vn_N Bundle.tN "stackTrace" Bundle.steD, .lays vn_N Bundle.tN "suppressedExceptions" Bundle.listD, .lays vn_N Bundle.tN "detailMessage" "Ljava/lang/String;", .lays vn_N Bundle.tN "backtrace" "Ljava/lang/Object;",
   .isRef (.static Bundle.tN "UNASSIGNED_STACK" Bundle.steD), .isRef (.static Bundle.tN "SUPPRESSED_SENTINEL" Bundle.listD), .fieldLink Bundle.tN 198 Bundle.tN "backtrace" "Ljava/lang/Object;", .lays Bundle.tN Bundle.tN "backtrace" "Ljava/lang/Object;"]
def vn_own (own : String) (ic : Nat) : List Cond := Bundle.throwableAtoms ++ (Bundle.throwableSAtoms ++ (Bundle.passSAtoms vn_N vn_R 13 vn_c ++ (Bundle.chainSAtoms vn_R [vn_E] ++ vn_last own ic)))
def vn_at (own : String) (ic : Nat) : List Cond := (vn_own own ic).filter vx_no
theorem vn_1 {own : String} {ic : Nat} {w : Cond} (h : w ∈ Bundle.throwableAtoms) : w ∈ vn_own own ic := List.mem_append_left _ h
theorem vn_2 {own : String} {ic : Nat} {w : Cond} (h : w ∈ Bundle.throwableSAtoms) : w ∈ vn_own own ic := List.mem_append_right _ (List.mem_append_left _ h)
theorem vn_3 {own : String} {ic : Nat} {w : Cond} (h : w ∈ Bundle.passSAtoms vn_N vn_R 13 vn_c) : w ∈ vn_own own ic := List.mem_append_right _ (List.mem_append_right _ (List.mem_append_left _ h))
theorem vn_4 {own : String} {ic : Nat} {w : Cond} (h : w ∈ Bundle.chainSAtoms vn_R [vn_E]) : w ∈ vn_own own ic := List.mem_append_right _ (List.mem_append_right _ (List.mem_append_right _ (List.mem_append_left _ h)))
theorem vn_5 {own : String} {ic : Nat} {w : Cond} (k : Nat) (h : (vn_last own ic)[k]? = some w) : w ∈ vn_own own ic := List.mem_append_right _ (List.mem_append_right _ (List.mem_append_right _ (List.mem_append_right _ (List.mem_of_getElem? h))))
section VN
variable {p : Program} {l : Launch} {e : Env} {R : Room} {s : State} {m : MethodId} {args : Array Value} {below : List Frame} {meth : Method} {c : Code} {cells slots : Nat}
set_option maxHeartbeats 2000000 in
theorem vn_ctor {V : State} (X : Stand p l e R s m args below meth c V [] cells slots) (hexec : p.tables.exec = Jvm.exec) (htr : e.platform.stackTraces = false) {own : String} {ic : Nat}
    (hown : s.vm.findClass own = some m.cls) (h : ∀ w ∈ vn_own own ic, w.before args s = true)
    {a : Addr} {cX : ClassId} {kX : Class} (hfX : s.vm.findClass vn_N = some cX) (hkX : s.vm.classes[cX]? = some kX) (hcell : V.heap[a]? = some (freshCell cX kX)) (hnew : s.heap.size ≤ a)
    {msg : Value} (hmsg : msg.isRef = true) {g : JFrame} (hg : g.method = m) (hsize : g.locals.size = c.maxLocals) (hlocked : g.locked = none) (hentered : g.entered = []) {rest : List Value} (hstack : g.stack = msg :: .ref a :: .ref a :: rest)
    (hd6 : decode c.code g.pc = .ok (.invokespecial ic, 3)) (hd9 : decode c.code (g.pc + 3) = .ok (.athrow, 1)) (hout : ∀ x ∈ c.exceptionTable.toList, covers x (g.pc + 3) = false)
    (hRf : 5 < R.frames) (hRl : 2 * g.monitorRoom + ((Value.ref a :: rest).map fun v => v.category).sum + 81 ≤ R.locals) (hlocks : meth.locks = false) :
    ∃ U : State, Steps p.tables e below (V.setTop g) U ∧ U.status = .running ∧ Ended U below (.threw a) ∧ s.WarmedH U.vm ∧ s.sameButNew ({ U with vm := s.vm } : State) [] cells slots ∧
      ∃ ce, U.heap[a]? = some ce ∧ ce.vm = .none ∧ s.vm.findClass vn_N = some ce.cls := by
  have hpf := X.admits.platform
  have howns : e.platform.frameOwnsMonitors = true := by rw [hpf]
  have hfin : e.platform.finalization = false := by rw [hpf]
  have hpl : e.platform.magicAccessors = ({} : Platform).magicAccessors := by rw [hpf]
  have o : ∀ (k : Nat) (w : Cond), (vn_last own ic)[k]? = some w → w.holds args s none s [] = true := fun k w hw => h w (vn_5 k hw)
  -- the laws of Throwable
  obtain ⟨T, Z0, L, -, Y⟩ := ThrowableC.of_atoms (args := args) howns hfin hpl (fun w hw => h w (vn_1 hw))
  obtain ⟨Z, N, LZ, LN, hnZ⟩ := Init0T.ofS_atoms (args := args) hpl L Y (fun w hw => h w (vn_2 hw))
  -- the three constructors that pass the message on
  obtain ⟨P, LP, hPm, hPs⟩ := PassC.ofS_atoms (args := args) (s := s) hpl (X := vn_N) (Y := vn_R) (index := 13) (bytes := vn_c) (by decide +kernel) (by decide) (by decide +kernel) (by decide +kernel) (by decide +kernel) (by decide +kernel) (fun w hw => h w (vn_3 hw))
  obtain ⟨P2, Ps, hlen, LP2, hLs, hP2m, hl2, hls⟩ := Bundle.chainS (args := args) hpl hnZ [vn_E] vn_R (by decide +kernel) (by decide +kernel) (fun w hw => h w (vn_4 hw))
  have hlen : Ps.length = 1 := hlen
  have hsup : P.sup = P2.m := Option.some.inj (hPs.symm.trans hP2m)
  have hfound : s.vm.findClass vn_N = some P.m.cls := findClass_of_methodNamed hPm
  cases Option.some.inj (hfX.symm.trans hfound)
  obtain ⟨c1, k1, hc1, hk1, hord, -, -, -⟩ := Cond.instantiable_spec (o 1 _ rfl)
  cases Option.some.inj (hc1.symm.trans hfound)
  cases Option.some.inj (hkX.symm.trans hk1)
  have hsel0 : selectMethod e.platform s.vm P.m.cls T.fill0 = .method T.fill0 := by
    obtain ⟨c2, r2, m2, q1, q2, q3, q4, -⟩ := Cond.selects_spec (o 3 _ rfl)
    cases Option.some.inj (q1.symm.trans hfound)
    cases Option.some.inj (q2.symm.trans (State.methodFound?_of_named Y.fill0 (by decide)))
    cases Option.some.inj (q3.symm.trans Y.fill0)
    rw [Launch.admits_selectMethod X.admits]
    exact q4
  have hselF : selectMethod e.platform s.vm P.m.cls T.fill = .method T.fill := by
    obtain ⟨c2, r2, m2, q1, q2, q3, q4, -⟩ := Cond.selects_spec (o 4 _ rfl)
    cases Option.some.inj (q1.symm.trans hfound)
    cases Option.some.inj (q2.symm.trans (State.methodFound?_of_named Y.fill (by decide)))
    cases Option.some.inj (q3.symm.trans Y.fill)
    rw [Launch.admits_selectMethod X.admits]
    exact q4
  -- the statics of Throwable
  obtain ⟨cS0, hcS0, hiss⟩ := Y.statics
  obtain ⟨u0, hu0⟩ := Cond.staticRefV Y.unassigned L.unassignedStatic L.statics hcS0 hiss (o 10 _ rfl)
  obtain ⟨sen, hsen⟩ := Cond.staticRefV Y.sentinel L.sentinelStatic L.statics hcS0 hiss (o 11 _ rfl)
  obtain ⟨ci9, i9, fB, b1, b2, b3, b4, -, b5, b6, b7⟩ := Cond.ownField (t := .object "java/lang/Object") Y.found L.cls (by decide +kernel) (o 12 _ rfl) (o 13 _ rfl) e.platform hpl
  obtain ⟨cS, hcS, heS, -, hkeep⟩ := X.same.2.2.2.2.2 T.aS cS0 hcS0
  have hcS : V.heap[T.aS]? = some cS := hcS
  have hknS : cS.vm ≠ .unknown := by
    rw [heS]
    intro hu
    rw [show cS0.vm = .unknown from hu] at hiss
    cases hiss
  have hneS : T.aS ≠ a := Nat.ne_of_lt (Nat.lt_of_lt_of_le (Array.getElem?_eq_some_iff.mp hcS0).1 hnew)
  have no : ∀ i, (⟨T.aS, i⟩ : Loc) ∉ ([] : List Loc) := fun i hi => nomatch hi
  -- the fields
  obtain ⟨iM, hfM⟩ := Y.msg
  obtain ⟨tC, dC, eC, nC⟩ := Cond.laysAt hfound hk1 Y.cause (o 5 _ rfl)
  obtain ⟨tS, dS, eS, nS⟩ := Cond.laysAt hfound hk1 Y.stack (o 6 _ rfl)
  obtain ⟨tP, dP, eP, nP⟩ := Cond.laysAt hfound hk1 Y.supp (o 7 _ rfl)
  obtain ⟨tM, dM, eM, nM⟩ := Cond.laysAt hfound hk1 hfM (o 8 _ rfl)
  obtain ⟨tB, dB, eB, nB⟩ := Cond.laysAt hfound hk1 b7 (o 9 _ rfl)
  have bC := Cond.laysApart eB eC nB nC (by rw [b5, Y.causeName]; decide)
  have bS := Cond.laysApart eB eS nB nS (by rw [b5, Y.stackName]; decide)
  have bP := Cond.laysApart eB eP nB nP (by rw [b5, Y.suppName]; decide)
  have hskip : SkipFacts T e.platform s (fun u => u) u0 ((preparedCellV T.toThrowableT (freshCell P.m.cls kX) a u0 sen).withEntry V.cur) :=
    ⟨{ ci198 := ci9, i198 := i9, fBack := fB }, ⟨b1, b2, b3, b4⟩, by
      have h9 := fresh_default (c := P.m.cls) tB
      rw [b6] at h9
      simpa [preparedCellV, Cell.setSlot, Cell.withEntry, Array.getElem?_setIfInBounds, bC, bS, bP, bC.symm, bS.symm, bP.symm, defaultValue] using h9, fun _ _ => rfl⟩
  -- the walk
  obtain ⟨tm, _, _, _, vm1, hnC, -, -, -, -, -, -, -, hW1, st1⟩ := Steps.initColdS (tb := p.tables) (e := e) (below := below) (s := s) (U := V) X.here hexec X.warmed hpl hown (t := Bundle.initS vn_N) rfl rfl (by decide)
    (o 0 _ rfl) (h _ (vn_3 (List.mem_cons_self))) (bytes := vn_c) (maxL := 2) (h _ (vn_3 (List.mem_cons_of_mem _ List.mem_cons_self)))
    (f := g) hg (a := a) (msg := msg) (rest := .ref a :: rest) hstack hd6
  cases Option.some.inj (hnC.symm.trans hPm)
  have X1 := X.noted hW1
  obtain ⟨vm2, X2, st2⟩ := X1.ctorMessageOffV hexec (g := { g with stack := .ref a :: rest }) hg hsize T L Z LZ N LN (P :: P2 :: Ps)
    (fun Q hQ => by
      rcases List.mem_cons.mp hQ with rfl | hQ
      · exact LP
      · rcases List.mem_cons.mp hQ with rfl | hQ
        · exact LP2
        · exact hLs Q hQ) ⟨hsup, hl2, hls⟩ (u0 := u0) (sen := sen) (self := a) hmsg (cell := freshCell P.m.cls kX) (cellS := cS)
    hcell (fun _ => by simp) (by simp) rfl rfl hsel0 hselF hcS hneS hknS (by rw [hkeep _ (no _)]; exact hu0) (by rw [hkeep _ (no _)]; exact hsen)
    (Takes.of_laid hk1 hord tC (by rw [Y.causeType]; rfl)) (Takes.of_laid hk1 hord tS (by rw [Y.stackType]; exact fits_refV_array _ u0)) (Takes.of_laid hk1 hord tP (by rw [Y.suppType]; exact fits_refV_object _ sen))
    (Takes.of_laid hk1 hord tM (by rw [Y.msgType]; exact fits_refV_object _ ⟨msg, hmsg⟩)) Y.objLocals hskip htr [] hd6
    (by simp only [List.length_cons, hlen]; omega) (by simp only [List.length_cons, hlen]; exact hRl)
  obtain ⟨walk, hrun, hend, hWU, hsame⟩ := X2.athrowLeaves hexec (g := { g with stack := .ref a :: rest, pc := g.pc + 3 }) hg hlocked hentered hout (a := a) (rest := rest) rfl hd9
  have hlt : a < ((V.setVm vm1).setVm vm2).heap.size := (Array.getElem?_eq_some_iff.mp hcell).1
  refine ⟨_, st1 _ (fun acts => ?_), hrun, hend, hWU, hsame.weaken (fun y hy hl => ?_) (Nat.le_refl _) (Nat.le_refl _), _, heapAt_setCell_self (s := (V.setVm vm1).setVm vm2) (plainBareV T.toThrowableT (freshCell P.m.cls kX) a u0 sen msg) hlt, rfl, hfound⟩
  · rw [doInvoke_state]
    exact st2 _ walk
  · exfalso
    have hb : y.base = a := by
      simp only [List.nil_append, List.mem_cons, List.not_mem_nil, or_false] at hy
      rcases hy with rfl | rfl | rfl | rfl | rfl <;> rfl
    rw [hb] at hl
    exact Nat.not_lt.mpr hnew hl
end VN
section VNEND
variable {p : Program} {l : Launch} {e : Env} {R : Room} {s : State} {m : MethodId} {args : Array Value} {below : List Frame} {meth : Method} {c : Code} {H : Heap} {locs : List Loc} {cells slots : Nat} {Q : State → Prop}
variable {free : Addr → Prop} {ls : Array Slot} {rest : List Value} {Qc : Array Value → State → Outcome → State → Prop} {XC : String → State → State → Prop}
theorem ve_throwN {cc : ByteArray} {pc : Nat} (hexec : p.tables.exec = Jvm.exec) (hb : c.code = cc) (hl : l.stackTraces = false) {own text : String} {ik is ic mc ms sa : Nat} {A : Nat → Prop}
    (hown : s.vm.findClass own = some m.cls)
    (hk : (Cond.classLink own ik vn_N).before args s = true) (hini : (Cond.initialized vn_N).before args s = true) (hstr : vk_R own is text sa s) (hat : ∀ w ∈ vn_at own ic, w.before args s = true)
    (hgood : ∀ w ∈ Cond.classLink own ik vn_N :: Cond.initialized vn_N :: vn_at own ic, vx_ot w = true)
    (hU : vx_Zq Bundle.tN "UNASSIGNED_STACK" Bundle.steD A s H) (hN : vx_Zq Bundle.tN "SUPPRESSED_SENTINEL" Bundle.listD A s H) (hsize : ls.size = c.maxLocals)
    (d0 : decode cc pc = .ok (.new ik, 3)) (d3 : decode cc (pc + 3) = .ok (.dup, 1)) (d4 : decode cc (pc + 4) = .ok (.ldc is, 2)) (d6 : decode cc (pc + 6) = .ok (.invokespecial ic, 3)) (d9 : decode cc (pc + 9) = .ok (.athrow, 1))
    (hout : ∀ x ∈ c.exceptionTable.toList, covers x (pc + 9) = false)
    (hRframes : 5 < R.frames) (hRlocals : (rest.map fun v => v.category).sum + 82 ≤ R.locals) (hRcells : cells + 1 ≤ R.cells) (hRslots : slots + 6 ≤ R.slots) (hlocks : meth.locks = false)
    (hx : ∀ t : State, s.WarmedH t.vm → t.heap.size = H.size + 1 → (∀ q : Nat, q < H.size → t.heap[q]? = H[q]?) → XC vn_N s t)
    (hf : ∀ z ∈ locs, free z.base) (hc : cells + 1 ≤ mc) (hs : slots + 6 ≤ ms) :
    W p l e R s m args below meth c H locs cells slots (vx_MQ below Qc XC args s mc ms free) (F0 m pc ls rest) := by
  intro T hT X
  have htr : e.platform.stackTraces = false := (show e.platform.stackTraces = l.stackTraces by rw [X.admits.platform]).trans hl
  have Y := vx_rebase X (R' := { frames := R.frames, locals := R.locals, cells := 1, slots := 6 }) (Nat.le_refl _) (Nat.le_refl _) hRcells hRslots
  obtain ⟨s', hA⟩ : ∃ z, z = (T.setVm s.vm).setFrames (.invoking m args :: below) := ⟨_, rfl⟩
  rw [← hA] at Y
  have hvm : s'.vm = s.vm := by rw [hA]; rfl
  have hhp : s'.heap = H := by rw [hA]; exact hT
  have hW0 : s.WarmedH s'.vm := by rw [hvm]; exact State.WarmedH.refl s
  have hat' : ∀ w ∈ vn_at own ic, w.before args s' = true := fun w hw => vx_ot_at hW0 hvm.symm (hgood w (List.mem_cons_of_mem _ (List.mem_cons_of_mem _ hw))) (hat w hw)
  have hk' : (Cond.classLink own ik vn_N).before args s' = true := vx_ot_at hW0 hvm.symm (hgood _ List.mem_cons_self) hk
  have hini' : (Cond.initialized vn_N).before args s' = true := vx_ot_at hW0 hvm.symm (hgood _ (List.mem_cons_of_mem _ List.mem_cons_self)) hini
  have hU' : vx_Zq Bundle.tN "UNASSIGNED_STACK" Bundle.steD A s' s'.heap := by rw [hhp]; exact vx_Zq.moved hW0.alike hU
  have hN' : vx_Zq Bundle.tN "SUPPRESSED_SENTINEL" Bundle.listD A s' s'.heap := by rw [hhp]; exact vx_Zq.moved hW0.alike hN
  have h : ∀ w ∈ vn_own own ic, w.before args s' = true := vx_own hat' (vx_isRefq hU'.1) (vx_isRefq hN'.1) hU'.2.word hN'.2.word
  have hown' : s'.vm.findClass own = some m.cls := by rw [hvm]; exact hown
  have hins : (Cond.instantiable vn_N 6).before args s' = true := h _ (vn_5 1 rfl)
  obtain ⟨vm₁, cX, kX, hfX, hkX, -, -, X₁, st1⟩ := Y.newCold hexec (own := own) (C := vn_N) (index := ik) (n := 6) hown' hk' hins hini'
    (g := F0 m pc ls rest) rfl (by rw [hb]; exact d0) (Nat.le_refl _) (Nat.le_refl _)
  generalize hT1 : (T.setVm vm₁).pushCell { cls := cX, slots := kX.instanceTypes.map defaultValue, vm := .none } = T1 at X₁ st1
  have hcat : (Value.ref T.heap.size).category = 1 := rfl
  have hcellA : T1.heap[T.heap.size]? = some (freshCell cX kX) := by rw [← hT1]; exact State.heap_pushCell_size _ _
  have d3' : decode c.code (pc + 3) = .ok (.dup, 1) := by rw [hb]; exact d3
  have d4' : decode c.code (pc + 4) = .ok (.ldc is, 2) := by rw [hb]; exact d4
  have hstr' : vk_R own is text sa s' := vk_R.warm hW0 hstr
  obtain ⟨U, hsteps, hrun, hend, hW, hsame, ce, hce, hOv, hOc⟩ := vn_ctor X₁ hexec htr (own := own) (ic := ic) hown' h hfX hkX hcellA (by rw [hhp, hT]; exact Nat.le_refl _) (msg := .ref sa) rfl
    (g := { method := m, pc := pc + 6, locals := ls, stack := .ref sa :: .ref T.heap.size :: .ref T.heap.size :: rest, locked := none }) rfl hsize rfl rfl (rest := rest) rfl
    (by rw [hb]; exact d6) (by rw [hb]; exact d9) hout hRframes (by simp only [List.map_cons, List.sum_cons, hcat]; have h0 : JFrame.monitorRoom { method := m, pc := pc + 6, locals := ls, stack := .ref sa :: .ref T.heap.size :: .ref T.heap.size :: rest, locked := none } = 0 := rfl; omega) hlocks
  obtain ⟨f1, f2⟩ := vx_frame hsame
  rw [hhp] at f1 f2
  have hsz9 : U.heap.size = H.size + 1 := by
    have q1 : U.heap.size ≤ s'.heap.size + (0 + 1) := hsame.2.2.1
    have q2 : T.heap.size < U.heap.size := (Array.getElem?_eq_some_iff.mp hce).1
    rw [hhp] at q1
    rw [hT] at q2
    omega
  have hWs : s.WarmedH U.vm := State.WarmedH.trans hW0 hW
  have hcl : s.vm.findClass vn_N = some ce.cls := by
    have h9 := hOc
    rw [hvm] at h9
    exact h9
  have hall : s.sameButNew ({ U with vm := s.vm } : State) locs mc ms := by
    subst hA
    obtain ⟨e1, e2⟩ := hsame
    rw [State.setFrames_setFrames] at e1
    have h2 : (T.setVm s.vm).sameButNew ({ U with vm := s.vm } : State) [] (0 + 1) (0 + 6) := ⟨e1, e2⟩
    have h3 := X.same.trans h2
    rw [List.append_nil] at h3
    exact h3.mono hc hs
  refine ⟨U, ?_, .threw T.heap.size, hrun, hend, Or.inr ⟨T.heap.size, rfl, vn_N, ce, locs, hx U hWs hsz9 (fun q hq => f2 q hq (fun z hz => nomatch hz)), hce, hOv, hcl, hWs, hall, hf⟩⟩
  refine st1 _ ?_
  show Steps p.tables e below (T1.setTop { method := m, pc := pc + 3, locals := ls, stack := .ref T.heap.size :: rest, locked := none }) _
  jvm_step X₁.here [X₁.here.top, hexec, d3', Value.category]
  exact X₁.ldcString hexec (own := own) (text := text) (index := is) (a := sa) hown' hstr'.1 hstr'.2
    (g := { method := m, pc := pc + 4, locals := ls, stack := .ref T.heap.size :: .ref T.heap.size :: rest, locked := none }) rfl d4' _ hsteps
end VNEND
/-- 'throw new NoSuchElementException("text")' in ProofShop: what the pool and the tables must say -/
def s_THN (own : String) (ik is ic : Nat) (text : String) : Prop :=
  (∀ w ∈ (Cond.classLink own ik vn_N :: Cond.initialized vn_N :: vn_at own ic).filter goodWord, w ∈ s_TB) ∧ (∀ w ∈ (vn_at own ic).filter (fun w => !goodWord w), w ∈ Cond.castable vn_N vn_N :: s_decls.map Cond.declares) ∧ (vn_N, vn_N) ∈ s_casts ∧ (∀ w ∈ Cond.classLink own ik vn_N :: Cond.initialized vn_N :: vn_at own ic, vx_ot w = true) ∧ ∃ k, (own, is, text, k) ∈ s_strs
section VNROW
variable {G : sG} {d : Nat} {M : sM} {vs0 : List Value} {σ0 σ : sS} {r : sR} {p : Program} {e : Env} {s : State} {m : MethodId} {below : List Frame} {meth : Method} {c : Code} {H : Heap} {locs : List Loc} {cells slots : Nat} {pc : Nat} {ls : Array Slot} {rest : List Value}
theorem s_hatN (X : s_Cx M p s m vs0.toArray meth c) (I : s_I G σ s H locs) {ik is ic : Nat} {text : String} (h : s_THN M.1.cls ik is ic text) : ∀ w ∈ Cond.classLink M.1.cls ik vn_N :: Cond.initialized vn_N :: vn_at M.1.cls ic, w.before vs0.toArray s = true := by
  obtain ⟨h1, h2, h3, -⟩ := h
  have hts := X.2.2.2.2.2.2.1
  have hc := ((I.1.2.2.2.2.2.2.2.1) _ h3).word (args := vs0.toArray)
  intro w hw
  by_cases g : goodWord w = true
  · exact hts w (h1 w (List.mem_filter.mpr ⟨hw, g⟩))
  · rcases List.mem_cons.mp hw with e1 | hw
    · exact absurd (by rw [e1]; rfl) g
    · rcases List.mem_cons.mp hw with e1 | hw
      · exact absurd (by rw [e1]; rfl) g
      · have h9 := h2 w (List.mem_filter.mpr ⟨hw, by
          show (!goodWord w) = true
          cases hgw : goodWord w
          · rfl
          · exact absurd hgw g⟩)
        rcases List.mem_cons.mp h9 with h9 | h9
        · rw [h9]; exact hc
        · obtain ⟨x, hx, rfl⟩ := List.mem_map.mp h9
          exact va_tabs rfl rfl (I.1.2.2.2.2.2.2.2.2.2.2 x hx)
theorem r_throwN (X : s_Cx M p s m vs0.toArray meth c) (I : s_I G σ s H locs) {ik is ic : Nat} {text : String} (hM0 : M.2.2.2.2 = none) (h : s_THN M.1.cls ik is ic text) (hls : ls.size = M.2.2.1) (hw : (rest.map fun v => v.category).sum ≤ 8) (hf : cells + σ0.2.1 ≤ σ.2.1 ∧ slots + σ0.2.2.1 ≤ σ.2.2.1) (hr : r = (.inr vn_N, s_ex σ))
    (d0 : decode M.2.1 pc = .ok (.new ik, 3)) (d3 : decode M.2.1 (pc + 3) = .ok (.dup, 1)) (d4 : decode M.2.1 (pc + 4) = .ok (.ldc is, 2)) (d6 : decode M.2.1 (pc + 6) = .ok (.invokespecial ic, 3)) (d9 : decode M.2.1 (pc + 9) = .ok (.athrow, 1)) :
    s_W G d vs0 σ0 r p e s m below meth c H locs cells slots (F0 m pc ls rest) := by
  subst hr
  have hat := s_hatN X I h
  obtain ⟨-, -, -, hot, k, hstr⟩ := h
  have hx9 := X.2.2.2.2.2.2.2.2
  rw [hM0] at hx9
  have n1 : (s_ex σ).2.1 = σ.2.1 + 1 := rfl
  have n2 : (s_ex σ).2.2.1 = σ.2.2.1 + 6 := rfl
  exact ve_throwN (own := M.1.cls) (ik := ik) (is := is) (ic := ic) (text := text) X.1 X.2.1 I.1.1 X.2.2.2.2.2.1 (hat _ List.mem_cons_self) (hat _ (List.mem_cons_of_mem _ List.mem_cons_self)) (I.1.2.2.2.2.2.2.1 _ hstr) (fun w hw => hat w (List.mem_cons_of_mem _ (List.mem_cons_of_mem _ hw))) hot I.1.2.2.2.2.2.1.1 I.1.2.2.2.2.2.1.2.1 (hls.trans X.2.2.1.symm) d0 d3 d4 d6 d9 (fun x hx => (hx9 x hx).elim) (by show 5 < d + 10; omega) (by show _ ≤ 60 * d + 400; omega) (by show _ ≤ (s_ex σ).2.1 - σ0.2.1; omega) (by show _ ≤ (s_ex σ).2.2.1 - σ0.2.2.1; omega) X.2.2.2.2.1 (fun t hW hz ho => ⟨rfl, s_exI I t hW hz ho⟩) I.2.1.2.2 (by show _ ≤ (s_ex σ).2.1 - σ0.2.1; omega) (by show _ ≤ (s_ex σ).2.2.1 - σ0.2.2.1; omega)
end VNROW
theorem thn_X7_198_200 : s_THN RX7 198 200 202 "no such what" := ⟨fun w hw => List.mem_filter.mpr ⟨List.contains_iff_mem.mp (List.all_eq_true.mp (by decide +kernel : (((Cond.classLink RX7 198 vn_N :: Cond.initialized vn_N :: vn_at RX7 202).filter goodWord).all (fun w => lw_tbl.contains w)) = true) w hw), (List.mem_filter.mp hw).2⟩, by decide +kernel, by decide +kernel, by decide +kernel, 20, by decide +kernel⟩
