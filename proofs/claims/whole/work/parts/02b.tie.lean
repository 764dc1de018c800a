/-! what ties the pure picture to the machine -/
def s_TB : List Cond := lw_tbl.filter goodWord
theorem s_in (i : Nat) {w : Cond} (h : lw_tbl[i]? = some w) (g : goodWord w = true) : w ∈ s_TB := List.mem_filter.mpr ⟨List.mem_of_getElem? h, g⟩
theorem s_TB_good {w : Cond} (h : w ∈ s_TB) : (w.onTables && w.keeps) = true ∨ ∃ ty, w = .arrayClass ty := good_of_word (List.mem_filter.mp h).2
def s_A (B : Nat) : Nat → Prop := fun q => B ≤ q
def s_cl : List vw_C := [(RX0, TX0, 6), (RX1, TX1, 15), (RX2, TX2, 8), (RX3, TX3, 6), (RX4, TX4, 13), (RX5, TX5, 7), (RX6, TX6, 2), (RX7, TX7, 9), (RX8, TX8, 39)]
def s_tys (cA : Nat → ClassId) : List (ClassId × FieldType) := [(cA 0, .int), (cA 1, .long), (cA 2, .byte), (cA 3, .boolean)]
def s_str : String := "java/lang/String"
/-- a cell of the picture is a cell of the heap -/
def s_cell (D : va_G) (cA : Nat → ClassId) (B : Nat) (U : State) (H : Heap) (a : Nat) : sC → Prop
  | .inl (0, x) => B ≤ a ∧ va_at D s_cl (a, .inl (cA 0, x)) H
  | .inl (1, x) => B ≤ a ∧ va_at D s_cl (a, .inl (cA 1, x)) H
  | .inl (2, x) => B ≤ a ∧ va_at D s_cl (a, .inl (cA 2, x)) H
  | .inl (3, x) => B ≤ a ∧ va_at D s_cl (a, .inl (cA 3, x)) H
  | .inl (4, n, .inl f) => va_T .int a n (fun j => .int (f j)) (s_A B) U H
  | .inl (5, n, .inr (.inl f)) => va_T .long a n (fun j => .long (f j)) (s_A B) U H
  | .inl (6, n, .inl f) => va_T .byte a n (fun j => .int (f j)) (s_A B) U H
  | .inr o => if o.1 = 100 then (∃ v, o.2 = [v, .int 0] ∧ va_O s_str a (s_A B) U H ∧ va_OF s_str "value" "[B" v a (s_A B) U H ∧ va_OF s_str "coder" "B" (.int 0) a (s_A B) U H) else B ≤ a ∧ va_at D s_cl (a, .inr o) H
  | _ => False
/-- what stays as it was at the start: static fields -/
def s_env (B : Nat) (ev : Nat → Nat) (U : State) (H : Heap) : Prop :=
  vx_Zq Bundle.tN "UNASSIGNED_STACK" Bundle.steD (s_A B) U H ∧ vx_Zq Bundle.tN "SUPPRESSED_SENTINEL" Bundle.listD (s_A B) U H ∧
  va_Z "ProofShop$Auditor" "ASKED" "[I" (.ref (ev 0)) (s_A B) U H ∧ va_Z "ProofShop$Forms" "COLUMNS" "[J" (.ref (ev 1)) (s_A B) U H ∧ va_Z s_str "COMPACT_STRINGS" "Z" (.int 1) (s_A B) U H ∧ va_Zq "jdk/internal/util/Preconditions" "SIOOBE_FORMATTER" "Ljava/util/function/BiFunction;" (s_A B) U H
def s_cast (C T : String) (U : State) : Prop := ∃ c t : ClassId, U.vm.findClass C = some c ∧ U.vm.findClass T = some t ∧ U.vm.assignable c t = true
theorem s_cast.moved {C T : String} {u U : State} (hvm : u.vm.Alike U.vm) (h : s_cast C T u) : s_cast C T U := by
  obtain ⟨c, t, h1, h2, h3⟩ := h
  exact ⟨c, t, by rw [hvm.findClass]; exact h1, by rw [hvm.findClass]; exact h2, by rw [hvm.assignable]; exact h3⟩
theorem s_cast.word {C T : String} {args : Array Value} {U : State} (h : s_cast C T U) : (Cond.castable C T).before args U = true := by
  obtain ⟨c, t, h1, h2, h3⟩ := h
  simp [Cond.before, Cond.holds, Cond.value, h1, h2, h3]
def s_decl (x : MethodName) (U : State) : Prop := (Cond.declares x).before #[] U = true
theorem s_decl.moved {x : MethodName} {u U : State} (hvm : u.vm.Alike U.vm) (h : s_decl x u) : s_decl x U := by
  have h1 : (Cond.declares x).before #[] (u.setVm U.vm) = true := by
    rw [Cond.declares_setVm hvm]
    exact h
  exact va_tabs rfl (rfl : (u.setVm U.vm).vm = U.vm) h1
/-- what the tables say, over and above s_TB -/
def s_tab (ev : Nat → Nat) (U : State) : Prop := (∀ q ∈ s_strs, vk_R q.1 q.2.1 q.2.2.1 (ev q.2.2.2) U) ∧ (∀ q ∈ s_casts, s_cast q.1 q.2 U) ∧ (∀ q ∈ s_ncs, va_Nc q.1 q.2 U) ∧ va_Nw s_nest U ∧ ∀ x ∈ s_decls, s_decl x U
theorem s_tab.warm {ev : Nat → Nat} {s U : State} (hW : s.WarmedH U.vm) (h : s_tab ev s) : s_tab ev U :=
  ⟨fun q hq => vk_R.warm hW (h.1 q hq), fun q hq => (h.2.1 q hq).moved hW.alike, fun q hq => (h.2.2.1 q hq).moved hW.alike, va_Nw.warmF hW h.2.2.2.1, fun x hx => (h.2.2.2.2 x hx).moved hW.alike⟩
/-- the fixed things: the launch, the classes' numbers, the arrays' classes, where our cells begin -/
abbrev sG : Type := Launch × va_G × (Nat → ClassId) × Nat
def s_okH (G : sG) (σ : sS) (U : State) (H : Heap) : Prop :=
  G.1.stackTraces = false ∧ H.size = σ.2.1 ∧ G.2.2.2 ≤ σ.2.1 ∧ (∀ a c, σ.1 a = some c → a < σ.2.1 ∧ s_cell G.2.1 G.2.2.1 G.2.2.2 U H a c) ∧ va_K G.2.1 s_cl (s_tys G.2.2.1) U ∧ s_env G.2.2.2 σ.2.2.2 U H ∧ s_tab σ.2.2.2 U
abbrev s_B (G : sG) : Nat := G.2.2.2
def s_ok (G : sG) (σ : sS) (U : State) : Prop := s_okH G σ U U.heap
/-- a method: its name, its bytes, how many locals, what it returns, its handlers -/
abbrev sM : Type := MethodName × ByteArray × Nat × Option FieldType × Option (List (Nat × Nat × Nat × Nat))
def s_hd (M : sM) : Cond := match M.2.2.2.2 with
  | none => .code M.1 M.2.1 M.2.2.1 M.2.2.2.1
  | some hh => .codeWith M.1 M.2.1 M.2.2.1 M.2.2.2.1 hh
def s_room (d mc ms : Nat) : Room := { frames := d + 10, cells := mc, slots := ms, locals := 60 * d + 400 }
def s_Qc (G : sG) (r : sR) : Array Value → State → Outcome → State → Prop := fun _ st oc t => match r.1 with
  | .inl v => oc = .returned v ∧ s_ok G r.2 t ∧ va_F (s_A (s_B G)) st t
  | .inr _ => False
def s_XC (G : sG) (r : sR) : String → State → State → Prop := fun E st t => match r.1 with
  | .inl _ => False
  | .inr E' => E = E' ∧ s_ok G r.2 t ∧ va_F (s_A (s_B G)) st t
/-- from σ to r: cells and slots only come, constants stay -/
def s_le (σ τ : sS) : Prop := σ.2.1 ≤ τ.2.1 ∧ σ.2.2.1 ≤ τ.2.2.1 ∧ τ.2.2.2 = σ.2.2.2
/-- THE CONTRACT: the method M with arguments vs at σ ends as r says; at most d calls stand open -/
def s_T (G : sG) (d : Nat) (M : sM) (vs : List Value) (σ : sS) (r : sR) : Prop :=
  s_le σ r.2 ∧ vx_Met G.1 M.1 (s_hd M :: s_TB) (s_room d (r.2.2.1 - σ.2.1) (r.2.2.2.1 - σ.2.2.1)) (va_Pc vs (fun U => s_ok G σ U)) (s_Qc G r) (s_XC G r) (r.2.2.1 - σ.2.1) (r.2.2.2.1 - σ.2.2.1) (s_A (s_B G))
def s_Cx (M : sM) (p : Program) (s : State) (m : MethodId) (args : Array Value) (meth : Method) (c : Code) : Prop :=
  p.tables.exec = Jvm.exec ∧ c.code = M.2.1 ∧ c.maxLocals = M.2.2.1 ∧ meth.sig.returnType = M.2.2.2.1 ∧ meth.locks = false ∧ s.vm.findClass M.1.cls = some m.cls ∧ (∀ w ∈ s_TB, w.before args s = true) ∧ meth.name = M.1.name ∧
  (match M.2.2.2.2 with
   | none => ∀ x ∈ c.exceptionTable.toList, False
   | some hh => c.exceptionTable.toList = tableOf hh)
def s_I (G : sG) (σ : sS) (s : State) (H : Heap) (locs : List Loc) : Prop := s_okH G σ s H ∧ va_S (s_A (s_B G)) s.heap H locs ∧ s_B G ≤ s.heap.size
abbrev s_W (G : sG) (d : Nat) (vs0 : List Value) (σ0 : sS) (r : sR) (p : Program) (e : Env) (s : State) (m : MethodId) (below : List Frame) (meth : Method) (c : Code) (H : Heap) (locs : List Loc) (cells slots : Nat) (g : JFrame) : Prop :=
  W p G.1 e (s_room d (r.2.2.1 - σ0.2.1) (r.2.2.2.1 - σ0.2.2.1)) s m vs0.toArray below meth c H locs cells slots (vx_MQ below (s_Qc G r) (s_XC G r) vs0.toArray s (r.2.2.1 - σ0.2.1) (r.2.2.2.1 - σ0.2.2.1) (s_A (s_B G))) g
/-- at a label: from here the method ends as r says -/
def s_V (G : sG) (d : Nat) (M : sM) (vs0 : List Value) (σ0 : sS) (lay : Nat → List Nat) (x : sL) (r : sR) : Prop :=
  s_le x.2.2 r.2 ∧ ∀ (p : Program) (e : Env) (s : State) (m : MethodId) (below : List Frame) (meth : Method) (c : Code) (H : Heap) (locs : List Loc) (cells slots : Nat) (ls : Array Slot),
    s_Cx M p s m vs0.toArray meth c → s_I G x.2.2 s H locs → cells + σ0.2.1 ≤ x.2.2.2.1 → slots + σ0.2.2.1 ≤ x.2.2.2.2.1 → lv_has ls M.2.2.1 ((lay x.1).zip x.2.1) →
    s_W G d vs0 σ0 r p e s m below meth c H locs cells slots (F0 m x.1 ls (x.2.1.drop (lay x.1).length))
theorem s_le.rf {σ : sS} : s_le σ σ := ⟨Nat.le_refl _, Nat.le_refl _, rfl⟩
theorem s_le.tr {σ τ υ : sS} (h : s_le σ τ) (g : s_le τ υ) : s_le σ υ := ⟨Nat.le_trans h.1 g.1, Nat.le_trans h.2.1 g.2.1, g.2.2.trans h.2.2⟩
theorem s_cell.moved {D : va_G} {cA : Nat → ClassId} {B : Nat} {u U : State} {H : Heap} {a : Nat} {c : sC} (hvm : u.vm.Alike U.vm) (h : s_cell D cA B u H a c) : s_cell D cA B U H a c := by
  unfold s_cell at h ⊢
  split at h
  · exact h
  · exact h
  · exact h
  · exact h
  · exact va_T.moved hvm h
  · exact va_T.moved hvm h
  · exact va_T.moved hvm h
  · split at h
    next e =>
      obtain ⟨v, h0, h1, h2, h3⟩ := h
      rw [if_pos e]
      exact ⟨v, h0, va_O.moved hvm h1, va_OF.moved hvm h2, va_OF.moved hvm h3⟩
    next e => rw [if_neg e]; exact h
  · exact h
theorem s_env.moved {B : Nat} {ev : Nat → Nat} {u U : State} {H : Heap} (hvm : u.vm.Alike U.vm) (h : s_env B ev u H) : s_env B ev U H :=
  ⟨vx_Zq.moved hvm h.1, vx_Zq.moved hvm h.2.1, va_Z.moved hvm h.2.2.1, va_Z.moved hvm h.2.2.2.1, va_Z.moved hvm h.2.2.2.2.1, va_Zq.moved hvm h.2.2.2.2.2⟩
/-- the tables have grown warmer: what held holds -/
theorem s_okH.warm {G : sG} {σ : sS} {s U : State} {H : Heap} (hW : s.WarmedH U.vm) (h : s_okH G σ s H) : s_okH G σ U H := by
  obtain ⟨h0, h1, h2, h3, h4, h5, h6⟩ := h
  exact ⟨h0, h1, h2, fun a c hc => ⟨(h3 a c hc).1, (h3 a c hc).2.moved hW.alike⟩, va_K.moved hW.alike h4, h5.moved hW.alike, h6.warm hW⟩
/-- seen from the state where the method began -/
theorem s_okH.back {G : sG} {σ σ' : sS} {s t : State} {H0 H : Heap} (hvm : s.vm.Alike t.vm) (hev : σ'.2.2.2 = σ.2.2.2) (h0 : s_okH G σ s H0) (h : s_okH G σ' t H) : s_okH G σ' s H := by
  obtain ⟨g0, g1, g2, g3, g4, g5, g6⟩ := h
  exact ⟨g0, g1, g2, fun a c hc => ⟨(g3 a c hc).1, (g3 a c hc).2.moved hvm.symm⟩, va_K.moved hvm.symm g4, g5.moved hvm.symm, by rw [hev]; exact h0.2.2.2.2.2.2⟩
