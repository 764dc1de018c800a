/-! rows over the picture: throw, catch, constants, copies, Object's constructor, String's fields -/
/-- 'throw new cls("text")' in the class own: places of class, text, constructor in its pool; the superclasses up to Throwable -/
def s_TH (own : String) (ik is ic : Nat) (cls text : String) (names : List String) : Prop :=
  (∀ w ∈ (Cond.classLink own ik cls :: Cond.initialized cls :: vx_atS own ic cls names).filter goodWord, w ∈ s_TB) ∧ (∀ w ∈ (vx_atS own ic cls names).filter (fun w => !goodWord w), w ∈ Cond.castable cls cls :: s_decls.map Cond.declares) ∧ (cls, cls) ∈ s_casts ∧ Bundle.fit cls = true ∧ (∀ n ∈ names, Bundle.fit n = true) ∧ (∀ w ∈ Cond.classLink own ik cls :: Cond.initialized cls :: vx_atS own ic cls names, vx_ot w = true) ∧ names.length ≤ 4 ∧ ∃ k, (own, is, text, k) ∈ s_strs
section SREST
variable {G : sG} {d : Nat} {M : sM} {vs0 : List Value} {σ0 σ : sS} {r : sR} {p : Program} {e : Env} {s : State} {m : MethodId} {below : List Frame} {meth : Method} {c : Code} {H : Heap} {locs : List Loc} {cells slots : Nat} {pc : Nat} {ls : Array Slot} {rest : List Value}
theorem s_hat (X : s_Cx M p s m vs0.toArray meth c) (I : s_I G σ s H locs) {ik is ic : Nat} {cls text : String} {names : List String} (h : s_TH M.1.cls ik is ic cls text names) : ∀ w ∈ Cond.classLink M.1.cls ik cls :: Cond.initialized cls :: vx_atS M.1.cls ic cls names, w.before vs0.toArray s = true := by
  obtain ⟨h1, h2, h3, -⟩ := h
  have hts := X.2.2.2.2.2.2.1
  have hc := ((I.1.2.2.2.2.2.2.2.1) _ h3).word (args := vs0.toArray)
  intro w hw
  by_cases g : goodWord w = true
  · exact hts w (h1 w (List.mem_filter.mpr ⟨hw, g⟩))
  · rcases List.mem_cons.mp hw with e1 | hw
    · exact absurd (by rw [e1]; rfl) g
    · rcases List.mem_cons.mp hw with e1 | hw
      · exact absurd (by rw [e1]; rfl) g
      · have h9 := h2 w (List.mem_filter.mpr ⟨hw, by
          show (!goodWord w) = true
          cases hgw : goodWord w
          · rfl
          · exact absurd hgw g⟩)
        rcases List.mem_cons.mp h9 with h9 | h9
        · rw [h9]; exact hc
        · obtain ⟨x, hx, rfl⟩ := List.mem_map.mp h9
          exact va_tabs rfl rfl (I.1.2.2.2.2.2.2.2.2.2.2 x hx)
theorem s_exI (I : s_I G σ s H locs) (t : State) (hW : s.WarmedH t.vm) (hz : t.heap.size = H.size + 1) (ho : ∀ q : Nat, q < H.size → t.heap[q]? = H[q]?) : s_ok G (s_ex σ) t ∧ va_F (s_A (s_B G)) s t := by
  have I1 : s_I G (s_ex σ) s t.heap locs := I.add hz ho rfl rfl (fun q c' hq => Or.inr hq)
  exact s_fin I1 t rfl hW
theorem r_throw (X : s_Cx M p s m vs0.toArray meth c) (I : s_I G σ s H locs) {ik is ic : Nat} {cls text : String} {names : List String} (hM0 : M.2.2.2.2 = none) (h : s_TH M.1.cls ik is ic cls text names) (hls : ls.size = M.2.2.1) (hw : (rest.map fun v => v.category).sum ≤ 8) (hf : cells + σ0.2.1 ≤ σ.2.1 ∧ slots + σ0.2.2.1 ≤ σ.2.2.1) (hr : r = (.inr cls, s_ex σ))
    (d0 : decode M.2.1 pc = .ok (.new ik, 3)) (d3 : decode M.2.1 (pc + 3) = .ok (.dup, 1)) (d4 : decode M.2.1 (pc + 4) = .ok (.ldc is, 2)) (d6 : decode M.2.1 (pc + 6) = .ok (.invokespecial ic, 3)) (d9 : decode M.2.1 (pc + 9) = .ok (.athrow, 1)) :
    s_W G d vs0 σ0 r p e s m below meth c H locs cells slots (F0 m pc ls rest) := by
  subst hr
  have hat := s_hat X I h
  obtain ⟨-, -, -, hfit, hnames, hot, hlen, k, hstr⟩ := h
  have hx9 := X.2.2.2.2.2.2.2.2
  rw [hM0] at hx9
  have n1 : (s_ex σ).2.1 = σ.2.1 + 1 := rfl
  have n2 : (s_ex σ).2.2.1 = σ.2.2.1 + 6 := rfl
  exact ve_throwS (own := M.1.cls) (names := names) (ik := ik) (is := is) (ic := ic) (cls := cls) (text := text) X.1 X.2.1 I.1.1 X.2.2.2.2.2.1 hfit hnames (hat _ List.mem_cons_self) (hat _ (List.mem_cons_of_mem _ List.mem_cons_self)) (I.1.2.2.2.2.2.2.1 _ hstr) (fun w hw => hat w (List.mem_cons_of_mem _ (List.mem_cons_of_mem _ hw))) hot I.1.2.2.2.2.2.1.1 I.1.2.2.2.2.2.1.2.1 (hls.trans X.2.2.1.symm) d0 d3 d4 d6 d9 (fun x hx => (hx9 x hx).elim) (by show names.length + 3 < d + 10; omega) (by show _ ≤ 60 * d + 400; omega) (by show _ ≤ (s_ex σ).2.1 - σ0.2.1; omega) (by show _ ≤ (s_ex σ).2.2.1 - σ0.2.2.1; omega) X.2.2.2.2.1 (fun t hW hz ho => ⟨rfl, s_exI I t hW hz ho⟩) I.2.1.2.2 (by show _ ≤ (s_ex σ).2.1 - σ0.2.1; omega) (by show _ ≤ (s_ex σ).2.2.1 - σ0.2.2.1; omega)
theorem r_throwW (X : s_Cx M p s m vs0.toArray meth c) (I : s_I G σ s H locs) {ik is ic : Nat} {cls text : String} {names : List String} (hM0 : M.2.2.2.2 = none) (h : s_TH M.1.cls ik is ic cls text names) (hls : ls.size = M.2.2.1) (hw : (rest.map fun v => v.category).sum ≤ 8) (hf : cells + σ0.2.1 ≤ σ.2.1 ∧ slots + σ0.2.2.1 ≤ σ.2.2.1) (hr : r = (.inr cls, s_ex σ))
    (d0 : decode M.2.1 pc = .ok (.new ik, 3)) (d3 : decode M.2.1 (pc + 3) = .ok (.dup, 1)) (d4 : decode M.2.1 (pc + 4) = .ok (.ldc_w is, 3)) (d6 : decode M.2.1 (pc + 7) = .ok (.invokespecial ic, 3)) (d9 : decode M.2.1 (pc + 10) = .ok (.athrow, 1)) :
    s_W G d vs0 σ0 r p e s m below meth c H locs cells slots (F0 m pc ls rest) := by
  subst hr
  have hat := s_hat X I h
  obtain ⟨-, -, -, hfit, hnames, hot, hlen, k, hstr⟩ := h
  have hx9 := X.2.2.2.2.2.2.2.2
  rw [hM0] at hx9
  have n1 : (s_ex σ).2.1 = σ.2.1 + 1 := rfl
  have n2 : (s_ex σ).2.2.1 = σ.2.2.1 + 6 := rfl
  exact ve_throwSW (own := M.1.cls) (names := names) (ik := ik) (is := is) (ic := ic) (cls := cls) (text := text) X.1 X.2.1 I.1.1 X.2.2.2.2.2.1 hfit hnames (hat _ List.mem_cons_self) (hat _ (List.mem_cons_of_mem _ List.mem_cons_self)) (I.1.2.2.2.2.2.2.1 _ hstr) (fun w hw => hat w (List.mem_cons_of_mem _ (List.mem_cons_of_mem _ hw))) hot I.1.2.2.2.2.2.1.1 I.1.2.2.2.2.2.1.2.1 (hls.trans X.2.2.1.symm) d0 d3 d4 d6 d9 (fun x hx => (hx9 x hx).elim) (by show names.length + 3 < d + 10; omega) (by show _ ≤ 60 * d + 400; omega) (by show _ ≤ (s_ex σ).2.1 - σ0.2.1; omega) (by show _ ≤ (s_ex σ).2.2.1 - σ0.2.2.1; omega) X.2.2.2.2.1 (fun t hW hz ho => ⟨rfl, s_exI I t hW hz ho⟩) I.2.1.2.2 (by show _ ≤ (s_ex σ).2.1 - σ0.2.1; omega) (by show _ ≤ (s_ex σ).2.2.1 - σ0.2.2.1; omega)
theorem r_gets (X : s_Cx M p s m vs0.toArray meth c) {C n9 d9 : String} {v : Value} {idx B : Nat} (hZ : va_Z C n9 d9 v (s_A B) s H) (hl : Cond.fieldLink M.1.cls idx C n9 d9 ∈ s_TB) (hdg : decode M.2.1 pc = .ok (.getstatic idx, 3))
    (kk : s_W G d vs0 σ0 r p e s m below meth c H locs cells slots (F0 m (pc + 3) ls (v :: rest))) : s_W G d vs0 σ0 r p e s m below meth c H locs cells slots (F0 m pc ls rest) := by
  obtain ⟨hx, hb, -, -, -, hown, hts, -⟩ := X
  obtain ⟨cf, kf, fi, f, a, cell, h1, h2, h3, h4, h5, h6, h7, h8⟩ := hZ
  exact W.gets hx hb hown (hts _ hl) h1 h2 h3 h4 h5 (fun e => by rw [e] at h6; cases h6) h7 rfl hdg kk
theorem r_getsN (X : s_Cx M p s m vs0.toArray meth c) {C n9 d9 host : String} {v : Value} {idx B : Nat} (hZ : va_Z C n9 d9 v (s_A B) s H) (hl : va_Nw (.fieldLinkNest M.1.cls idx C n9 d9 host) s) (hdg : decode M.2.1 pc = .ok (.getstatic idx, 3))
    (kk : s_W G d vs0 σ0 r p e s m below meth c H locs cells slots (F0 m (pc + 3) ls (v :: rest))) : s_W G d vs0 σ0 r p e s m below meth c H locs cells slots (F0 m pc ls rest) := by
  obtain ⟨hx, hb, -, -, -, hown, hts, -⟩ := X
  obtain ⟨cf, kf, fi, f, a, cell, h1, h2, h3, h4, h5, h6, h7, h8⟩ := hZ
  exact va_WgetsN hx hb hown (va_Nw.use rfl hl) h1 h2 h3 h4 h5 (fun e => by rw [e] at h6; cases h6) h7 rfl hdg kk
theorem r_ldcS (X : s_Cx M p s m vs0.toArray meth c) (I : s_I G σ s H locs) {idx k : Nat} {tx : String} (hs : (M.1.cls, idx, tx, k) ∈ s_strs) (hdg : decode M.2.1 pc = .ok (.ldc idx, 2))
    (kk : s_W G d vs0 σ0 r p e s m below meth c H locs cells slots (F0 m (pc + 2) ls (.ref (σ.2.2.2 k) :: rest))) : s_W G d vs0 σ0 r p e s m below meth c H locs cells slots (F0 m pc ls rest) :=
  va_ldcS X.1 X.2.1 X.2.2.2.2.2.1 (I.1.2.2.2.2.2.2.1 _ hs) hdg kk
theorem r_objI (X : s_Cx M p s m vs0.toArray meth c) {idx a : Nat} (h1 : Cond.methodLink M.1.cls idx Lib.objectInit ∈ s_TB) (h2 : Cond.instanceMethod Lib.objectInit ∈ s_TB) (h3 : Cond.code Lib.objectInit ⟨#[0xb1]⟩ 1 none ∈ s_TB) (hls : ls.size = M.2.2.1) (hw : (rest.map fun v => v.category).sum ≤ 8) (hdg : decode M.2.1 pc = .ok (.invokespecial idx, 3))
    (kk : s_W G d vs0 σ0 r p e s m below meth c H locs cells slots (F0 m (pc + 3) ls rest)) : s_W G d vs0 σ0 r p e s m below meth c H locs cells slots (F0 m pc ls (.ref a :: rest)) := by
  obtain ⟨hx, hb, hml, -, -, hown, hts, -⟩ := X
  exact W.objInit hx hb hown (hts _ h1) (hts _ h2) (hts _ h3) rfl (hls.trans hml.symm) rfl hdg (by show 1 ≤ d + 10; omega) (by show 2 * 0 + _ + 12 ≤ 60 * d + 400; omega) kk
/-- a String constant's fields -/
theorem r_gsv (X : s_Cx M p s m vs0.toArray meth c) (I : s_I G σ s H locs) {idx a v : Nat} (hl : Cond.fieldLink M.1.cls idx s_str "value" "[B" ∈ s_TB) (hv : s_fr σ a 100 0 = some v) (hdg : decode M.2.1 pc = .ok (.getfield idx, 3))
    (kk : s_W G d vs0 σ0 r p e s m below meth c H locs cells slots (F0 m (pc + 3) ls (.ref v :: rest))) : s_W G d vs0 σ0 r p e s m below meth c H locs cells slots (F0 m pc ls (.ref a :: rest)) := by
  obtain ⟨hx, hb, -, -, -, hown, hts, -⟩ := X
  obtain ⟨fs, h1, h2⟩ := s_fv_to (s_fr_to hv)
  have hc := (I.1.2.2.2.1 a _ h1).2
  dsimp only [s_cell] at hc
  rw [if_pos rfl] at hc
  obtain ⟨w, g0, g1, g2, g3⟩ := hc
  subst g0
  cases h2
  obtain ⟨cf, k, fi, f, cell, q1, q2, q3, q4, q5, q6⟩ := g2
  exact W.getf hx hb hown (hts _ hl) q1 q2 q3 q4 (v := .ref v) q5 rfl rfl hdg kk
theorem r_gsc (X : s_Cx M p s m vs0.toArray meth c) (I : s_I G σ s H locs) {idx a : Nat} {v : Int32} (hl : Cond.fieldLink M.1.cls idx s_str "coder" "B" ∈ s_TB) (hv : s_fi σ a 100 1 = some v) (hdg : decode M.2.1 pc = .ok (.getfield idx, 3))
    (kk : s_W G d vs0 σ0 r p e s m below meth c H locs cells slots (F0 m (pc + 3) ls (.int v :: rest))) : s_W G d vs0 σ0 r p e s m below meth c H locs cells slots (F0 m pc ls (.ref a :: rest)) := by
  obtain ⟨hx, hb, -, -, -, hown, hts, -⟩ := X
  obtain ⟨fs, h1, h2⟩ := s_fv_to (s_fi_to hv)
  have hc := (I.1.2.2.2.1 a _ h1).2
  dsimp only [s_cell] at hc
  rw [if_pos rfl] at hc
  obtain ⟨w, g0, g1, g2, g3⟩ := hc
  subst g0
  cases h2
  obtain ⟨cf, k, fi, f, cell, q1, q2, q3, q4, q5, q6⟩ := g3
  exact W.getf hx hb hown (hts _ hl) q1 q2 q3 q4 (v := .int 0) q5 rfl rfl hdg kk
theorem r_mmax (X : s_Cx M p s m vs0.toArray meth c) {idx : Nat} (h1 : Cond.methodLink M.1.cls idx Lib.Math.max.name ∈ s_TB) (h2 : Cond.static Lib.Math.max.name ∈ s_TB) (h3 : Cond.initialized "java/lang/Math" ∈ s_TB) (h4 : Cond.code Lib.Math.max.name Lib.Math.max.code 2 (some .int) ∈ s_TB) (hls : ls.size = M.2.2.1) (hw : (rest.map fun v => v.category).sum ≤ 8) (hf : cells + σ0.2.1 ≤ σ.2.1 ∧ slots + σ0.2.2.1 ≤ σ.2.2.1) (hle : s_le σ r.2) {x y : Int32} (hdg : decode M.2.1 pc = .ok (.invokestatic idx, 3))
    (kk : s_W G d vs0 σ0 r p e s m below meth c H locs cells slots (F0 m (pc + 3) ls (.int (if x < y then y else x) :: rest))) : s_W G d vs0 σ0 r p e s m below meth c H locs cells slots (F0 m pc ls (.int y :: .int x :: rest)) := by
  obtain ⟨hx, hb, hml, -, -, hown, hts, -⟩ := X
  have g1 := hle.1
  have g2 := hle.2.1
  exact va_mmax hx hb (hml.trans hls.symm) hown (hts _ h1) (hts _ h2) (hts _ h3) (hts _ h4) (by show 1 ≤ d + 10; omega) (by show _ ≤ 60 * d + 400; omega) (by show _ ≤ r.2.2.1 - σ0.2.1; omega) (by show _ ≤ r.2.2.2.1 - σ0.2.2.1; omega) hdg kk
theorem r_mmin (X : s_Cx M p s m vs0.toArray meth c) {idx : Nat} (h1 : Cond.methodLink M.1.cls idx Lib.Math.min.name ∈ s_TB) (h2 : Cond.static Lib.Math.min.name ∈ s_TB) (h3 : Cond.initialized "java/lang/Math" ∈ s_TB) (h4 : Cond.code Lib.Math.min.name Lib.Math.min.code 2 (some .int) ∈ s_TB) (hls : ls.size = M.2.2.1) (hw : (rest.map fun v => v.category).sum ≤ 8) (hf : cells + σ0.2.1 ≤ σ.2.1 ∧ slots + σ0.2.2.1 ≤ σ.2.2.1) (hle : s_le σ r.2) {x y : Int32} (hdg : decode M.2.1 pc = .ok (.invokestatic idx, 3))
    (kk : s_W G d vs0 σ0 r p e s m below meth c H locs cells slots (F0 m (pc + 3) ls (.int (if y < x then y else x) :: rest))) : s_W G d vs0 σ0 r p e s m below meth c H locs cells slots (F0 m pc ls (.int y :: .int x :: rest)) := by
  obtain ⟨hx, hb, hml, -, -, hown, hts, -⟩ := X
  have g1 := hle.1
  have g2 := hle.2.1
  exact va_mmin hx hb (hml.trans hls.symm) hown (hts _ h1) (hts _ h2) (hts _ h3) (hts _ h4) (by show 1 ≤ d + 10; omega) (by show _ ≤ 60 * d + 400; omega) (by show _ ≤ r.2.2.1 - σ0.2.1; omega) (by show _ ≤ r.2.2.2.1 - σ0.2.2.1; omega) hdg kk
end SREST
