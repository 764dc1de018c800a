/-! decoding byte by byte -/
def s_by (code : ByteArray) (p k : Nat) : Prop := ∃ h : p < code.size, code[p].toNat = k
theorem dz_u1 {code : ByteArray} {p k : Nat} (h : s_by code p k) : (Reader.u1 : Decoder Nat) code p = .ok (k, p + 1) := by
  obtain ⟨h0, h1⟩ := h
  have e : (Reader.u1 : Decoder Nat) code p = (if h : p < code.size then .ok (code[p].toNat, p + 1) else .error (HasTruncated.truncated p)) := by
    unfold Reader.u1
    by_cases h9 : p < code.size
    · rw [dif_pos h9]
      show (dite (p < code.size) _ _ : Decoder Nat) code p = _
      rw [dif_pos h9]; rfl
    · exact absurd h0 h9
  rw [e, dif_pos h0, h1]
theorem dz_go {α β : Type} {code : ByteArray} {p q : Nat} {a : α} {r : Decoder α} (g : α → Decoder β) (h : r code p = .ok (a, q)) : (bind r g : Decoder β) code p = g a code q := by
  show Except.bind (r code p) _ = _
  rw [h]; rfl
theorem dz_fin {code : ByteArray} {pc n L : Nat} {i : Instr} (e : (Decoder.instr pc) code pc = .ok (i, n)) (hn : n = pc + L) : decode code pc = .ok (i, L) := by
  have h : decode code pc = Except.bind ((Decoder.instr pc) code pc) (fun x => .ok (x.1, x.2 - pc)) := rfl
  rw [h, e, hn]
  show Except.ok (i, pc + L - pc) = _
  rw [Nat.add_sub_cancel_left]
theorem dz_u2 {code : ByteArray} {p a b : Nat} (h : s_by code p a) (h2 : s_by code (p + 1) b) : (Reader.u2 : Decoder Nat) code p = .ok (a * 256 + b, p + 1 + 1) := by
  have e := dz_go (fun hi => (do let lo ← Reader.u1; pure (hi * 256 + lo) : Decoder Nat)) (dz_u1 h)
  have e2 := dz_go (fun lo => (pure (a * 256 + lo) : Decoder Nat)) (dz_u1 h2)
  exact e.trans e2
theorem dz_s2 {code : ByteArray} {p a b : Nat} (h : s_by code p a) (h2 : s_by code (p + 1) b) : (Reader.s2 : Decoder Int) code p = .ok (Reader.signed 16 (a * 256 + b), p + 1 + 1) := by
  show (Functor.map (Reader.signed 16) (Reader.u2 : Decoder Nat)) code p = _
  have e := dz_go (fun x => (pure (Reader.signed 16 x) : Decoder Int)) (dz_u2 h h2)
  exact e
theorem dz_s1 {code : ByteArray} {p a : Nat} (h : s_by code p a) : (Reader.s1 : Decoder Int) code p = .ok (Reader.signed 8 a, p + 1) := by
  show (Functor.map (Reader.signed 8) (Reader.u1 : Decoder Nat)) code p = _
  have e := dz_go (fun x => (pure (Reader.signed 8 x) : Decoder Int)) (dz_u1 h)
  exact e
theorem s_by_of {code : ByteArray} {p b : Nat} (h : (code.data.toList.map UInt8.toNat)[p]? = some b) : s_by code p b := by
  rw [List.getElem?_map] at h
  cases hg : code.data.toList[p]? with
  | none => rw [hg] at h; cases h
  | some x =>
    rw [hg] at h
    cases h
    obtain ⟨hp, hx⟩ := List.getElem?_eq_some_iff.mp hg
    have hp2 : p < code.size := by
      have : code.data.toList.length = code.size := rfl
      omega
    refine ⟨hp2, ?_⟩
    have e : code[p] = code.data.toList[p] := rfl
    rw [e, hx]
theorem s_byF : ∀ (j : Nat) (L : List (List Nat)) (i b : Nat), L.dropLast.all (fun c => c.length == 64) = true → (L[j]?.bind fun c => c[i]?) = some b → L.flatten[64 * j + i]? = some b := by
  intro j
  induction j with
  | zero =>
    intro L i b _ h
    cases L with
    | nil => cases h
    | cons c r =>
      have h : c[i]? = some b := h
      have hi := (List.getElem?_eq_some_iff.mp h).1
      rw [List.flatten_cons, Nat.mul_zero, Nat.zero_add, List.getElem?_append_left hi]
      exact h
  | succ j ih =>
    intro L i b hl h
    cases L with
    | nil => cases h
    | cons c r =>
      cases r with
      | nil => simp at h
      | cons c2 r2 =>
        rw [List.dropLast_cons₂, List.all_cons, Bool.and_eq_true] at hl
        have hc : c.length = 64 := by simpa using hl.1
        have h : ((c2 :: r2)[j]?.bind fun c => c[i]?) = some b := by simpa using h
        rw [List.flatten_cons, List.getElem?_append_right (by omega), show 64 * (j + 1) + i - c.length = 64 * j + i by omega]
        exact ih (c2 :: r2) i b hl.2 h
theorem s_byC {code : ByteArray} {L : List (List Nat)} (h : code.data.toList.map UInt8.toNat = L.flatten) (hl : L.dropLast.all (fun c => c.length == 64) = true) (j i : Nat) {b : Nat} (hb : (L[j]?.bind fun c => c[i]?) = some b) : s_by code (64 * j + i) b := s_by_of (by rw [h]; exact s_byF j L i b hl hb)
theorem dz_2 {code : ByteArray} {pc : Nat} (h0 : s_by code pc 2) : decode code pc = .ok (.iconst (-1), 1) := dz_fin ((dz_go _ (dz_u1 h0)).trans rfl) rfl
theorem dz_3 {code : ByteArray} {pc : Nat} (h0 : s_by code pc 3) : decode code pc = .ok (.iconst 0, 1) := dz_fin ((dz_go _ (dz_u1 h0)).trans rfl) rfl
theorem dz_4 {code : ByteArray} {pc : Nat} (h0 : s_by code pc 4) : decode code pc = .ok (.iconst 1, 1) := dz_fin ((dz_go _ (dz_u1 h0)).trans rfl) rfl
theorem dz_5 {code : ByteArray} {pc : Nat} (h0 : s_by code pc 5) : decode code pc = .ok (.iconst 2, 1) := dz_fin ((dz_go _ (dz_u1 h0)).trans rfl) rfl
theorem dz_6 {code : ByteArray} {pc : Nat} (h0 : s_by code pc 6) : decode code pc = .ok (.iconst 3, 1) := dz_fin ((dz_go _ (dz_u1 h0)).trans rfl) rfl
theorem dz_7 {code : ByteArray} {pc : Nat} (h0 : s_by code pc 7) : decode code pc = .ok (.iconst 4, 1) := dz_fin ((dz_go _ (dz_u1 h0)).trans rfl) rfl
theorem dz_8 {code : ByteArray} {pc : Nat} (h0 : s_by code pc 8) : decode code pc = .ok (.iconst 5, 1) := dz_fin ((dz_go _ (dz_u1 h0)).trans rfl) rfl
theorem dz_9 {code : ByteArray} {pc : Nat} (h0 : s_by code pc 9) : decode code pc = .ok (.lconst 0, 1) := dz_fin ((dz_go _ (dz_u1 h0)).trans rfl) rfl
theorem dz_10 {code : ByteArray} {pc : Nat} (h0 : s_by code pc 10) : decode code pc = .ok (.lconst 1, 1) := dz_fin ((dz_go _ (dz_u1 h0)).trans rfl) rfl
theorem dz_16 {code : ByteArray} {pc a : Nat} (h0 : s_by code pc 16) (h1 : s_by code (pc + 1) a) {k : Int} (hk : Reader.signed 8 a = k) : decode code pc = .ok (.bipush k, 2) := by
  subst hk
  exact dz_fin ((dz_go _ (dz_u1 h0)).trans (dz_go (fun k => (pure (.bipush k) : Decoder Instr)) (dz_s1 h1))) rfl
theorem dz_17 {code : ByteArray} {pc a b : Nat} (h0 : s_by code pc 17) (h1 : s_by code (pc + 1) a) (h2 : s_by code (pc + 2) b) {k : Int} (hk : Reader.signed 16 (a * 256 + b) = k) : decode code pc = .ok (.sipush k, 3) := by
  subst hk
  exact dz_fin ((dz_go _ (dz_u1 h0)).trans (dz_go (fun k => (pure (.sipush k) : Decoder Instr)) (dz_s2 h1 h2))) rfl
theorem dz_18 {code : ByteArray} {pc a : Nat} (h0 : s_by code pc 18) (h1 : s_by code (pc + 1) a) : decode code pc = .ok (.ldc a, 2) := dz_fin ((dz_go _ (dz_u1 h0)).trans (dz_go (fun k => (pure (.ldc k) : Decoder Instr)) (dz_u1 h1))) rfl
theorem dz_19 {code : ByteArray} {pc a b : Nat} (h0 : s_by code pc 19) (h1 : s_by code (pc + 1) a) (h2 : s_by code (pc + 2) b) {k : Nat} (hk : a * 256 + b = k) : decode code pc = .ok (.ldc_w k, 3) := by
  subst hk
  exact dz_fin ((dz_go _ (dz_u1 h0)).trans (dz_go (fun k => (pure (.ldc_w k) : Decoder Instr)) (dz_u2 h1 h2))) rfl
theorem dz_20 {code : ByteArray} {pc a b : Nat} (h0 : s_by code pc 20) (h1 : s_by code (pc + 1) a) (h2 : s_by code (pc + 2) b) {k : Nat} (hk : a * 256 + b = k) : decode code pc = .ok (.ldc2_w k, 3) := by
  subst hk
  exact dz_fin ((dz_go _ (dz_u1 h0)).trans (dz_go (fun k => (pure (.ldc2_w k) : Decoder Instr)) (dz_u2 h1 h2))) rfl
theorem dz_21 {code : ByteArray} {pc a : Nat} (h0 : s_by code pc 21) (h1 : s_by code (pc + 1) a) : decode code pc = .ok (.iload a, 2) := dz_fin ((dz_go _ (dz_u1 h0)).trans (dz_go (fun k => (pure (.iload k) : Decoder Instr)) (dz_u1 h1))) rfl
theorem dz_22 {code : ByteArray} {pc a : Nat} (h0 : s_by code pc 22) (h1 : s_by code (pc + 1) a) : decode code pc = .ok (.lload a, 2) := dz_fin ((dz_go _ (dz_u1 h0)).trans (dz_go (fun k => (pure (.lload k) : Decoder Instr)) (dz_u1 h1))) rfl
theorem dz_25 {code : ByteArray} {pc a : Nat} (h0 : s_by code pc 25) (h1 : s_by code (pc + 1) a) : decode code pc = .ok (.aload a, 2) := dz_fin ((dz_go _ (dz_u1 h0)).trans (dz_go (fun k => (pure (.aload k) : Decoder Instr)) (dz_u1 h1))) rfl
theorem dz_26 {code : ByteArray} {pc : Nat} (h0 : s_by code pc 26) : decode code pc = .ok (.iload_n 0, 1) := dz_fin ((dz_go _ (dz_u1 h0)).trans rfl) rfl
theorem dz_27 {code : ByteArray} {pc : Nat} (h0 : s_by code pc 27) : decode code pc = .ok (.iload_n 1, 1) := dz_fin ((dz_go _ (dz_u1 h0)).trans rfl) rfl
theorem dz_28 {code : ByteArray} {pc : Nat} (h0 : s_by code pc 28) : decode code pc = .ok (.iload_n 2, 1) := dz_fin ((dz_go _ (dz_u1 h0)).trans rfl) rfl
theorem dz_29 {code : ByteArray} {pc : Nat} (h0 : s_by code pc 29) : decode code pc = .ok (.iload_n 3, 1) := dz_fin ((dz_go _ (dz_u1 h0)).trans rfl) rfl
theorem dz_30 {code : ByteArray} {pc : Nat} (h0 : s_by code pc 30) : decode code pc = .ok (.lload_n 0, 1) := dz_fin ((dz_go _ (dz_u1 h0)).trans rfl) rfl
theorem dz_31 {code : ByteArray} {pc : Nat} (h0 : s_by code pc 31) : decode code pc = .ok (.lload_n 1, 1) := dz_fin ((dz_go _ (dz_u1 h0)).trans rfl) rfl
theorem dz_32 {code : ByteArray} {pc : Nat} (h0 : s_by code pc 32) : decode code pc = .ok (.lload_n 2, 1) := dz_fin ((dz_go _ (dz_u1 h0)).trans rfl) rfl
theorem dz_33 {code : ByteArray} {pc : Nat} (h0 : s_by code pc 33) : decode code pc = .ok (.lload_n 3, 1) := dz_fin ((dz_go _ (dz_u1 h0)).trans rfl) rfl
theorem dz_42 {code : ByteArray} {pc : Nat} (h0 : s_by code pc 42) : decode code pc = .ok (.aload_n 0, 1) := dz_fin ((dz_go _ (dz_u1 h0)).trans rfl) rfl
theorem dz_43 {code : ByteArray} {pc : Nat} (h0 : s_by code pc 43) : decode code pc = .ok (.aload_n 1, 1) := dz_fin ((dz_go _ (dz_u1 h0)).trans rfl) rfl
theorem dz_44 {code : ByteArray} {pc : Nat} (h0 : s_by code pc 44) : decode code pc = .ok (.aload_n 2, 1) := dz_fin ((dz_go _ (dz_u1 h0)).trans rfl) rfl
theorem dz_45 {code : ByteArray} {pc : Nat} (h0 : s_by code pc 45) : decode code pc = .ok (.aload_n 3, 1) := dz_fin ((dz_go _ (dz_u1 h0)).trans rfl) rfl
theorem dz_46 {code : ByteArray} {pc : Nat} (h0 : s_by code pc 46) : decode code pc = .ok (.iaload, 1) := dz_fin ((dz_go _ (dz_u1 h0)).trans rfl) rfl
theorem dz_47 {code : ByteArray} {pc : Nat} (h0 : s_by code pc 47) : decode code pc = .ok (.laload, 1) := dz_fin ((dz_go _ (dz_u1 h0)).trans rfl) rfl
theorem dz_51 {code : ByteArray} {pc : Nat} (h0 : s_by code pc 51) : decode code pc = .ok (.baload, 1) := dz_fin ((dz_go _ (dz_u1 h0)).trans rfl) rfl
theorem dz_54 {code : ByteArray} {pc a : Nat} (h0 : s_by code pc 54) (h1 : s_by code (pc + 1) a) : decode code pc = .ok (.istore a, 2) := dz_fin ((dz_go _ (dz_u1 h0)).trans (dz_go (fun k => (pure (.istore k) : Decoder Instr)) (dz_u1 h1))) rfl
theorem dz_55 {code : ByteArray} {pc a : Nat} (h0 : s_by code pc 55) (h1 : s_by code (pc + 1) a) : decode code pc = .ok (.lstore a, 2) := dz_fin ((dz_go _ (dz_u1 h0)).trans (dz_go (fun k => (pure (.lstore k) : Decoder Instr)) (dz_u1 h1))) rfl
theorem dz_58 {code : ByteArray} {pc a : Nat} (h0 : s_by code pc 58) (h1 : s_by code (pc + 1) a) : decode code pc = .ok (.astore a, 2) := dz_fin ((dz_go _ (dz_u1 h0)).trans (dz_go (fun k => (pure (.astore k) : Decoder Instr)) (dz_u1 h1))) rfl
theorem dz_59 {code : ByteArray} {pc : Nat} (h0 : s_by code pc 59) : decode code pc = .ok (.istore_n 0, 1) := dz_fin ((dz_go _ (dz_u1 h0)).trans rfl) rfl
theorem dz_60 {code : ByteArray} {pc : Nat} (h0 : s_by code pc 60) : decode code pc = .ok (.istore_n 1, 1) := dz_fin ((dz_go _ (dz_u1 h0)).trans rfl) rfl
theorem dz_61 {code : ByteArray} {pc : Nat} (h0 : s_by code pc 61) : decode code pc = .ok (.istore_n 2, 1) := dz_fin ((dz_go _ (dz_u1 h0)).trans rfl) rfl
theorem dz_62 {code : ByteArray} {pc : Nat} (h0 : s_by code pc 62) : decode code pc = .ok (.istore_n 3, 1) := dz_fin ((dz_go _ (dz_u1 h0)).trans rfl) rfl
theorem dz_63 {code : ByteArray} {pc : Nat} (h0 : s_by code pc 63) : decode code pc = .ok (.lstore_n 0, 1) := dz_fin ((dz_go _ (dz_u1 h0)).trans rfl) rfl
theorem dz_64 {code : ByteArray} {pc : Nat} (h0 : s_by code pc 64) : decode code pc = .ok (.lstore_n 1, 1) := dz_fin ((dz_go _ (dz_u1 h0)).trans rfl) rfl
theorem dz_65 {code : ByteArray} {pc : Nat} (h0 : s_by code pc 65) : decode code pc = .ok (.lstore_n 2, 1) := dz_fin ((dz_go _ (dz_u1 h0)).trans rfl) rfl
theorem dz_66 {code : ByteArray} {pc : Nat} (h0 : s_by code pc 66) : decode code pc = .ok (.lstore_n 3, 1) := dz_fin ((dz_go _ (dz_u1 h0)).trans rfl) rfl
theorem dz_76 {code : ByteArray} {pc : Nat} (h0 : s_by code pc 76) : decode code pc = .ok (.astore_n 1, 1) := dz_fin ((dz_go _ (dz_u1 h0)).trans rfl) rfl
theorem dz_77 {code : ByteArray} {pc : Nat} (h0 : s_by code pc 77) : decode code pc = .ok (.astore_n 2, 1) := dz_fin ((dz_go _ (dz_u1 h0)).trans rfl) rfl
theorem dz_78 {code : ByteArray} {pc : Nat} (h0 : s_by code pc 78) : decode code pc = .ok (.astore_n 3, 1) := dz_fin ((dz_go _ (dz_u1 h0)).trans rfl) rfl
theorem dz_79 {code : ByteArray} {pc : Nat} (h0 : s_by code pc 79) : decode code pc = .ok (.iastore, 1) := dz_fin ((dz_go _ (dz_u1 h0)).trans rfl) rfl
theorem dz_80 {code : ByteArray} {pc : Nat} (h0 : s_by code pc 80) : decode code pc = .ok (.lastore, 1) := dz_fin ((dz_go _ (dz_u1 h0)).trans rfl) rfl
theorem dz_84 {code : ByteArray} {pc : Nat} (h0 : s_by code pc 84) : decode code pc = .ok (.bastore, 1) := dz_fin ((dz_go _ (dz_u1 h0)).trans rfl) rfl
theorem dz_87 {code : ByteArray} {pc : Nat} (h0 : s_by code pc 87) : decode code pc = .ok (.pop, 1) := dz_fin ((dz_go _ (dz_u1 h0)).trans rfl) rfl
theorem dz_89 {code : ByteArray} {pc : Nat} (h0 : s_by code pc 89) : decode code pc = .ok (.dup, 1) := dz_fin ((dz_go _ (dz_u1 h0)).trans rfl) rfl
theorem dz_90 {code : ByteArray} {pc : Nat} (h0 : s_by code pc 90) : decode code pc = .ok (.dup_x1, 1) := dz_fin ((dz_go _ (dz_u1 h0)).trans rfl) rfl
theorem dz_92 {code : ByteArray} {pc : Nat} (h0 : s_by code pc 92) : decode code pc = .ok (.dup2, 1) := dz_fin ((dz_go _ (dz_u1 h0)).trans rfl) rfl
theorem dz_96 {code : ByteArray} {pc : Nat} (h0 : s_by code pc 96) : decode code pc = .ok (.iadd, 1) := dz_fin ((dz_go _ (dz_u1 h0)).trans rfl) rfl
theorem dz_97 {code : ByteArray} {pc : Nat} (h0 : s_by code pc 97) : decode code pc = .ok (.ladd, 1) := dz_fin ((dz_go _ (dz_u1 h0)).trans rfl) rfl
theorem dz_100 {code : ByteArray} {pc : Nat} (h0 : s_by code pc 100) : decode code pc = .ok (.isub, 1) := dz_fin ((dz_go _ (dz_u1 h0)).trans rfl) rfl
theorem dz_101 {code : ByteArray} {pc : Nat} (h0 : s_by code pc 101) : decode code pc = .ok (.lsub, 1) := dz_fin ((dz_go _ (dz_u1 h0)).trans rfl) rfl
theorem dz_104 {code : ByteArray} {pc : Nat} (h0 : s_by code pc 104) : decode code pc = .ok (.imul, 1) := dz_fin ((dz_go _ (dz_u1 h0)).trans rfl) rfl
theorem dz_108 {code : ByteArray} {pc : Nat} (h0 : s_by code pc 108) : decode code pc = .ok (.idiv, 1) := dz_fin ((dz_go _ (dz_u1 h0)).trans rfl) rfl
theorem dz_112 {code : ByteArray} {pc : Nat} (h0 : s_by code pc 112) : decode code pc = .ok (.irem, 1) := dz_fin ((dz_go _ (dz_u1 h0)).trans rfl) rfl
theorem dz_116 {code : ByteArray} {pc : Nat} (h0 : s_by code pc 116) : decode code pc = .ok (.ineg, 1) := dz_fin ((dz_go _ (dz_u1 h0)).trans rfl) rfl
theorem dz_120 {code : ByteArray} {pc : Nat} (h0 : s_by code pc 120) : decode code pc = .ok (.ishl, 1) := dz_fin ((dz_go _ (dz_u1 h0)).trans rfl) rfl
theorem dz_121 {code : ByteArray} {pc : Nat} (h0 : s_by code pc 121) : decode code pc = .ok (.lshl, 1) := dz_fin ((dz_go _ (dz_u1 h0)).trans rfl) rfl
theorem dz_122 {code : ByteArray} {pc : Nat} (h0 : s_by code pc 122) : decode code pc = .ok (.ishr, 1) := dz_fin ((dz_go _ (dz_u1 h0)).trans rfl) rfl
theorem dz_123 {code : ByteArray} {pc : Nat} (h0 : s_by code pc 123) : decode code pc = .ok (.lshr, 1) := dz_fin ((dz_go _ (dz_u1 h0)).trans rfl) rfl
theorem dz_124 {code : ByteArray} {pc : Nat} (h0 : s_by code pc 124) : decode code pc = .ok (.iushr, 1) := dz_fin ((dz_go _ (dz_u1 h0)).trans rfl) rfl
theorem dz_125 {code : ByteArray} {pc : Nat} (h0 : s_by code pc 125) : decode code pc = .ok (.lushr, 1) := dz_fin ((dz_go _ (dz_u1 h0)).trans rfl) rfl
theorem dz_126 {code : ByteArray} {pc : Nat} (h0 : s_by code pc 126) : decode code pc = .ok (.iand, 1) := dz_fin ((dz_go _ (dz_u1 h0)).trans rfl) rfl
theorem dz_127 {code : ByteArray} {pc : Nat} (h0 : s_by code pc 127) : decode code pc = .ok (.land, 1) := dz_fin ((dz_go _ (dz_u1 h0)).trans rfl) rfl
theorem dz_128 {code : ByteArray} {pc : Nat} (h0 : s_by code pc 128) : decode code pc = .ok (.ior, 1) := dz_fin ((dz_go _ (dz_u1 h0)).trans rfl) rfl
theorem dz_129 {code : ByteArray} {pc : Nat} (h0 : s_by code pc 129) : decode code pc = .ok (.lor, 1) := dz_fin ((dz_go _ (dz_u1 h0)).trans rfl) rfl
theorem dz_130 {code : ByteArray} {pc : Nat} (h0 : s_by code pc 130) : decode code pc = .ok (.ixor, 1) := dz_fin ((dz_go _ (dz_u1 h0)).trans rfl) rfl
theorem dz_131 {code : ByteArray} {pc : Nat} (h0 : s_by code pc 131) : decode code pc = .ok (.lxor, 1) := dz_fin ((dz_go _ (dz_u1 h0)).trans rfl) rfl
theorem dz_132 {code : ByteArray} {pc a b : Nat} (h0 : s_by code pc 132) (h1 : s_by code (pc + 1) a) (h2 : s_by code (pc + 2) b) {k : Int} (hk : Reader.signed 8 b = k) : decode code pc = .ok (.iinc a k, 3) := by
  subst hk
  exact dz_fin ((dz_go _ (dz_u1 h0)).trans ((dz_go (fun i => (do let k ← Reader.s1; pure (.iinc i k) : Decoder Instr)) (dz_u1 h1)).trans (dz_go (fun k => (pure (.iinc a k) : Decoder Instr)) (dz_s1 h2)))) rfl
theorem dz_133 {code : ByteArray} {pc : Nat} (h0 : s_by code pc 133) : decode code pc = .ok (.i2l, 1) := dz_fin ((dz_go _ (dz_u1 h0)).trans rfl) rfl
theorem dz_136 {code : ByteArray} {pc : Nat} (h0 : s_by code pc 136) : decode code pc = .ok (.l2i, 1) := dz_fin ((dz_go _ (dz_u1 h0)).trans rfl) rfl
theorem dz_145 {code : ByteArray} {pc : Nat} (h0 : s_by code pc 145) : decode code pc = .ok (.i2b, 1) := dz_fin ((dz_go _ (dz_u1 h0)).trans rfl) rfl
theorem dz_146 {code : ByteArray} {pc : Nat} (h0 : s_by code pc 146) : decode code pc = .ok (.i2c, 1) := dz_fin ((dz_go _ (dz_u1 h0)).trans rfl) rfl
theorem dz_148 {code : ByteArray} {pc : Nat} (h0 : s_by code pc 148) : decode code pc = .ok (.lcmp, 1) := dz_fin ((dz_go _ (dz_u1 h0)).trans rfl) rfl
theorem dz_153 {code : ByteArray} {pc a b : Nat} (h0 : s_by code pc 153) (h1 : s_by code (pc + 1) a) (h2 : s_by code (pc + 2) b) {k : Int} (hk : Reader.signed 16 (a * 256 + b) = k) : decode code pc = .ok (.ifCond .eq k, 3) := by
  subst hk
  exact dz_fin ((dz_go _ (dz_u1 h0)).trans (dz_go (fun k => (pure (.ifCond .eq k) : Decoder Instr)) (dz_s2 h1 h2))) rfl
theorem dz_154 {code : ByteArray} {pc a b : Nat} (h0 : s_by code pc 154) (h1 : s_by code (pc + 1) a) (h2 : s_by code (pc + 2) b) {k : Int} (hk : Reader.signed 16 (a * 256 + b) = k) : decode code pc = .ok (.ifCond .ne k, 3) := by
  subst hk
  exact dz_fin ((dz_go _ (dz_u1 h0)).trans (dz_go (fun k => (pure (.ifCond .ne k) : Decoder Instr)) (dz_s2 h1 h2))) rfl
theorem dz_155 {code : ByteArray} {pc a b : Nat} (h0 : s_by code pc 155) (h1 : s_by code (pc + 1) a) (h2 : s_by code (pc + 2) b) {k : Int} (hk : Reader.signed 16 (a * 256 + b) = k) : decode code pc = .ok (.ifCond .lt k, 3) := by
  subst hk
  exact dz_fin ((dz_go _ (dz_u1 h0)).trans (dz_go (fun k => (pure (.ifCond .lt k) : Decoder Instr)) (dz_s2 h1 h2))) rfl
theorem dz_156 {code : ByteArray} {pc a b : Nat} (h0 : s_by code pc 156) (h1 : s_by code (pc + 1) a) (h2 : s_by code (pc + 2) b) {k : Int} (hk : Reader.signed 16 (a * 256 + b) = k) : decode code pc = .ok (.ifCond .ge k, 3) := by
  subst hk
  exact dz_fin ((dz_go _ (dz_u1 h0)).trans (dz_go (fun k => (pure (.ifCond .ge k) : Decoder Instr)) (dz_s2 h1 h2))) rfl
theorem dz_157 {code : ByteArray} {pc a b : Nat} (h0 : s_by code pc 157) (h1 : s_by code (pc + 1) a) (h2 : s_by code (pc + 2) b) {k : Int} (hk : Reader.signed 16 (a * 256 + b) = k) : decode code pc = .ok (.ifCond .gt k, 3) := by
  subst hk
  exact dz_fin ((dz_go _ (dz_u1 h0)).trans (dz_go (fun k => (pure (.ifCond .gt k) : Decoder Instr)) (dz_s2 h1 h2))) rfl
theorem dz_158 {code : ByteArray} {pc a b : Nat} (h0 : s_by code pc 158) (h1 : s_by code (pc + 1) a) (h2 : s_by code (pc + 2) b) {k : Int} (hk : Reader.signed 16 (a * 256 + b) = k) : decode code pc = .ok (.ifCond .le k, 3) := by
  subst hk
  exact dz_fin ((dz_go _ (dz_u1 h0)).trans (dz_go (fun k => (pure (.ifCond .le k) : Decoder Instr)) (dz_s2 h1 h2))) rfl
theorem dz_159 {code : ByteArray} {pc a b : Nat} (h0 : s_by code pc 159) (h1 : s_by code (pc + 1) a) (h2 : s_by code (pc + 2) b) {k : Int} (hk : Reader.signed 16 (a * 256 + b) = k) : decode code pc = .ok (.if_icmp .eq k, 3) := by
  subst hk
  exact dz_fin ((dz_go _ (dz_u1 h0)).trans (dz_go (fun k => (pure (.if_icmp .eq k) : Decoder Instr)) (dz_s2 h1 h2))) rfl
theorem dz_160 {code : ByteArray} {pc a b : Nat} (h0 : s_by code pc 160) (h1 : s_by code (pc + 1) a) (h2 : s_by code (pc + 2) b) {k : Int} (hk : Reader.signed 16 (a * 256 + b) = k) : decode code pc = .ok (.if_icmp .ne k, 3) := by
  subst hk
  exact dz_fin ((dz_go _ (dz_u1 h0)).trans (dz_go (fun k => (pure (.if_icmp .ne k) : Decoder Instr)) (dz_s2 h1 h2))) rfl
theorem dz_161 {code : ByteArray} {pc a b : Nat} (h0 : s_by code pc 161) (h1 : s_by code (pc + 1) a) (h2 : s_by code (pc + 2) b) {k : Int} (hk : Reader.signed 16 (a * 256 + b) = k) : decode code pc = .ok (.if_icmp .lt k, 3) := by
  subst hk
  exact dz_fin ((dz_go _ (dz_u1 h0)).trans (dz_go (fun k => (pure (.if_icmp .lt k) : Decoder Instr)) (dz_s2 h1 h2))) rfl
theorem dz_162 {code : ByteArray} {pc a b : Nat} (h0 : s_by code pc 162) (h1 : s_by code (pc + 1) a) (h2 : s_by code (pc + 2) b) {k : Int} (hk : Reader.signed 16 (a * 256 + b) = k) : decode code pc = .ok (.if_icmp .ge k, 3) := by
  subst hk
  exact dz_fin ((dz_go _ (dz_u1 h0)).trans (dz_go (fun k => (pure (.if_icmp .ge k) : Decoder Instr)) (dz_s2 h1 h2))) rfl
theorem dz_163 {code : ByteArray} {pc a b : Nat} (h0 : s_by code pc 163) (h1 : s_by code (pc + 1) a) (h2 : s_by code (pc + 2) b) {k : Int} (hk : Reader.signed 16 (a * 256 + b) = k) : decode code pc = .ok (.if_icmp .gt k, 3) := by
  subst hk
  exact dz_fin ((dz_go _ (dz_u1 h0)).trans (dz_go (fun k => (pure (.if_icmp .gt k) : Decoder Instr)) (dz_s2 h1 h2))) rfl
theorem dz_164 {code : ByteArray} {pc a b : Nat} (h0 : s_by code pc 164) (h1 : s_by code (pc + 1) a) (h2 : s_by code (pc + 2) b) {k : Int} (hk : Reader.signed 16 (a * 256 + b) = k) : decode code pc = .ok (.if_icmp .le k, 3) := by
  subst hk
  exact dz_fin ((dz_go _ (dz_u1 h0)).trans (dz_go (fun k => (pure (.if_icmp .le k) : Decoder Instr)) (dz_s2 h1 h2))) rfl
theorem dz_167 {code : ByteArray} {pc a b : Nat} (h0 : s_by code pc 167) (h1 : s_by code (pc + 1) a) (h2 : s_by code (pc + 2) b) {k : Int} (hk : Reader.signed 16 (a * 256 + b) = k) : decode code pc = .ok (.goto k, 3) := by
  subst hk
  exact dz_fin ((dz_go _ (dz_u1 h0)).trans (dz_go (fun k => (pure (.goto k) : Decoder Instr)) (dz_s2 h1 h2))) rfl
theorem dz_172 {code : ByteArray} {pc : Nat} (h0 : s_by code pc 172) : decode code pc = .ok (.ireturn, 1) := dz_fin ((dz_go _ (dz_u1 h0)).trans rfl) rfl
theorem dz_173 {code : ByteArray} {pc : Nat} (h0 : s_by code pc 173) : decode code pc = .ok (.lreturn, 1) := dz_fin ((dz_go _ (dz_u1 h0)).trans rfl) rfl
theorem dz_176 {code : ByteArray} {pc : Nat} (h0 : s_by code pc 176) : decode code pc = .ok (.areturn, 1) := dz_fin ((dz_go _ (dz_u1 h0)).trans rfl) rfl
theorem dz_177 {code : ByteArray} {pc : Nat} (h0 : s_by code pc 177) : decode code pc = .ok (.return_, 1) := dz_fin ((dz_go _ (dz_u1 h0)).trans rfl) rfl
theorem dz_178 {code : ByteArray} {pc a b : Nat} (h0 : s_by code pc 178) (h1 : s_by code (pc + 1) a) (h2 : s_by code (pc + 2) b) {k : Nat} (hk : a * 256 + b = k) : decode code pc = .ok (.getstatic k, 3) := by
  subst hk
  exact dz_fin ((dz_go _ (dz_u1 h0)).trans (dz_go (fun k => (pure (.getstatic k) : Decoder Instr)) (dz_u2 h1 h2))) rfl
theorem dz_180 {code : ByteArray} {pc a b : Nat} (h0 : s_by code pc 180) (h1 : s_by code (pc + 1) a) (h2 : s_by code (pc + 2) b) {k : Nat} (hk : a * 256 + b = k) : decode code pc = .ok (.getfield k, 3) := by
  subst hk
  exact dz_fin ((dz_go _ (dz_u1 h0)).trans (dz_go (fun k => (pure (.getfield k) : Decoder Instr)) (dz_u2 h1 h2))) rfl
theorem dz_181 {code : ByteArray} {pc a b : Nat} (h0 : s_by code pc 181) (h1 : s_by code (pc + 1) a) (h2 : s_by code (pc + 2) b) {k : Nat} (hk : a * 256 + b = k) : decode code pc = .ok (.putfield k, 3) := by
  subst hk
  exact dz_fin ((dz_go _ (dz_u1 h0)).trans (dz_go (fun k => (pure (.putfield k) : Decoder Instr)) (dz_u2 h1 h2))) rfl
theorem dz_182 {code : ByteArray} {pc a b : Nat} (h0 : s_by code pc 182) (h1 : s_by code (pc + 1) a) (h2 : s_by code (pc + 2) b) {k : Nat} (hk : a * 256 + b = k) : decode code pc = .ok (.invokevirtual k, 3) := by
  subst hk
  exact dz_fin ((dz_go _ (dz_u1 h0)).trans (dz_go (fun k => (pure (.invokevirtual k) : Decoder Instr)) (dz_u2 h1 h2))) rfl
theorem dz_183 {code : ByteArray} {pc a b : Nat} (h0 : s_by code pc 183) (h1 : s_by code (pc + 1) a) (h2 : s_by code (pc + 2) b) {k : Nat} (hk : a * 256 + b = k) : decode code pc = .ok (.invokespecial k, 3) := by
  subst hk
  exact dz_fin ((dz_go _ (dz_u1 h0)).trans (dz_go (fun k => (pure (.invokespecial k) : Decoder Instr)) (dz_u2 h1 h2))) rfl
theorem dz_184 {code : ByteArray} {pc a b : Nat} (h0 : s_by code pc 184) (h1 : s_by code (pc + 1) a) (h2 : s_by code (pc + 2) b) {k : Nat} (hk : a * 256 + b = k) : decode code pc = .ok (.invokestatic k, 3) := by
  subst hk
  exact dz_fin ((dz_go _ (dz_u1 h0)).trans (dz_go (fun k => (pure (.invokestatic k) : Decoder Instr)) (dz_u2 h1 h2))) rfl
theorem dz_187 {code : ByteArray} {pc a b : Nat} (h0 : s_by code pc 187) (h1 : s_by code (pc + 1) a) (h2 : s_by code (pc + 2) b) {k : Nat} (hk : a * 256 + b = k) : decode code pc = .ok (.new k, 3) := by
  subst hk
  exact dz_fin ((dz_go _ (dz_u1 h0)).trans (dz_go (fun k => (pure (.new k) : Decoder Instr)) (dz_u2 h1 h2))) rfl
theorem dz_190 {code : ByteArray} {pc : Nat} (h0 : s_by code pc 190) : decode code pc = .ok (.arraylength, 1) := dz_fin ((dz_go _ (dz_u1 h0)).trans rfl) rfl
theorem dz_191 {code : ByteArray} {pc : Nat} (h0 : s_by code pc 191) : decode code pc = .ok (.athrow, 1) := dz_fin ((dz_go _ (dz_u1 h0)).trans rfl) rfl
theorem dz_192 {code : ByteArray} {pc a b : Nat} (h0 : s_by code pc 192) (h1 : s_by code (pc + 1) a) (h2 : s_by code (pc + 2) b) {k : Nat} (hk : a * 256 + b = k) : decode code pc = .ok (.checkcast k, 3) := by
  subst hk
  exact dz_fin ((dz_go _ (dz_u1 h0)).trans (dz_go (fun k => (pure (.checkcast k) : Decoder Instr)) (dz_u2 h1 h2))) rfl
