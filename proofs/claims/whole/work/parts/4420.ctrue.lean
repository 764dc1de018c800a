/-! truth in the class: 64 worlds at a time -/
def colL (j : Nat) : Int64 := [(-6148914691236517206 : Int64), -3689348814741910324, -1085102592571150096, -71777214294589696, -281470681808896, -4294967296].getD j 0
theorem colL_b : ∀ j, j < 6 → ∀ i, i < 64 → bl (colL j) i = i.testBit j := by decide +kernel
/-- what the constants hold: COLUMNS -/
def KC (P : sP) : Prop := P.2.2 1 < P.2.1 ∧ ∃ f : Nat → Int64, P.1 (P.2.2 1) = some (.inl (5, 6, .inr (.inl f))) ∧ ∀ j, j < 6 → f j = colL j
section M64
variable {p q : Nat → Prop}
theorem bl_mkb {i : Nat} (hi : i < 64) : bl (mk64 p 64) i = @decide (p i) (Classical.propDecidable _) := by
  have := bl_mk (p := p) (k := 64) (i := i) (by omega) hi
  by_cases h : p i
  · rw [this.mpr ⟨hi, h⟩]; exact (@decide_eq_true _ (Classical.propDecidable _) h).symm
  · rw [@decide_eq_false _ (Classical.propDecidable _) h, ← Bool.not_eq_true]; exact fun z => h (this.mp z).2
theorem m64_not : mk64 p 64 ^^^ (-1) = mk64 (fun i => ¬ p i) 64 := by
  apply bl_ext
  intro i hi
  rw [bl_not _ hi, bl_mkb hi, bl_mkb hi]
  by_cases g : p i <;> simp [g]
theorem m64_and : mk64 p 64 &&& mk64 q 64 = mk64 (fun i => p i ∧ q i) 64 := by
  apply bl_ext
  intro i hi
  rw [bl_and, bl_mkb hi, bl_mkb hi, bl_mkb hi]
  by_cases g : p i <;> by_cases g' : q i <;> simp [g, g']
theorem m64_or : mk64 p 64 ||| mk64 q 64 = mk64 (fun i => p i ∨ q i) 64 := by
  apply bl_ext
  intro i hi
  rw [bl_or, bl_mkb hi, bl_mkb hi, bl_mkb hi]
  by_cases g : p i <;> by_cases g' : q i <;> simp [g, g']
theorem m64_F (h : ∀ i, i < 64 → ¬ p i) : mk64 p 64 = 0 := by
  apply bl_ext
  intro i hi
  rw [bl_0, ← Bool.not_eq_true, bl_mk (by omega) hi]
  exact fun z => h i hi z.2
theorem m64_T (h : ∀ i, i < 64 → p i) : mk64 p 64 = -1 := by
  apply bl_ext
  intro i hi
  rw [bl_m1 i hi, bl_mk (by omega) hi]
  exact ⟨hi, h i hi⟩
theorem m64_eq {x : Int64} (h : ∀ i, i < 64 → (bl x i = true ↔ p i)) : x = mk64 p 64 := by
  apply bl_ext
  intro i hi
  rw [Bool.eq_iff_iff, bl_mk (by omega) hi, h i hi]
  exact ⟨fun z => ⟨hi, z⟩, fun z => z.2⟩
end M64
theorem tb_lo {wo i b : Nat} (hi : i < 64) (hb : b < 6) : (64 * wo + i).testBit b = i.testBit b := by
  have := Nat.testBit_two_pow_mul_add wo (i := 6) hi b
  rw [if_pos hb] at this
  exact this
theorem tb_hi {wo i b : Nat} (hi : i < 64) (hb : ¬ b < 6) : (64 * wo + i).testBit b = wo.testBit (b - 6) := by
  have := Nat.testBit_two_pow_mul_add wo (i := 6) hi b
  rw [if_neg hb] at this
  exact this
section CT
variable {P : sP} {w : sW} {ex : Nat → Option sC} {n sl : Nat} {D U : Nat} {nd : Nat → List Nat}
theorem c_column {b wo : Nat} (hK : KC P) (hb : b < 32) : F_X2_column (mI b) (mI wo) (hp P w ex n sl) = some (mk64 (fun i => (64 * wo + i).testBit b = true) 64, hp P w ex n sl) := by
  obtain ⟨ha, f, hf, hv⟩ := hK
  have c0 : (hp P w ex n sl).1 (P.2.2 1) = some (.inl (5, 6, .inr (.inl f))) := by rw [hp_ro ha]; exact hf
  have e0 : (hp P w ex n sl).2.2.2 1 = P.2.2 1 := rfl
  have l0 : s_len (hp P w ex n sl) (P.2.2 1) = some (mI 6) := by
    unfold s_len
    rw [c0]
    rfl
  rw [E_X2_column, E_X2_column_0, if_neg (mI_0 (by omega)), e0, l0, ob]
  by_cases g : b < 6
  · have a0 : s_al (hp P w ex n sl) (P.2.2 1) (mI b) = some (colL b) := by
      unfold s_al
      rw [c0]
      dsimp only
      rw [if_pos ⟨Or.inr rfl, mI_out g (by decide)⟩, mI_nat (by omega), hv b g]
    rw [if_neg (by rw [nle (by decide) (by omega)]; omega), a0, ob]
    refine congrArg (fun z => some (z, hp P w ex n sl)) (m64_eq fun i hi => ?_)
    rw [colL_b b g i hi, tb_lo hi g]
  · rw [if_pos (by rw [nle (by decide) (by omega)]; omega), E_X2_column_18, e0, l0, ob, nsub (by omega)]
    by_cases g1 : wo.testBit (b - 6) = true
    · rw [if_neg (by rw [t32 (by omega), bt_mI (by omega), g1]; decide)]
      exact congrArg (fun z => some (z, hp P w ex n sl)) (m64_T fun i hi => by rw [tb_hi hi g]; exact g1).symm
    · rw [if_pos (by rw [t32 (by omega), bt_mI (by omega)]; exact Bool.not_eq_true _ ▸ g1)]
      exact congrArg (fun z => some (z, hp P w ex n sl)) (m64_F fun i hi => by rw [tb_hi hi g]; exact g1).symm
def cls (e : Nat) (l : List Nat) : Prop := if e = 0 then plain l else clo l
theorem clo_not {a : List Nat} (h : clo (12 :: a)) : clo a := by
  obtain ⟨d, hd⟩ := h
  cases d with
  | zero => cases hd
  | succ d =>
    rcases hd with ⟨s, h1, h2, h3, h4⟩ | ⟨b, h1, h2, h3⟩ | ⟨s, b, c, h1, h2, h3, h4, h5, h6⟩ | ⟨s, b, h1, h2, h3, -⟩
    · have := (List.cons.inj h4).1; subst this; exact absurd h1 (by decide)
    · rw [(List.cons.inj h2).2]; exact ⟨d, h3⟩
    · have := (List.cons.inj h4).1; subst this; exact absurd h1 (by decide)
    · have := (List.cons.inj h3).1; omega
theorem clo_two {s : Nat} {a b : List Nat} (hs : ar s = 2) (ha : wff a) (hb : wff b) (h : clo (s :: (a ++ b))) : clo a ∧ clo b := by
  obtain ⟨d, hd⟩ := h
  cases d with
  | zero => cases hd
  | succ d =>
    rcases hd with ⟨s', h1, h2, h3, h4⟩ | ⟨b', h1, h2, h3⟩ | ⟨s', b', c', h1, h2, h3, h4, h5, h6⟩ | ⟨s', b', h1, h2, h3, -⟩
    · have := (List.cons.inj h4).1; subst this; omega
    · have := (List.cons.inj h2).1; subst this; exact absurd hs (by decide)
    · have := wff_uni ha h2 (List.cons.inj h4).2
      rw [this.1, this.2]
      exact ⟨⟨d, h5⟩, ⟨d, h6⟩⟩
    · have := (List.cons.inj h3).1; rcases h1 with rfl | rfl <;> subst this <;> exact absurd hs (by decide)
theorem clo_bind {s : Nat} {a : List Nat} (hs : s = 16 ∨ s = 17) (h : clo (s :: a)) : ∀ c ∈ a, c ≠ 16 ∧ c ≠ 17 := by
  obtain ⟨d, hd⟩ := h
  cases d with
  | zero => cases hd
  | succ d =>
    rcases hd with ⟨s', h1, h2, h3, h4⟩ | ⟨b', h1, h2, h3⟩ | ⟨s', b', c', h1, h2, h3, h4, h5, h6⟩ | ⟨s', b', h1, h2, h3, h4⟩
    · have := (List.cons.inj h4).1; rcases hs with rfl | rfl <;> subst this <;> exact absurd h1 (by decide)
    · have := (List.cons.inj h2).1; omega
    · have := (List.cons.inj h4).1; rcases hs with rfl | rfl <;> subst this <;> exact absurd h1 (by decide)
    · rw [(List.cons.inj h3).2]; exact h4
theorem clo_atom {s : Nat} (hs : ar s = 0) (h : clo [s]) : s ≠ 4 ∧ s ≠ 5 := by
  obtain ⟨d, hd⟩ := h
  cases d with
  | zero => cases hd
  | succ d =>
    rcases hd with ⟨s', h1, h2, h3, h4⟩ | ⟨b', h1, h2, h3⟩ | ⟨s', b', c', h1, h2, h3, h4, h5, h6⟩ | ⟨s', b', h1, h2, h3, h4⟩
    · rw [(List.cons.inj h4).1]; exact ⟨h2, h3⟩
    · have := (List.cons.inj h2).1; subst this; exact absurd hs (by decide)
    · have := (List.cons.inj h4).1; subst this; omega
    · have := (List.cons.inj h3).1; rcases h1 with rfl | rfl <;> subst this <;> exact absurd hs (by decide)
theorem cls_not {e : Nat} {a : List Nat} (h : cls e (12 :: a)) : cls e a := by
  unfold cls at h ⊢
  by_cases g : e = 0
  · rw [if_pos g] at h ⊢; exact fun s hs => h s (List.mem_cons_of_mem _ hs)
  · rw [if_neg g] at h ⊢; exact clo_not h
theorem cls_two {e s : Nat} {a b : List Nat} (hs : ar s = 2) (ha : wff a) (hb : wff b) (h : cls e (s :: (a ++ b))) : cls e a ∧ cls e b := by
  unfold cls at h ⊢
  by_cases g : e = 0
  · rw [if_pos g] at h ⊢
    rw [if_pos g]
    exact ⟨fun s hs => h s (List.mem_cons_of_mem _ (List.mem_append_left _ hs)), fun s hs => h s (List.mem_cons_of_mem _ (List.mem_append_right _ hs))⟩
  · rw [if_neg g] at h ⊢
    rw [if_neg g]
    exact clo_two hs ha hb h
theorem cls_atom {e s : Nat} (hs : ar s = 0) (h : cls e [s]) : s ≠ 4 ∧ s ≠ 5 := by
  unfold cls at h
  by_cases g : e = 0
  · rw [if_pos g] at h
    have := h s List.mem_cons_self
    exact ⟨this.1, this.2.1⟩
  · rw [if_neg g] at h
    exact clo_atom hs h
noncomputable abbrev row (D wo : Nat) (l : List Nat) : Int64 := mk64 (fun b => val D (64 * wo + b) l 0) 64
theorem plain_ins {u : Nat} (hu : u < 3) {a : List Nat} (h : ∀ c ∈ a, c ≠ 16 ∧ c ≠ 17) : plain (a.map (ins (some u))) := by
  intro s hs
  obtain ⟨c, hc, rfl⟩ := List.mem_map.mp hs
  have := h c hc
  show (if c = 4 then 6 + u else if c = 5 then 9 + u else c) ≠ 4 ∧ _
  by_cases g4 : c = 4
  · show (if c = 4 then 6 + u else if c = 5 then 9 + u else c) ≠ 4 ∧ (if c = 4 then 6 + u else if c = 5 then 9 + u else c) ≠ 5 ∧ (if c = 4 then 6 + u else if c = 5 then 9 + u else c) ≠ 16 ∧ (if c = 4 then 6 + u else if c = 5 then 9 + u else c) ≠ 17
    rw [if_pos g4]; omega
  · by_cases g5 : c = 5
    · show (if c = 4 then 6 + u else if c = 5 then 9 + u else c) ≠ 4 ∧ (if c = 4 then 6 + u else if c = 5 then 9 + u else c) ≠ 5 ∧ (if c = 4 then 6 + u else if c = 5 then 9 + u else c) ≠ 16 ∧ (if c = 4 then 6 + u else if c = 5 then 9 + u else c) ≠ 17
      rw [if_neg g4, if_pos g5]; omega
    · show (if c = 4 then 6 + u else if c = 5 then 9 + u else c) ≠ 4 ∧ (if c = 4 then 6 + u else if c = 5 then 9 + u else c) ≠ 5 ∧ (if c = 4 then 6 + u else if c = 5 then 9 + u else c) ≠ 16 ∧ (if c = 4 then 6 + u else if c = 5 then 9 + u else c) ≠ 17
      rw [if_neg g4, if_neg g5]; exact ⟨g4, g5, this.1, this.2⟩
theorem c_truthAt {wo e : Nat} (hK : KC P) (hN : NT w U D nd) (h1 : 1 ≤ D) (h3 : D ≤ 3) (hbind : e ≠ 0 → ∀ len q, q < U → plain (nd q) → (nd q).length ≤ len → ∀ k d, len ≤ k → d + len ≤ 49 → F_X2_truthAt k (P.2.1 + 1) (mI q) (mI wo) (mI D) (mI d) (hp P w ex n sl) = some (row D wo (nd q), hp P w ex n sl)) : ∀ len i, i < U → cls e (nd i) → (nd i).length ≤ len → ∀ k d, len + (if e = 0 then 0 else 1) ≤ k → d + len ≤ 49 → F_X2_truthAt k (P.2.1 + 1) (mI i) (mI wo) (mI D) (mI d) (hp P w ex n sl) = some (row D wo (nd i), hp P w ex n sl) := by
  have hU : U ≤ 2 ^ 17 := Nat.le_trans hN.2.1 hN.2.2.1
  intro len
  induction len with
  | zero =>
    intro i hi _ hl
    have := wff_pos (nd_wff hN i hi)
    omega
  | succ len ih =>
    intro i hi hc hl k d hk hd
    cases k with
    | zero => omega
    | succ k =>
      have hw := nd_wff hN i hi
      rw [E_X2_truthAt, z_1, ob, E_X2_truthAt_0, if_neg (mI_0 (by omega)), q_1_0, ob, hN.1, if_neg (show ¬ mI U ≤ mI i by rw [nle (by omega) (by omega)]; omega), if_pos (show mI d ≤ 48 by rw [nleL (by omega) (by decide)]; show d ≤ 48; omega), q_1_2, ob, hp_af0 hN hi (show 1 < 5 by decide), ob, q_1_3, ob, hp_af0 hN hi (show 2 < 5 by decide), ob, q_1_1, ob, hp_af0 hN hi (show 0 < 5 by decide), ob]
      rcases (hN.2.2.2.1 i hi).1 with ⟨a, t, g1, g2, g3, ha, ht, hat, eq⟩ | ⟨a, g1, g2, g3, ha, eq⟩ | ⟨kk, a, b, hkk, g1, g2, g3, ha, hb, eq⟩ | ⟨kk, a, hkk, g1, g2, g3, ha, eq, hpl⟩
      · rw [g1, g2, g3, if_pos (show mI 0 = 0 from rfl)]
        rw [eq] at hc
        have hne := cls_atom (asg_ar ha ht).1 hc
        have e9 : ∀ bi : Nat, bi < 32 → (∀ b', vat D b' (asg a t) 0 ↔ b'.testBit bi = true) → R_X2_truthAt_98 k (mI wo) (mI bi) (hp P w ex n sl) = some (row D wo (nd i), hp P w ex n sl) := by
          intro bi hbi hv
          rw [E_X2_truthAt_98, c_column hK hbi, ob, eq]
          refine congrArg (fun z => some (z, hp P w ex n sl)) (mk64_congr fun b' _ => ?_)
          rw [val_0 (asg_ar ha ht).1, hv]
        by_cases ga : a < 4
        · rw [if_neg (show ¬ (4 : Int32) ≤ mI a by rw [nleR (by omega) (by decide)]; exact Nat.not_le.mpr ga)]
          refine e9 a (by omega) fun b' => ?_
          unfold asg vat
          rw [if_pos ga, if_pos ga]
        · rw [if_pos (show (4 : Int32) ≤ mI a by rw [nleR (by omega) (by decide)]; exact Nat.not_lt.mp ga), nsubL (Nat.not_lt.mp ga), nmul, naddR, nadd]
          rcases (show a = 4 ∨ a = 5 by omega) with rfl | rfl
          · have ht3 : t ≠ 3 := fun z => hne.1 (by unfold asg; rw [if_neg (by omega), if_pos rfl, if_pos z])
            refine e9 _ (by show 4 + 0 * D + t < 32; omega) fun b' => ?_
            have ea : asg 4 t = 6 + t := by unfold asg; rw [if_neg (by omega), if_pos rfl, if_neg ht3]
            rw [ea]
            unfold vat
            rw [if_neg (by omega), if_neg (by omega), if_neg (by omega), if_pos (by omega)]
            show b'.testBit (4 + (6 + t - 6)) = true ↔ b'.testBit (4 + 0 * D + t) = true
            rw [show 4 + (6 + t - 6) = 4 + 0 * D + t by omega]
          · have ht3 : t ≠ 3 := fun z => hne.2 (by unfold asg; rw [if_neg (by omega), if_neg (by omega), if_pos z])
            refine e9 _ (by show 4 + 1 * D + t < 32; omega) fun b' => ?_
            have ea : asg 5 t = 9 + t := by unfold asg; rw [if_neg (by omega), if_neg (by omega), if_neg ht3]
            rw [ea]
            unfold vat
            rw [if_neg (by omega), if_neg (by omega), if_neg (by omega), if_neg (by omega)]
            show b'.testBit (4 + D + (9 + t - 9)) = true ↔ b'.testBit (4 + 1 * D + t) = true
            rw [show 4 + D + (9 + t - 9) = 4 + 1 * D + t by omega]
      · have hwa := nd_wff hN a (by omega)
        rw [eq] at hc hl
        simp only [List.length_cons] at hl
        rw [g1, g2, if_neg (by decide), if_pos (show mI 1 = 1 from rfl), naddL, ih a (by omega) (cls_not hc) (by omega) k (d + 1) (by omega) (by omega), ob]
        try dsimp only
        rw [m64_not, eq]
        refine congrArg (fun z => some (z, hp P w ex n sl)) (mk64_congr fun b' _ => ?_)
        rw [val_1 rfl hwa]
        exact Iff.rfl
      · have hwa := nd_wff hN a (by omega)
        have hwb := nd_wff hN b (by omega)
        rw [eq] at hc hl
        simp only [List.length_cons, List.length_append] at hl
        have pa := wff_pos hwa
        have pb := wff_pos hwb
        obtain ⟨c1, c2⟩ := cls_two (ar_k hkk) hwa hwb hc
        have ra := ih a (by omega) c1 (by omega) k (d + 1) (by omega) (by omega)
        have rb := ih b (by omega) c2 (by omega) k (d + 1) (by omega) (by omega)
        rw [g1, g2, g3, naddL]
        rcases hkk with rfl | rfl | rfl
        · rw [if_neg (by decide), if_neg (by decide), if_pos (show mI 2 = 2 from rfl), ra, ob, rb, ob]
          try dsimp only
          rw [m64_and, eq]
          refine congrArg (fun z => some (z, hp P w ex n sl)) (mk64_congr fun b' _ => ?_)
          rw [val_2 rfl hwa hwb]
          exact Iff.rfl
        · rw [if_neg (by decide), if_neg (by decide), if_neg (by decide), if_pos (show mI 3 = 3 from rfl), ra, ob, rb, ob]
          try dsimp only
          rw [m64_or, eq]
          refine congrArg (fun z => some (z, hp P w ex n sl)) (mk64_congr fun b' _ => ?_)
          rw [val_2 rfl hwa hwb]
          exact Iff.rfl
        · rw [if_neg (by decide), if_neg (by decide), if_neg (by decide), if_neg (by decide), if_pos (show mI 4 = 4 from rfl), ra, ob, rb, ob]
          try dsimp only
          rw [m64_not, m64_or, eq]
          refine congrArg (fun z => some (z, hp P w ex n sl)) (mk64_congr fun b' _ => ?_)
          rw [val_2 rfl hwa hwb]
          exact Iff.rfl
      · have hwa := nd_wff hN a (by omega)
        rw [eq] at hc hl
        simp only [List.length_cons] at hl
        have he : e ≠ 0 := by
          intro z
          unfold cls at hc
          rw [if_pos z] at hc
          have := hc (11 + kk) List.mem_cons_self
          omega
        have hcl : clo ((11 + kk) :: nd a) := by
          unfold cls at hc
          rw [if_neg he] at hc
          exact hc
        have hb := clo_bind (by omega) hcl
        rw [if_neg he] at hk
        cases k with
        | zero => omega
        | succ k =>
          have part : ∀ t, t < D → ∃ q, w.2.2.1 7 (i * 3 + t) = mI q ∧ F_X2_truthAt k (P.2.1 + 1) (mI q) (mI wo) (mI D) (mI (d + 1)) (hp P w ex n sl) = some (mk64 (fun b => val D (64 * wo + b) (nd a) t) 64, hp P w ex n sl) := by
            intro t ht
            obtain ⟨q, hq, e1, e2⟩ := (hpl t (by omega)).1 ht
            refine ⟨q, e1, ?_⟩
            rw [hbind he len q hq (by rw [e2]; exact plain_ins (by omega) hb) (by rw [e2, List.length_map]; omega) k (d + 1) (by omega) (by omega)]
            refine congrArg (fun z => some (z, hp P w ex n sl)) (mk64_congr fun b' _ => ?_)
            rw [e2]
            exact val_ins (by omega) (nd a) hwa hb 0
          have kk9 : kk < 2 ^ 31 := by omega
          rw [g1, if_neg (by rw [neqL kk9 (by decide)]; show ¬ kk = 0; omega), if_neg (by rw [neqL kk9 (by decide)]; show ¬ kk = 1; omega), if_neg (by rw [neqL kk9 (by decide)]; show ¬ kk = 2; omega), if_neg (by rw [neqL kk9 (by decide)]; show ¬ kk = 3; omega), if_neg (by rw [neqL kk9 (by decide)]; show ¬ kk = 4; omega), E_X2_truthOfBinder, z_1, ob, E_X2_truthOfBinder_0, c_kindOf hN rfl hi, ob, g1]
          try dsimp only
          rcases hkk with rfl | rfl
          · rw [if_pos (show mI 5 = 5 from rfl), E_X2_truthOfBinder_14, if_neg (by decide), E_X2_truthOfBinder_28]
            have lp := loopE (f := fun t => R_X2_truthOfBinder_33 k (P.2.1 + 1) (mI i) (mI wo) (mI D) (mI d) 1 (mk64 (fun b => ∀ t', t' < t → val D (64 * wo + b) (nd a) t') 64) (mI t) (hp P w ex n sl)) (N := D) (r := some (mk64 (fun b => ∀ t', t' < D → val D (64 * wo + b) (nd a) t') 64, hp P w ex n sl)) (fun t ht => by
              obtain ⟨q, e1, e2⟩ := part t ht
              rw [E_X2_truthOfBinder_33, if_neg (by rw [nle (by omega) (by omega)]; omega), c_placedOf hN rfl rfl hi (by omega), ob, e1, naddL, e2, ob, if_neg (by decide), E_X2_truthOfBinder_76, naddL]
              try dsimp only
              rw [m64_and, mk64_congr (p := fun b => (∀ t', t' < t → val D (64 * wo + b) (nd a) t') ∧ val D (64 * wo + b) (nd a) t) (q := fun b => ∀ t', t' < t + 1 → val D (64 * wo + b) (nd a) t') fun b _ => ⟨fun z t' ht' => by
                by_cases et : t' = t
                · subst et; exact z.2
                · exact z.1 t' (by omega), fun z => ⟨fun t' ht' => z t' (by omega), z t (by omega)⟩⟩]) (by
              rw [E_X2_truthOfBinder_33, if_pos (by rw [nle (by omega) (by omega)]; omega)])
            have e0 : mk64 (fun b => ∀ t', t' < 0 → val D (64 * wo + b) (nd a) t') 64 = -1 := m64_T fun b _ t' ht' => absurd ht' (by omega)
            rw [e0, show mI 0 = (0 : Int32) from rfl] at lp
            rw [lp, ob, eq]
            refine congrArg (fun z => some (z, hp P w ex n sl)) (mk64_congr fun b' _ => ?_)
            rw [val_1 rfl hwa]
            exact Iff.rfl
          · rw [if_neg (by decide), E_X2_truthOfBinder_14, if_pos rfl, E_X2_truthOfBinder_28]
            have lp := loopE (f := fun t => R_X2_truthOfBinder_33 k (P.2.1 + 1) (mI i) (mI wo) (mI D) (mI d) 0 (mk64 (fun b => ∃ t', t' < t ∧ val D (64 * wo + b) (nd a) t') 64) (mI t) (hp P w ex n sl)) (N := D) (r := some (mk64 (fun b => ∃ t', t' < D ∧ val D (64 * wo + b) (nd a) t') 64, hp P w ex n sl)) (fun t ht => by
              obtain ⟨q, e1, e2⟩ := part t ht
              rw [E_X2_truthOfBinder_33, if_neg (by rw [nle (by omega) (by omega)]; omega), c_placedOf hN rfl rfl hi (by omega), ob, e1, naddL, e2, ob, if_pos rfl, E_X2_truthOfBinder_76, naddL]
              try dsimp only
              rw [m64_or, mk64_congr (q := fun b => ∃ t', t' < t + 1 ∧ val D (64 * wo + b) (nd a) t') fun b _ => exS.symm]) (by
              rw [E_X2_truthOfBinder_33, if_pos (by rw [nle (by omega) (by omega)]; omega)])
            have e0 : mk64 (fun b => ∃ t', t' < 0 ∧ val D (64 * wo + b) (nd a) t') 64 = 0 := m64_F fun b _ ⟨t', ht', _⟩ => absurd ht' (by omega)
            rw [e0, show mI 0 = (0 : Int32) from rfl] at lp
            rw [lp, ob, eq]
            refine congrArg (fun z => some (z, hp P w ex n sl)) (mk64_congr fun b' _ => ?_)
            rw [val_1 rfl hwa]
            exact Iff.rfl
theorem c_truth {i wo : Nat} {x v z : Int32} (hx : x = mI i) (hv : v = mI wo) (hz : z = mI D) (hK : KC P) (hN : NT w U D nd) (h1 : 1 ≤ D) (h3 : D ≤ 3) (hi : i < U) (hc : clo (nd i)) : F_X2_truth (P.2.1 + 1) x v z (hp P w ex n sl) = some (row D wo (nd i), hp P w ex n sl) := by
  subst hx hv hz
  have hl := (hN.2.2.2.1 i hi).2.2
  rw [E_X2_truth, z_1, ob, E_X2_truth_0]
  have := c_truthAt (P := P) (ex := ex) (n := n) (sl := sl) (wo := wo) (e := 1) hK hN h1 h3 (fun _ len q hq hpq hlq k d hk hd => c_truthAt (e := 0) hK hN h1 h3 (fun z => absurd rfl z) len q hq (by unfold cls; rw [if_pos rfl]; exact hpq) hlq k d (by rw [if_pos rfl]; omega) hd) 40 i hi (by unfold cls; rw [if_neg (by decide)]; exact hc) hl 64 0 (by decide) (by decide)
  rw [show (0 : Int32) = mI 0 from rfl, this, ob]
end CT
