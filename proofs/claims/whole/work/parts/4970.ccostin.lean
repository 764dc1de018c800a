/-! what the class counts as costs in a house -/
section CIN
variable {P : sP} {S0 e : Nat} {w w' u u' v : sW} {ex : Nat → Option sC} {n sl D F L R U k s f cu h : Nat} {y : sLn} {φ : Nat → List Nat} {nf ν : Nat → Nat} {nd : Nat → List Nat} {S : List (List Nat)} {A : List Nat} {Z : List zT} {told : Int32} {H : Nat → Prop} {q : Nat → Nat} {c c0 : nN → Nat} {kn : Nat → Prop} {z : zT}
/-- what the class holds once it is prepared -/
def PE (u : sW) (D F L U : Nat) (y : sLn) (φ nd : Nat → List Nat) (nf : Nat → Nat) (S : List (List Nat)) (ν : Nat → Nat) (told : Int32) (Z : List zT) : Prop := CW u D F L U y φ nd nf ∧ EV u U D nd S ν (asm S S.length) ∧ u.1 38 11 = told ∧ SZ u Z ∧ (∀ z, z ∈ Z ↔ ∃ k, k < S.length ∧ GZ D S (asm S S.length) k z)
theorem PE.fr (h : PE u D F L U y φ nd nf S ν told Z) (g : Fr [41, 44] [3812] u u') : PE u' D F L U y φ nd nf S ν told Z := by
  obtain ⟨h1, h2, h3, h4, h5⟩ := h
  refine ⟨fCW (g.mo (B' := lkB) (fun _ h => h) (by decide)) (by decide) h1, ?_, (g.i (k := 38) (j := 11) (by decide)).trans h3, h4.fr g (by decide) (by decide), h5⟩
  obtain ⟨a1, a2, a3, a4, a5⟩ := h2
  refine ⟨a1.fr g (by decide) (by decide) (by decide) (by decide) (by decide) (by decide), a2.fr g (by decide) (by decide) (by decide), ?_, (g.i (k := 9) (j := 0) (by decide)).trans a4, a5⟩
  show AS _ _ _
  rw [g.i (k := 38) (j := 9) (by decide), g.a (k := 42) (by decide)]
  exact a3
/-- a house's rules and prices as the class has them -/
def HQ (u : sW) (h : Nat) (H : Nat → Prop) (q : Nat → Nat) : Prop := h < 3 ∧ (∀ r, bit (u.2.2.1 11 h) r ↔ H r) ∧ (∀ r, r < 17 → q r ≤ 99 ∧ u.2.2.1 16 (h * 17 + r) = mI (q r)) ∧ q 16 ≤ 9
theorem HQ.fr {A B : List Nat} (h' : HQ u h H q) (g : Fr A B u u') (h1 : 11 ∉ A) (h2 : 16 ∉ A) : HQ u' h H q := by
  unfold HQ
  rw [g.a h1, g.a h2]
  exact h'
theorem c_charge (h' : HQ u h H q) : ∀ d m (v : sW), m + d = 16 → Fr [41, 44] [3812] u v → (∀ r, r < m → v.2.2.1 41 r = mI (@ite _ (H r) (Classical.propDecidable _) (q r) 268435456)) → ∃ v', R_X4_costIn_2 (P.2.1 + 38) (mI h) (mI m) (hp P v ex n sl) = R_X4_costIn_2 (P.2.1 + 38) (mI h) 16 (hp P v' ex n sl) ∧ Fr [41, 44] [3812] u v' ∧ ∀ r, r < 16 → v'.2.2.1 41 r = mI (@ite _ (H r) (Classical.propDecidable _) (q r) 268435456) := by
  intro d
  induction d with
  | zero =>
    intro m v hm hv hr
    have hm' : m = 16 := by omega
    subst hm'
    exact ⟨v, rfl, hv, hr⟩
  | succ d ih =>
    intro m v hm hv hr
    have hv' := h'.fr hv (by decide) (by decide)
    have go : R_X4_costIn_2 (P.2.1 + 38) (mI h) (mI m) (hp P v ex n sl) = R_X4_costIn_2 (P.2.1 + 38) (mI h) (mI (m + 1)) (hp P (wA v 41 m (mI (@ite _ (H m) (Classical.propDecidable _) (q m) 268435456))) ex n sl) := by
      rw [E_X4_costIn_2, if_neg (show ¬ (16 : Int32) ≤ mI m by rw [nleR (by omega) (by decide)]; exact Nat.not_le.mpr (by omega)), q_38_4, ob, q_38_1, ob, c_hasRule rfl rfl hv'.1, ob]
      try dsimp only
      by_cases g : H m
      · rw [if_neg (fun z => b2_0.mp z ((hv'.2.1 m).mpr g)), q_38_1, ob, c_priceOf rfl rfl hv'.1 (by omega), ob, (hv'.2.2.1 m (by omega)).2, E_X4_costIn_39]
        try dsimp only
        rw [wa_41 (by omega), ob, mI_s, if_pos g]
      · rw [if_pos (b2_0.mpr (fun z => g ((hv'.2.1 m).mp z))), E_X4_costIn_39, wa_41 (by omega), ob, mI_s, if_neg g]
        rfl
    rw [go]
    refine ih (m + 1) _ (by omega) (hv.pA (by decide)) (fun r hr' => ?_)
    by_cases g : r = m
    · rw [g]; exact wA_s
    · rw [wA_n (Or.inr g)]; exact hr r (by omega)
theorem c_down (hE : CE u D F L U y φ nd nf S ν told H q Z) : ∀ m (v : sW) (kn : Nat → Prop), m ≤ 2 ^ (asm S S.length).length → Fr [44] [] u v → CA v S.length kn (mu (IIc D F φ S told H q)) → (H 10 → H 1 → ∀ s', m ≤ s' → s' < 2 ^ (asm S S.length).length → kn s') → ∃ v', R_X4_costIn_109 (P.2.1 + 38) (mI m - 1) (hp P v ex n sl) = R_X4_costIn_109 (P.2.1 + 38) (-1) (hp P v' ex n sl) ∧ Fr [44] [] u v' ∧ CA v' S.length (fun s' => s' < m ∨ kn s') (mu (IIc D F φ S told H q)) := by
  have hA3 := (asm_ok (S := S) S.length).1
  have hA8 : 2 ^ (asm S S.length).length ≤ 8 := Nat.pow_le_pow_right (by decide) hA3
  intro m
  induction m with
  | zero =>
    intro v kn _ hv hA _
    exact ⟨v, rfl, hv, fun k hk s hs hkn => hA k hk s hs (hkn.resolve_left (Nat.not_lt_zero _))⟩
  | succ m ih =>
    intro v kn hm hv hA hk2
    obtain ⟨v1, a1, a2, a3⟩ := c_settle (P := P) (ex := ex) (n := n) (sl := sl) (hE.fr hv) hA (s := m) (by omega) (fun g1 g2 s' h1 h2 => hk2 g1 g2 s' (by omega) h2)
    obtain ⟨v2, b1, b2', b3⟩ := ih v1 _ (by omega) (hv.tr a2) a3 (fun g1 g2 s' h1 h2 => by
      by_cases g : s' = m
      · exact Or.inl g
      · exact Or.inr (hk2 g1 g2 s' (by omega) h2))
    have e1 : mI (m + 1) - 1 = mI m := mI_sub (a := m + 1) (b := 1) (by omega)
    have e2 : mI m + (-1) = mI m - 1 := by rw [Int32.sub_eq_add_neg]
    refine ⟨v2, ?_, b2', fun k hk s hs hkn => b3 k hk s hs ?_⟩
    · rw [e1, E_X4_costIn_109, if_neg (mI_0 (by omega)), a1, ob]
      try dsimp only
      rw [e2]
      exact b1
    · rcases hkn with g | g
      · by_cases g2 : s = m
        · exact Or.inr (Or.inl g2)
        · exact Or.inl (by omega)
      · exact Or.inr (Or.inr g)
theorem c_costIn (h' : PE u D F L U y φ nd nf S ν told Z) (hq : HQ u h H q) (hS : 0 < S.length) {x : Int32} (hx : x = mI h) : ∃ u', F_X4_costIn (P.2.1 + 38) x (hp P u ex n sl) = some (rsO (mu (IIc D F φ S told H q) (0, 0)), hp P u' ex n sl) ∧ Fr [41, 44] [3812] u u' ∧ CE u' D F L U y φ nd nf S ν told H q Z ∧ ∃ kn : Nat → Prop, kn 0 ∧ (H 10 → H 1 → ∀ s', s' < 2 ^ (asm S S.length).length → kn s') ∧ CA u' S.length kn (mu (IIc D F φ S told H q)) := by
  subst hx
  have h3 := hq.1
  have hA3 := (asm_ok (S := S) S.length).1
  have hA8 : 2 ^ (asm S S.length).length ≤ 8 := Nat.pow_le_pow_right (by decide) hA3
  obtain ⟨u1, a1, a2, a3⟩ := c_charge (P := P) (ex := ex) (n := n) (sl := sl) hq 16 0 u (by decide) Fr.rf (fun r hr => absurd hr (Nat.not_lt_zero _))
  have q1 := hq.fr a2 (by decide) (by decide)
  generalize hu2 : wI u1 38 12 (mI (q 16)) = u2
  have f2 : Fr [41, 44] [3812] u u2 := by rw [← hu2]; exact a2.pI (k := 38) (j := 12) (by decide)
  have i12 : u2.1 38 12 = mI (q 16) := by rw [← hu2]; exact wI_s
  have e41 : u2.2.2.1 41 = u1.2.2.1 41 := by rw [← hu2]
  have p2 := h'.fr f2
  have ce : CE u2 D F L U y φ nd nf S ν told H q Z := ⟨p2.1, p2.2.1, p2.2.2.1, p2.2.2.2.1, p2.2.2.2.2, by rw [e41]; exact a3, fun r hr => (hq.2.2.1 r hr).1, hq.2.2.2, i12⟩
  have c10 : u2.2.2.1 41 10 = mI (@ite _ (H 10) (Classical.propDecidable _) (q 10) 268435456) := by rw [e41]; exact a3 10 (by decide)
  have c1' : u2.2.2.1 41 1 = mI (@ite _ (H 1) (Classical.propDecidable _) (q 1) 268435456) := by rw [e41]; exact a3 1 (by decide)
  have l10 := (hq.2.2.1 10 (by decide)).1
  have l1 := (hq.2.2.1 1 (by decide)).1
  have st : F_X4_costIn (P.2.1 + 38) (mI h) (hp P u ex n sl) = (if mI (@ite _ (H 10) (Classical.propDecidable _) (q 10) 268435456) = 268435456 then (R_X4_costIn_87 (P.2.1 + 38) (hp P u2 ex n sl)) else (if mI (@ite _ (H 1) (Classical.propDecidable _) (q 1) 268435456) = 268435456 then (R_X4_costIn_87 (P.2.1 + 38) (hp P u2 ex n sl)) else (R_X4_costIn_88 (P.2.1 + 38) 1 (hp P u2 ex n sl)))) := by
    rw [E_X4_costIn, z_38, ob, E_X4_costIn_0]
    refine a1.trans ?_
    rw [E_X4_costIn_2, if_pos (by decide), q_38_1, ob, c_priceOf (r := 16) (v := 16) rfl rfl h3 (by decide), ob, (q1.2.2.1 16 (by decide)).2]
    try dsimp only
    rw [p_38_12, ob, hu2, q_38_4, ob, show s_ai (hp P u2 ex n sl) (P.2.1 + 41) 10 = some (u2.2.2.1 41 10) from ra_41 (i := 10) (by decide), ob, c10, ob, show s_ai (hp P u2 ex n sl) (P.2.1 + 41) 1 = some (u2.2.2.1 41 1) from ra_41 (i := 1) (by decide), ob, c1']
  have fin : ∀ m, 1 ≤ m → m ≤ 2 ^ (asm S S.length).length → (H 10 → H 1 → m = 2 ^ (asm S S.length).length) → F_X4_costIn (P.2.1 + 38) (mI h) (hp P u ex n sl) = R_X4_costIn_109 (P.2.1 + 38) (mI m - 1) (hp P u2 ex n sl) → ∃ u', F_X4_costIn (P.2.1 + 38) (mI h) (hp P u ex n sl) = some (rsO (mu (IIc D F φ S told H q) (0, 0)), hp P u' ex n sl) ∧ Fr [41, 44] [3812] u u' ∧ CE u' D F L U y φ nd nf S ν told H q Z ∧ ∃ kn : Nat → Prop, kn 0 ∧ (H 10 → H 1 → ∀ s', s' < 2 ^ (asm S S.length).length → kn s') ∧ CA u' S.length kn (mu (IIc D F φ S told H q)) := by
    intro m hm1 hm2 hm3 he
    obtain ⟨u3, b1, b2', b3⟩ := c_down (P := P) (ex := ex) (n := n) (sl := sl) ce m u2 (fun _ => False) hm2 Fr.rf (fun k _ s _ z => z.elim) (fun g1 g2 s' h1 h2 => by have := hm3 g1 g2; omega)
    have e0 : u3.2.2.1 44 0 = mI (mu (IIc D F φ S told H q) (0, 0)) := b3 0 hS 0 (by decide) (Or.inl (by omega))
    have mf := mu_far (I := IIc D F φ S told H q) (x := (0, 0))
    refine ⟨u3, ?_, f2.tr (b2'.mo (by decide) (by decide)), ce.fr b2', (fun s' => s' < m ∨ False), Or.inl (by omega), fun g1 g2 s' h2 => Or.inl (by have := hm3 g1 g2; omega), b3⟩
    rw [he, b1, E_X4_costIn_109, if_pos (by decide), q_38_7, ob, show s_ai (hp P u3 ex n sl) (P.2.1 + 44) 0 = some (u3.2.2.1 44 0) from ra_44 (i := 0) (by decide), ob, e0]
    unfold rsO
    by_cases g : mu (IIc D F φ S told H q) (0, 0) < 268435456
    · rw [if_pos g, if_neg (show ¬ mI (mu (IIc D F φ S told H q) (0, 0)) = 268435456 from neqN (m := 268435456) (by omega) (by decide) (by omega)), ob, show s_ai (hp P u3 ex n sl) (P.2.1 + 44) 0 = some (u3.2.2.1 44 0) from ra_44 (i := 0) (by decide), ob, e0]
    · have e9 : mu (IIc D F φ S told H q) (0, 0) = 268435456 := by omega
      rw [if_neg g, e9, if_pos (show mI 268435456 = 268435456 from rfl)]
  have one : R_X4_costIn_87 (P.2.1 + 38) (hp P u2 ex n sl) = R_X4_costIn_109 (P.2.1 + 38) (mI 1 - 1) (hp P u2 ex n sl) := by
    rw [E_X4_costIn_87, E_X4_costIn_88, if_pos rfl, E_X4_costIn_103]
    rfl
  by_cases g10 : H 10
  · by_cases g1 : H 1
    · refine fin (2 ^ (asm S S.length).length) (Nat.two_pow_pos _) (Nat.le_refl _) (fun _ _ => rfl) ?_
      rw [st, if_pos g10, if_pos g1, if_neg (show ¬ mI (q 10) = 268435456 from neqN (m := 268435456) (by omega) (by decide) (by omega)), if_neg (show ¬ mI (q 1) = 268435456 from neqN (m := 268435456) (by omega) (by decide) (by omega)), E_X4_costIn_88, if_neg (by decide), q_38_9, ob, ce.as.1, shl_s _ (by omega), E_X4_costIn_103]
    · refine fin 1 (by decide) (Nat.two_pow_pos _) (fun _ g => absurd g g1) ?_
      rw [st, if_pos g10, if_neg g1, if_neg (show ¬ mI (q 10) = 268435456 from neqN (m := 268435456) (by omega) (by decide) (by omega)), if_pos (show mI 268435456 = 268435456 from rfl)]
      exact one
  · refine fin 1 (by decide) (Nat.two_pow_pos _) (fun g => absurd g g10) ?_
    rw [st, if_neg g10, if_pos (show mI 268435456 = 268435456 from rfl)]
    exact one
end CIN
