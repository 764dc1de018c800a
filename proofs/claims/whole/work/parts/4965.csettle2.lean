/-! the class settles a set of assumptions -/
section CSW
variable {P : sP} {S0 e : Nat} {w w' u u' v : sW} {ex : Nat → Option sC} {n sl D F L R U k s f cu : Nat} {y : sLn} {φ : Nat → List Nat} {nf ν : Nat → Nat} {nd : Nat → List Nat} {S : List (List Nat)} {A : List Nat} {Z : List zT} {told : Int32} {H : Nat → Prop} {q : Nat → Nat} {c c0 : nN → Nat} {kn : Nat → Prop} {z : zT}
theorem c_fill (h : CE u D F L U y φ nd nf S ν told H q Z) (hA : CA u S.length kn (mu (IIc D F φ S told H q))) (hs : s < 2 ^ (asm S S.length).length) : ∃ u' c, F_X4_settle (P.2.1 + 38) (mI s) (hp P u ex n sl) = R_X4_settle_37 (P.2.1 + 38) (mI s) 1 0 (hp P u' ex n sl) ∧ Fr [44] [] u u' ∧ CA u' S.length (fun s' => s' = s ∨ kn s') c ∧ snd (IIc D F φ S told H q) c ∧ (∀ x, x.2 ≠ s → c x = mu (IIc D F φ S told H q) x) ∧ ∀ r k ps b, r < 2 → IIc D F φ S told H q r (k, s) ps b → c (k, s) ≤ lmt (b + sumC c ps) := by
  have h40 := h.K
  have hs8 := s_8 hs
  have key : ∀ m, m ≤ S.length → ∃ u' c, F_X4_settle (P.2.1 + 38) (mI s) (hp P u ex n sl) = R_X4_settle_2 (P.2.1 + 38) (mI s) (mI m) (hp P u' ex n sl) ∧ Fr [44] [] u u' ∧ (∀ k, k < S.length → ∀ s', s' < 8 → s' ≠ s → kn s' → u'.2.2.1 44 (s' * 40 + k) = mI (mu (IIc D F φ S told H q) (k, s'))) ∧ (∀ k, k < m → u'.2.2.1 44 (s * 40 + k) = mI (c (k, s))) ∧ snd (IIc D F φ S told H q) c ∧ (∀ x, x.2 ≠ s → c x = mu (IIc D F φ S told H q) x) ∧ ∀ r k ps b, r < 2 → k < m → IIc D F φ S told H q r (k, s) ps b → c (k, s) ≤ b + sumC (mu (IIc D F φ S told H q)) ps ∧ c (k, s) ≤ lmt (b + sumC (mu (IIc D F φ S told H q)) ps) := by
    intro m
    induction m with
    | zero =>
      intro _
      refine ⟨u, mu (IIc D F φ S told H q), ?_, Fr.rf, fun k hk s' hs' _ hkn => hA k hk s' hs' hkn, fun k hk => absurd hk (Nat.not_lt_zero _), fun x => ⟨Nat.le_refl _, mu_far⟩, fun _ _ => rfl, fun r k ps b _ hk => absurd hk (Nat.not_lt_zero _)⟩
      rw [E_X4_settle, z_38, ob, E_X4_settle_0]
      rfl
    | succ m ih =>
      intro hm
      obtain ⟨u1, c, a1, a2, a3, a4, a5, a6, a7⟩ := ih (by omega)
      have h1 := h.fr a2
      obtain ⟨a, b1, b2', b3, b4⟩ := c_costAlone (P := P) (ex := ex) (n := n) (sl := sl) (c := mu (IIc D F φ S told H q)) h1 (x1 := mI s) (x2 := mI m) rfl rfl hs (k := m) (by omega)
      have eu : updN c (m, s) a (m, s) = a := by unfold updN; rw [if_pos rfl]
      have en : ∀ x, x ≠ (m, s) → updN c (m, s) a x = c x := fun x hx => by unfold updN; rw [if_neg hx]
      have ex1 : mI s * 40 + mI m = mI (s * 40 + m) := by
        show mI s * mI 40 + mI m = _
        rw [mI_mul, mI_add]
      refine ⟨wA u1 44 (s * 40 + m) (mI a), updN c (m, s) a, ?_, a2.pA (by decide), fun k hk s' hs' hne hkn => ?_, fun k hk => ?_, fun x => ?_, fun x hx => ?_, fun r k ps b hr hk hI => ?_⟩
      · rw [a1, E_X4_settle_2, q_38_8, ob, h1.ln.1, if_neg (show ¬ mI S.length ≤ mI m by rw [nle (by omega) (by omega)]; omega), q_38_7, ob, b1, ob]
        try dsimp only
        rw [ex1, wa_44 (by omega), ob, mI_s]
      · rw [wA_n (by omega)]; exact a3 k hk s' hs' hne hkn
      · by_cases g : k = m
        · rw [g, eu]; exact wA_s
        · rw [wA_n (by omega), en _ (fun z => g (congrArg Prod.fst z))]; exact a4 k (by omega)
      · by_cases g : x = (m, s)
        · rw [g, eu]
          refine ⟨?_, b2'⟩
          by_cases g2 : a < 268435456
          · obtain ⟨r, -, r2, r3⟩ := b3 g2
            have := mu_step r2
            have e0 : sumC (mu (IIc D F φ S told H q)) [] = 0 := rfl
            rw [e0] at this
            unfold lmt at this
            rw [if_pos (by omega)] at this
            omega
          · have := mu_far (I := IIc D F φ S told H q) (x := (m, s)); omega
        · rw [en x g]; exact a5 x
      · rw [en x (fun z => hx (by rw [z]))]; exact a6 x hx
      · by_cases g : k = m
        · subst g
          rw [eu]
          have e1 := b4 r ps b hr hI
          refine ⟨e1, ?_⟩
          unfold lmt
          by_cases g2 : b + sumC (mu (IIc D F φ S told H q)) ps ≤ 99999
          · rw [if_pos g2]; exact e1
          · rw [if_neg g2]; exact b2'
        · rw [en _ (fun z => g (congrArg Prod.fst z))]; exact a7 r k ps b hr (by omega) hI
  obtain ⟨u1, c, a1, a2, a3, a4, a5, a6, a7⟩ := key S.length (Nat.le_refl _)
  refine ⟨u1, c, ?_, a2, fun k hk s' hs' hkn => ?_, a5, a6, fun r k ps b hr hI => ?_⟩
  · rw [a1, E_X4_settle_2, q_38_8, ob, (h.fr a2).ln.1, if_pos (by rw [nle (by omega) (by omega)]; exact Nat.le_refl _)]
  · by_cases g : s' = s
    · rw [g]; exact a4 k hk
    · rw [a6 _ g]; exact a3 k hk s' hs' g (hkn.resolve_left g)
  · exact Nat.le_trans (a7 r k ps b hr hI.1 hI).2 (lmt_mono (Nat.add_le_add_left (sumC_le ps (fun p _ => (a5 p).1)) b))
theorem c_settle (h : CE u D F L U y φ nd nf S ν told H q Z) (hA : CA u S.length kn (mu (IIc D F φ S told H q))) (hs : s < 2 ^ (asm S S.length).length) (hkn2 : H 10 → H 1 → ∀ s', s < s' → s' < 2 ^ (asm S S.length).length → kn s') : ∃ u', F_X4_settle (P.2.1 + 38) (mI s) (hp P u ex n sl) = some ((), hp P u' ex n sl) ∧ Fr [44] [] u u' ∧ CA u' S.length (fun s' => s' = s ∨ kn s') (mu (IIc D F φ S told H q)) := by
  have h40 := h.K
  have hs8 := s_8 hs
  have hkn3 : H 10 → H 1 → ∀ s', s ≤ s' → s' < 2 ^ (asm S S.length).length → (s' = s ∨ kn s') := fun g1 g2 s' h1 h2 => by
    by_cases g : s' = s
    · exact Or.inl g
    · exact Or.inr (hkn2 g1 g2 s' (by omega) h2)
  have done : ∀ (v : sW) c, CA v S.length (fun s' => s' = s ∨ kn s') c → (∀ x, x.2 ≠ s → c x = mu (IIc D F φ S told H q) x) → (∀ k, k < S.length → c (k, s) = mu (IIc D F φ S told H q) (k, s)) → CA v S.length (fun s' => s' = s ∨ kn s') (mu (IIc D F φ S told H q)) := by
    intro v c h1 h2 h3 k hk s' hs' hk'
    rw [h1 k hk s' hs' hk']
    by_cases g : s' = s
    · rw [g, h3 k hk]
    · rw [h2 (k, s') g]
  have lp : ∀ d t (v : sW) c (fl : Int32), t + d = 41 → Fr [44] [] u v → CA v S.length (fun s' => s' = s ∨ kn s') c → snd (IIc D F φ S told H q) c → (∀ x, x.2 ≠ s → c x = mu (IIc D F φ S told H q) x) → (∀ r k ps b, r < 2 → IIc D F φ S told H q r (k, s) ps b → c (k, s) ≤ lmt (b + sumC c ps)) → (fl = 0 ∨ fl = 1) → ((∀ k, k < S.length → c (k, s) = mu (IIc D F φ S told H q) (k, s)) ∨ (t ≤ cntP (fun k => c (k, s) = mu (IIc D F φ S told H q) (k, s)) S.length ∧ fl = 1)) → ∃ u', R_X4_settle_37 (P.2.1 + 38) (mI s) fl (mI t) (hp P v ex n sl) = some ((), hp P u' ex n sl) ∧ Fr [44] [] u u' ∧ CA u' S.length (fun s' => s' = s ∨ kn s') (mu (IIc D F φ S told H q)) := by
    intro d
    induction d with
    | zero =>
      intro t v c fl ht hv hc1 hc2 hc3 hc4 hfl hc5
      have fin : ∀ k, k < S.length → c (k, s) = mu (IIc D F φ S told H q) (k, s) := by
        rcases hc5 with g | ⟨g, -⟩
        · exact g
        · have := cntP_le (p := fun k => c (k, s) = mu (IIc D F φ S told H q) (k, s)) (k := S.length)
          omega
      refine ⟨v, ?_, hv, done v c hc1 hc3 fin⟩
      rw [E_X4_settle_37, if_pos (show (40 : Int32) < mI t by rw [nltR (by omega) (by decide)]; show 40 < t; omega)]
    | succ d ih =>
      intro t v c fl ht hv hc1 hc2 hc3 hc4 hfl hc5
      rw [E_X4_settle_37, if_neg (show ¬ (40 : Int32) < mI t by rw [nltR (by omega) (by decide)]; show ¬ 40 < t; omega)]
      by_cases g0 : fl = 0
      · rw [if_pos g0]
        have fin : ∀ k, k < S.length → c (k, s) = mu (IIc D F φ S told H q) (k, s) := by
          rcases hc5 with g | ⟨-, g⟩
          · exact g
          · rw [g0] at g; exact absurd g (by decide)
        exact ⟨v, rfl, hv, done v c hc1 hc3 fin⟩
      · rw [if_neg g0]
        obtain ⟨v1, c1, fl1, a1, a2, a3, a4, a5⟩ := c_round (P := P) (ex := ex) (n := n) (sl := sl) (h.fr hv) hc1 hc2 hs (Or.inl rfl) hkn3 (t := t)
        rw [a1]
        have hX : ∀ r (x : nN) ps b, (x.1 < S.length ∧ x.2 = s) → IIc D F φ S told H q r x ps b → ∀ p ∈ ps, (p.1 < S.length ∧ p.2 = s) ∨ c p = mu (IIc D F φ S told H q) p := by
          intro r x ps b hx hI p hp9
          have := hI.lt.2.2.2.2 p hp9
          by_cases g : p.2 = s
          · exact Or.inl ⟨this.1, g⟩
          · exact Or.inr (hc3 p g)
        have hst : ∀ r (x : nN) ps b, (x.1 < S.length ∧ x.2 = s) → IIc D F φ S told H q r x ps b → c1 x ≤ lmt (b + sumC c ps) := by
          intro r x ps b hx hI
          obtain ⟨k, s'⟩ := x
          obtain ⟨-, hx2⟩ := hx
          have hx2' : s' = s := hx2
          subst hx2'
          by_cases g : r < 2
          · exact Nat.le_trans (a4.2.1 _) (hc4 r k ps b g hI)
          · exact a5 r k ps b (by omega) hI
        refine ih (t + 1) v1 c1 fl1 (by omega) (hv.tr a2) a3 a4.1 (fun x hx => (a4.2.2.1 x hx).trans (hc3 x hx)) (fun r k ps b hr hI => ?_) a4.2.2.2.1 ?_
        · have e1 := hc4 r k ps b hr hI
          have hps : ps = [] := by
            obtain ⟨-, -, -, ⟨-, -, g4, -⟩ | ⟨-, -, g4, -⟩ | ⟨g4, -⟩ | ⟨g4, -⟩ | ⟨l, g4, -⟩⟩ := hI
            · exact g4
            · exact g4
            · omega
            · omega
            · have := g4.r.1; omega
          subst hps
          exact Nat.le_trans (a4.2.1 _) e1
        · rcases a4.2.2.2.1 with g | g
          · left
            have ec := a4.2.2.2.2 g
            subst ec
            intro k hk
            exact clo_eq (X := fun x => x.1 < S.length ∧ x.2 = s) hc2 hst hX (k, s) ⟨hk, rfl⟩
          · by_cases gf : ∀ k, k < S.length → c (k, s) = mu (IIc D F φ S told H q) (k, s)
            · left
              intro k hk
              have e1 := a4.2.1 (k, s)
              have e2 := (a4.1 (k, s)).1
              have e3 := gf k hk
              omega
            · right
              refine ⟨?_, g⟩
              have t1 : t ≤ cntP (fun k => c (k, s) = mu (IIc D F φ S told H q) (k, s)) S.length := by
                rcases hc5 with z | z
                · exact absurd z gf
                · exact z.1
              have hn : ∃ x : nN, (x.1 < S.length ∧ x.2 = s) ∧ c x ≠ mu (IIc D F φ S told H q) x := Classical.byContradiction fun z => gf (fun k hk => Classical.byContradiction fun z2 => z ⟨(k, s), ⟨hk, rfl⟩, z2⟩)
              obtain ⟨x, x1, x2, x3⟩ := rnd_one (X := fun x => x.1 < S.length ∧ x.2 = s) hc2 a4.1 hst hX hn
              obtain ⟨k, s'⟩ := x
              obtain ⟨k1, k2⟩ := x1
              have k2' : s' = s := k2
              subst k2'
              have := cnt_ls (p := fun k => c (k, s') = mu (IIc D F φ S told H q) (k, s')) (q := fun k => c1 (k, s') = mu (IIc D F φ S told H q) (k, s')) S.length (fun i hi e => by
                have e1 := a4.2.1 (i, s')
                have e2 := (a4.1 (i, s')).1
                show c1 (i, s') = _
                have e3 : c (i, s') = mu (IIc D F φ S told H q) (i, s') := e
                omega) ⟨k, k1, x2, x3⟩
              omega
  obtain ⟨u1, c, a1, a2, a3, a4, a5, a6⟩ := c_fill (P := P) (ex := ex) (n := n) (sl := sl) h hA hs
  obtain ⟨u2, b1, b2', b3⟩ := lp 41 0 u1 c 1 (by decide) a2 a3 a4 a5 a6 (Or.inr rfl) (Or.inr ⟨Nat.zero_le _, rfl⟩)
  exact ⟨u2, a1.trans b1, b2', b3⟩
end CSW
