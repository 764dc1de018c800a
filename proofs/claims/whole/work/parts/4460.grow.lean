/-! the six arrays of Forms grow -/
def gL (U i : Nat) : Nat := if i = 5 then 6 * U else 2 * U
def gO (U i : Nat) : Nat := if i = 5 then 3 * U else U
def gA (w : sW) (U i : Nat) : Nat → Int32 := va_cpy (w.2.2.1 (i + 2)) (fun _ => 0) 0 0 (gO U i)
def gR (P : sP) (w : sW) (m j i : Nat) : Value := .ref (if i < j then m + i else w_fa P w + i)
def gF (P : sP) (w : sW) (m j : Nat) : List Value := [.int (w.1 1 0), gR P w m j 0, gR P w m j 1, gR P w m j 2, gR P w m j 3, gR P w m j 4, gR P w m j 5, .ref (P.2.1 + 8)]
def gSl (U j : Nat) : Nat := if j = 6 then 16 * U else 2 * U * j
def gS (P : sP) (w : sW) (ex : Nat → Option sC) (n sl U j : Nat) : sS := (fun a => if a = P.2.1 + 1 then some (.inr (2, gF P w n j)) else if n ≤ a ∧ a < n + j then some (.inl (0, gL U (a - n), .inl (gA w U (a - n)))) else (hp P w ex n sl).1 a, n + j, sl + gSl U j, P.2.2)
section GRW
variable {P : sP} {w : sW} {ex : Nat → Option sC} {n sl U : Nat}
theorem gS_0 : gS P w ex n sl U 0 = hp P w ex n sl := by
  unfold gS
  refine Prod.ext (funext fun a => ?_) rfl
  dsimp only
  by_cases e : a = P.2.1 + 1
  · rw [if_pos e, e, hp_at (by decide) (by decide)]
    rfl
  · rw [if_neg e, if_neg (by omega)]
theorem gS_old {j i : Nat} (hn : w_fa P w + 6 ≤ n) (hi : i < 6) : (gS P w ex n sl U j).1 (w_fa P w + i) = some (w_fc w i) := by
  have h := w_fa_ok (P := P) (w := w)
  show (if w_fa P w + i = P.2.1 + 1 then _ else _) = _
  rw [if_neg (by omega), if_neg (by omega), hp_fa hi]
theorem gS_fr {j : Nat} (hj : j < 6) : s_fr (gS P w ex n sl U j) (P.2.1 + 1) 2 (j + 1) = some (w_fa P w + j) := by
  have e : (gS P w ex n sl U j).1 (P.2.1 + 1) = some (.inr (2, gF P w n j)) := if_pos rfl
  unfold s_fr s_fv
  rw [e]
  dsimp only
  rw [if_pos rfl]
  rcases (show j = 0 ∨ j = 1 ∨ j = 2 ∨ j = 3 ∨ j = 4 ∨ j = 5 by omega) with rfl | rfl | rfl | rfl | rfl | rfl <;> rfl
/-- after the copy, before the field is set -/
def gM (P : sP) (w : sW) (ex : Nat → Option sC) (n sl U j : Nat) : sS := (fun a => if a = P.2.1 + 1 then some (.inr (2, gF P w n j)) else if n ≤ a ∧ a < n + (j + 1) then some (.inl (0, gL U (a - n), .inl (gA w U (a - n)))) else (hp P w ex n sl).1 a, n + (j + 1), sl + gSl U (j + 1), P.2.2)
theorem gS_pf {j : Nat} (hj : j < 6) : s_pf (gM P w ex n sl U j) (P.2.1 + 1) 2 (j + 1) (.ref (n + j)) = some (gS P w ex n sl U (j + 1)) := by
  have e : (gM P w ex n sl U j).1 (P.2.1 + 1) = some (.inr (2, gF P w n j)) := if_pos rfl
  unfold s_pf
  rw [e]
  dsimp only
  rw [if_pos ⟨rfl, by show j + 1 < 8; omega⟩]
  refine congrArg some ?_
  unfold s_up gM gS
  refine Prod.ext (funext fun a => ?_) rfl
  dsimp only
  by_cases ea : a = P.2.1 + 1
  · rw [if_pos ea, if_pos ea]
    refine congrArg (fun z => some (Sum.inr (2, z))) ?_
    rcases (show j = 0 ∨ j = 1 ∨ j = 2 ∨ j = 3 ∨ j = 4 ∨ j = 5 by omega) with rfl | rfl | rfl | rfl | rfl | rfl <;> rfl
  · rw [if_neg ea, if_neg ea, if_neg ea]
theorem gS_copy {j : Nat} (hj : j < 6) (hU1 : 1 ≤ U) (hU2 : U ≤ 100000) (hr : w.2.2.2.2.1 = U) (hn : w_fa P w + 6 ≤ n) (hn3 : P.2.1 + 73 ≤ n) : F_J7_copyOf_59c91 (w_fa P w + j) (mI (gL U j)) (gS P w ex n sl U j) = some (n + j, gM P w ex n sl U j) := by
  have hgO : gO U j ≤ 300000 ∧ 1 ≤ gO U j ∧ gO U j < gL U j ∧ gL U j ≤ 600000 := by
    unfold gO gL
    split <;> omega
  have hc : w_fc w j = .inl (0, gO U j, .inl (w.2.2.1 (j + 2))) := by unfold w_fc gO; rw [hr]
  have l0 : s_len (gS P w ex n sl U j) (w_fa P w + j) = some (mI (gO U j)) := by
    unfold s_len
    rw [gS_old hn hj, hc]
    rfl
  have na : s_na (gS P w ex n sl U j) 0 (mI (gL U j)) = some (fun q => if q = n + j then some (.inl (0, gL U j, .inl (fun _ => 0))) else (gS P w ex n sl U j).1 q, n + j + 1, sl + gSl U j + gL U j, P.2.2) := by
    unfold s_na
    rw [mI_nat (by omega), if_neg (by rw [show (mI (gL U j) < 0 ∨ 1000000 < gL U j) = (mI (gL U j) < 0 ∨ 1000000 < gL U j) from rfl]; exact fun z => z.elim (mI_0 (by omega)) (by omega))]
    rfl
  rw [E_J7_copyOf_59c91, E_J7_copyOf_59c91_0, l0, ob, if_neg (by rw [neq (by omega) (by omega)]; omega), na, ob]
  have l1 : s_len ((fun q => if q = n + j then some (.inl (0, gL U j, .inl (fun _ => 0))) else (gS P w ex n sl U j).1 q, n + j + 1, sl + gSl U j + gL U j, P.2.2) : sS) (w_fa P w + j) = some (mI (gO U j)) := by
    unfold s_len
    dsimp only
    rw [if_neg (by omega), gS_old hn hj, hc]
    rfl
  rw [l1, ob, if_neg (by rw [nlt (by omega) (by omega)]; omega)]
  have cp : s_cpi ((fun q => if q = n + j then some (.inl (0, gL U j, .inl (fun _ => 0))) else (gS P w ex n sl U j).1 q, n + j + 1, sl + gSl U j + gL U j, P.2.2) : sS) (w_fa P w + j) 0 (n + j) 0 (mI (gO U j)) = some (gM P w ex n sl U j) := by
    unfold s_cpi
    dsimp only
    rw [if_neg (by omega), gS_old hn hj, hc, if_pos rfl]
    dsimp only
    rw [mI_nat (by omega), if_pos ⟨rfl, rfl, by omega, by decide, by decide, mI_0 (by omega), by show 0 + gO U j ≤ gO U j; omega, by show 0 + gO U j ≤ gL U j; omega⟩]
    refine congrArg some ?_
    unfold s_up gM gS
    refine Prod.ext (funext fun a => ?_) ?_
    · dsimp only
      by_cases ea : a = n + j
      · rw [if_pos ea, ea, if_neg (by omega), if_pos (by omega), Nat.add_sub_cancel_left]
        rfl
      · rw [if_neg ea, if_neg ea]
        by_cases e1 : a = P.2.1 + 1
        · rw [if_pos e1, if_pos e1]
        · rw [if_neg e1, if_neg e1]
          by_cases e2 : n ≤ a ∧ a < n + j
          · rw [if_pos e2, if_pos (by omega)]
          · rw [if_neg e2, if_neg (by omega)]
    · dsimp only
      refine Prod.ext (by show n + j + 1 = n + (j + 1); omega) (Prod.ext ?_ rfl)
      show sl + gSl U j + gL U j = sl + gSl U (j + 1)
      unfold gSl gL
      rcases (show j = 0 ∨ j = 1 ∨ j = 2 ∨ j = 3 ∨ j = 4 ∨ j = 5 by omega) with rfl | rfl | rfl | rfl | rfl | rfl
      all_goals
        rw [if_neg (by decide)]
        first
          | rw [if_neg (by decide), if_neg (by decide)]
          | rw [if_pos rfl, if_pos rfl]
        omega
  have e21 : (gS P w ex n sl U j).2.1 = n + j := rfl
  rw [e21, cp, ob]
/-- the picture afterwards -/
def gW (P : sP) (w : sW) (n U : Nat) : sW := (w.1, w.2.1, fun k => if 2 ≤ k ∧ k < 8 then gA w U (k - 2) else w.2.2.1 k, w.2.2.2.1, 2 * U, n - (P.2.1 + 73) + 1)
def gX (P : sP) (w : sW) (ex : Nat → Option sC) : Nat → Option sC := fun a => if w_fa P w ≤ a ∧ a < w_fa P w + 6 then some (w_fc w (a - w_fa P w)) else ex a
def okLay (x : Option ((Nat × Nat) ⊕ (Nat × List Nat))) : Bool := match x with
  | some (.inr o) => o.2.all (fun c => decide (c < 1000))
  | _ => true
theorem lay_1000 : ∀ k, k < 73 → k ≠ 1 → ∀ o, s_lays[k]? = some (.inr o) → ∀ c ∈ o.2, c < 1000 := by
  have this : ∀ k, k < 73 → k ≠ 1 → okLay s_lays[k]? = true := by decide +kernel
  intro k hk h1 o ho c hc
  have := this k hk h1
  rw [ho] at this
  exact of_decide_eq_true (List.all_eq_true.mp this c hc)
theorem w_fvs_ext2 {w' : sW} {k : Nat} : ∀ (fs : List Nat) (j : Nat), (∀ c ∈ fs, c < 1000) → w'.1 = w.1 → w'.2.1 = w.2.1 → w_fvs P w' k j fs = w_fvs P w k j fs := by
  intro fs
  induction fs with
  | nil => intro j _ _ _; rfl
  | cons c r ih =>
    intro j h h1 h2
    have hc := h c List.mem_cons_self
    simp only [w_fvs, ih (j + 1) (fun c hc => h c (List.mem_cons_of_mem _ hc)) h1 h2, w_fv, h1, h2]
    rw [if_pos hc, if_pos hc]
theorem gS_6 (hr : w.2.2.2.2.1 = U) (hn : w_fa P w + 6 ≤ n) (hn3 : P.2.1 + 73 ≤ n) : gS P w ex n sl U 6 = hp P (gW P w n U) (gX P w ex) (n + 6) (sl + 16 * U) := by
  have hfa : w_fa P (gW P w n U) = n := by
    show P.2.1 + 73 + (n - (P.2.1 + 73)) = n
    omega
  have hok := w_fa_ok (P := P) (w := w)
  unfold gS
  refine Prod.ext (funext fun a => ?_) rfl
  dsimp only
  by_cases e1 : a = P.2.1 + 1
  · rw [if_pos e1, e1, hp_at (by decide) (by decide)]
    show _ = some (Sum.inr (2, w_fvs P (gW P w n U) 1 0 [0, 1000, 1001, 1002, 1003, 1004, 1005, 10]))
    refine congrArg (fun z => some (Sum.inr (2, z))) ?_
    simp only [w_fvs, w_fv, hfa]
    rfl
  · rw [if_neg e1]
    show _ = (if a < P.2.1 then P.1 a else if w_fa P (gW P w n U) ≤ a ∧ a < w_fa P (gW P w n U) + 6 then some (w_fc (gW P w n U) (a - w_fa P (gW P w n U))) else if (P.2.1 + 2 ≤ a ∧ a < P.2.1 + 8) ∨ P.2.1 + 73 ≤ a then gX P w ex a else w_cl P (gW P w n U) (a - P.2.1))
    rw [hfa]
    by_cases e2 : n ≤ a ∧ a < n + 6
    · rw [if_pos e2, if_neg (by omega), if_pos e2]
      refine congrArg some ?_
      unfold w_fc gW
      dsimp only
      rw [if_pos (show 2 ≤ a - n + 2 ∧ a - n + 2 < 8 by omega), Nat.add_sub_cancel]
      refine congrArg (fun z => Sum.inl (0, z, Sum.inl (gA w U (a - n)))) ?_
      unfold gL
      by_cases e5 : a - n = 5
      · rw [if_pos e5, if_pos e5]; omega
      · rw [if_neg e5, if_neg e5]
    · rw [if_neg e2, if_neg e2]
      show (if a < P.2.1 then P.1 a else if w_fa P w ≤ a ∧ a < w_fa P w + 6 then some (w_fc w (a - w_fa P w)) else if (P.2.1 + 2 ≤ a ∧ a < P.2.1 + 8) ∨ P.2.1 + 73 ≤ a then ex a else w_cl P w (a - P.2.1)) = _
      by_cases e3 : a < P.2.1
      · rw [if_pos e3, if_pos e3]
      · rw [if_neg e3, if_neg e3]
        by_cases e4 : w_fa P w ≤ a ∧ a < w_fa P w + 6
        · rw [if_pos e4, if_pos (by omega)]
          exact (if_pos e4).symm
        · rw [if_neg e4]
          by_cases e5 : (P.2.1 + 2 ≤ a ∧ a < P.2.1 + 8) ∨ P.2.1 + 73 ≤ a
          · rw [if_pos e5, if_pos e5]
            exact (if_neg e4).symm
          · rw [if_neg e5, if_neg e5]
            have hk : a - P.2.1 < 73 ∧ a - P.2.1 ≠ 1 ∧ ¬ (2 ≤ a - P.2.1 ∧ a - P.2.1 < 8) := by omega
            generalize a - P.2.1 = k at hk
            unfold w_cl
            have hA : (gW P w n U).2.2.1 k = w.2.2.1 k := if_neg hk.2.2
            have hL : (gW P w n U).2.2.2.1 k = w.2.2.2.1 k := rfl
            rw [hA, hL]
            split
            · rfl
            · rename_i o ho
              rw [w_fvs_ext2 (w := w) (w' := gW P w n U) o.2 0 (lay_1000 k hk.1 hk.2.1 o ho) rfl rfl]
            · rfl
theorem c_grow (hu : w.1 1 0 = mI U) (hU1 : 64 ≤ U) (hU2 : U ≤ 4096) (hr : w.2.2.2.2.1 = U) (hn : w_fa P w + 6 ≤ n) (hn3 : P.2.1 + 73 ≤ n) : F_X2_hasRoom (P.2.1 + 1) (hp P w ex n sl) = some (1, hp P (gW P w n U) (gX P w ex) (n + 6) (sl + 16 * U)) := by
  have l0 : s_len (hp P w ex n sl) (w_fa P w + 0) = some (mI U) := by
    unfold s_len
    rw [hp_fa (by decide)]
    unfold w_fc
    rw [hr]
    rfl
  have cp := fun (j : Nat) (hj : j < 6) => gS_copy (P := P) (w := w) (ex := ex) (n := n) (sl := sl) (U := U) hj (by omega) (by omega) hr hn hn3
  have c0 := cp 0 (by decide)
  have c1 := cp 1 (by decide)
  have c2 := cp 2 (by decide)
  have c3 := cp 3 (by decide)
  have c4 := cp 4 (by decide)
  have c5 := cp 5 (by decide)
  have e2 : mI U * 2 = mI (2 * U) := by rw [nmulL, Nat.mul_comm]
  have e3 : mI (2 * U) * 3 = mI (6 * U) := by rw [nmulL]; exact congrArg mI (by show 2 * U * 3 = 6 * U; omega)
  rw [E_X2_hasRoom, z_1, ob, E_X2_hasRoom_0, q_1_0, ob, q_1_1, ob, l0, ob, hu, if_pos (by rw [nle (by omega) (by omega)]; omega), ob, l0, ob, e2, if_neg (by rw [nltL (by omega) (by decide)]; show ¬ 2 * U < 128; omega), if_pos (by rw [nleL (by omega) (by decide)]; show 2 * U ≤ 8192; omega), ob, e3]
  rw [← gS_6 hr hn hn3, ← gS_0 (P := P) (w := w) (ex := ex) (n := n) (sl := sl) (U := U)]
  rw [show gL U 0 = 2 * U from rfl] at c0
  rw [show gL U 1 = 2 * U from rfl] at c1
  rw [show gL U 2 = 2 * U from rfl] at c2
  rw [show gL U 3 = 2 * U from rfl] at c3
  rw [show gL U 4 = 2 * U from rfl] at c4
  rw [show gL U 5 = 6 * U from rfl] at c5
  rw [c0, ob, gS_pf (j := 0) (by decide), ob, gS_fr (j := 1) (by decide), ob, c1, ob, gS_pf (j := 1) (by decide), ob, gS_fr (j := 2) (by decide), ob, c2, ob, gS_pf (j := 2) (by decide), ob, gS_fr (j := 3) (by decide), ob, c3, ob, gS_pf (j := 3) (by decide), ob, gS_fr (j := 4) (by decide), ob, c4, ob, gS_pf (j := 4) (by decide), ob, gS_fr (j := 5) (by decide), ob, c5, ob, gS_pf (j := 5) (by decide), ob]
theorem c_nogrow (hu : w.1 1 0 = mI U) (hU : U < w.2.2.2.2.1) (hr : w.2.2.2.2.1 < 2 ^ 31) : F_X2_hasRoom (P.2.1 + 1) (hp P w ex n sl) = some (1, hp P w ex n sl) := by
  have l0 : s_len (hp P w ex n sl) (w_fa P w + 0) = some (mI w.2.2.2.2.1) := by
    unfold s_len
    rw [hp_fa (by decide)]
    rfl
  rw [E_X2_hasRoom, z_1, ob, E_X2_hasRoom_0, q_1_0, ob, q_1_1, ob, l0, ob, hu, if_neg (by rw [nle (by omega) (by omega)]; omega)]
end GRW
