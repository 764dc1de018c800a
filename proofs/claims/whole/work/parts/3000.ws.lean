/-! LEVEL 3: the law's heap as one picture. Cell k of it lies at b0 + k; int and long fields, int and long arrays are functions of the cell's number; the six arrays of Forms that grow lie at fa .. fa + 5 and are numbers 2 to 7 -/
def s_lays : List ((Nat × Nat) ⊕ (Nat × List Nat)) := [.inr (7, [3, 11, 21, 31, 33, 39, 40, 47, 0]), .inr (2, [0, 1000, 1001, 1002, 1003, 1004, 1005, 10]), .inl (7, 0), .inl (7, 0), .inl (7, 0), .inl (7, 0), .inl (7, 0), .inl (7, 0), .inl (0, 128), .inr (1, [0, 0, 0, 12, 13, 14, 0, 15, 16, 0, 0, 17, 18, 19, 20]), .inl (1, 480), .inl (0, 3), .inl (0, 4), .inl (1, 40), .inl (1, 40), .inl (0, 30), .inl (0, 51), .inl (0, 240), .inl (0, 120), .inr (1, [0, 0, 0, 22, 23, 24, 0, 25, 26, 0, 0, 27, 28, 29, 30]), .inl (1, 480), .inl (0, 3), .inl (0, 4), .inl (1, 40), .inl (1, 40), .inl (0, 30), .inl (0, 51), .inl (0, 240), .inl (0, 120), .inr (5, [0, 0, 3, 32, 0, 0, 0]), .inl (2, 400), .inr (3, [11, 34, 35, 36, 37, 38]), .inl (1, 16), .inl (1, 16), .inl (1, 16), .inl (0, 14), .inl (1, 256), .inr (0, [1, 1, 1, 1, 3, 11]), .inr (4, [3, 11, 41, 42, 43, 44, 45, 46, 0, 0, 0, 0, 0]), .inl (0, 40), .inl (0, 40), .inl (0, 16), .inl (0, 3), .inl (0, 2800), .inl (0, 320), .inr (6, [11, 39]), .inr (8, [0, 49, 50, 0, 51, 52, 53, 0, 0, 0, 0, 0, 0, 0, 0, 54, 55, 56, 57, 58, 59, 60, 61, 62, 63, 64, 65, 66, 67, 68, 69, 70, 71, 0, 0, 0, 72, 73, 0]), .inl (0, 1682), .inl (0, 1682), .inl (0, 72), .inl (0, 2880), .inl (2, 400), .inl (0, 5), .inl (0, 40), .inl (3, 40), .inl (1, 40), .inl (1, 40), .inl (0, 1024), .inl (0, 1088), .inl (0, 4), .inl (0, 40), .inl (0, 40), .inl (0, 40), .inl (0, 120), .inl (3, 40), .inl (3, 1600), .inl (3, 1600), .inl (0, 1600), .inl (0, 1600), .inl (0, 3), .inl (0, 320), .inl (0, 608), .inl (1, 1)]
/-- int fields, long fields, int arrays, long arrays, room of the six arrays, 0 or how far off they lie -/
abbrev sW : Type := (Nat → Nat → Int32) × (Nat → Nat → Int64) × (Nat → Nat → Int32) × (Nat → Nat → Int64) × Nat × Nat
/-- what never changes: cells before the law, its first own cell, addresses of constants -/
abbrev sP : Type := (Nat → Option sC) × Nat × (Nat → Nat)
def up2 {α : Type} (f : Nat → Nat → α) (k j : Nat) (x : α) : Nat → Nat → α := fun k' j' => if k' = k ∧ j' = j then x else f k' j'
def w_fa (P : sP) (w : sW) : Nat := match w.2.2.2.2.2 with
  | 0 => P.2.1 + 2
  | g + 1 => P.2.1 + 73 + g
def w_fv (P : sP) (w : sW) (k j c : Nat) : Value := if c = 0 then .int (w.1 k j) else if c = 1 then .long (w.2.1 k j) else if c < 1000 then .ref (P.2.1 + (c - 2)) else .ref (w_fa P w + (c - 1000))
def w_fvs (P : sP) (w : sW) (k : Nat) : Nat → List Nat → List Value
  | _, [] => []
  | j, c :: r => w_fv P w k j c :: w_fvs P w k (j + 1) r
def w_cl (P : sP) (w : sW) (k : Nat) : Option sC := match s_lays[k]? with
  | some (.inl a) => some (.inl (a.1, a.2, if a.1 = 1 then .inr (.inl (w.2.2.2.1 k)) else .inl (w.2.2.1 k)))
  | some (.inr o) => some (.inr (o.1, w_fvs P w k 0 o.2))
  | none => none
def w_fc (w : sW) (i : Nat) : sC := .inl (0, if i = 5 then 3 * w.2.2.2.2.1 else w.2.2.2.2.1, .inl (w.2.2.1 (i + 2)))
/-- the whole picture; ex: cells that nobody looks at -/
def hp (P : sP) (w : sW) (ex : Nat → Option sC) (n sl : Nat) : sS :=
  (fun a => if a < P.2.1 then P.1 a else if w_fa P w ≤ a ∧ a < w_fa P w + 6 then some (w_fc w (a - w_fa P w)) else if (P.2.1 + 2 ≤ a ∧ a < P.2.1 + 8) ∨ P.2.1 + 73 ≤ a then ex a else w_cl P w (a - P.2.1), n, sl, P.2.2)
section HP
variable {P : sP} {w w' : sW} {ex : Nat → Option sC} {n sl : Nat}
theorem w_fa_ok : w_fa P w = P.2.1 + 2 ∨ P.2.1 + 73 ≤ w_fa P w := by
  unfold w_fa
  split
  · exact Or.inl rfl
  · exact Or.inr (by omega)
theorem hp_at {k : Nat} (h1 : k < 73) (h2 : k < 2 ∨ 8 ≤ k) : (hp P w ex n sl).1 (P.2.1 + k) = w_cl P w k := by
  have h := w_fa_ok (P := P) (w := w)
  show (if P.2.1 + k < P.2.1 then _ else _) = _
  rw [if_neg (by omega), if_neg (by omega), if_neg (by omega), Nat.add_sub_cancel_left]
theorem hp_fa {i : Nat} (h : i < 6) : (hp P w ex n sl).1 (w_fa P w + i) = some (w_fc w i) := by
  have h := w_fa_ok (P := P) (w := w)
  show (if w_fa P w + i < P.2.1 then _ else _) = _
  rw [if_neg (by omega), if_pos (by omega), Nat.add_sub_cancel_left]
theorem hp_ro {a : Nat} (h : a < P.2.1) : (hp P w ex n sl).1 a = P.1 a := if_pos h
theorem hp_up {k : Nat} {c : sC} (h1 : k < 73) (h2 : k < 2 ∨ 8 ≤ k) (hf : w'.2.2.2.2 = w.2.2.2.2) (hA : ∀ i, i < 6 → w'.2.2.1 (i + 2) = w.2.2.1 (i + 2)) (h : w_cl P w' k = some c) (h' : ∀ k', k' ≠ k → w_cl P w' k' = w_cl P w k') : s_up (hp P w ex n sl) (P.2.1 + k) c = hp P w' ex n sl := by
  have hfa : w_fa P w' = w_fa P w := by unfold w_fa; rw [hf]
  have hok := w_fa_ok (P := P) (w := w)
  unfold s_up hp
  refine Prod.ext (funext fun a => ?_) rfl
  dsimp only
  rw [hfa]
  by_cases ea : a = P.2.1 + k
  · rw [if_pos ea, ea, if_neg (by omega), if_neg (by omega), if_neg (by omega), Nat.add_sub_cancel_left, h]
  · rw [if_neg ea]
    split
    · rfl
    · split
      · rename_i g
        unfold w_fc
        rw [hf, hA _ (by omega)]
      · split
        · rfl
        · rw [h' _ (by omega)]
theorem w_fvs_get : ∀ (fs : List Nat) (k j i : Nat), (w_fvs P w k j fs)[i]? = (fs[i]?).map fun c => w_fv P w k (j + i) c := by
  intro fs k
  induction fs with
  | nil => intro j i; simp [w_fvs]
  | cons c r ih =>
    intro j i
    cases i with
    | zero => simp [w_fvs]
    | succ i => simp only [w_fvs, List.getElem?_cons_succ, ih]; rw [show j + 1 + i = j + (i + 1) by omega]
theorem w_fvs_len : ∀ (fs : List Nat) (k j : Nat), (w_fvs P w k j fs).length = fs.length := by
  intro fs k
  induction fs with
  | nil => intro j; rfl
  | cons c r ih => intro j; simp only [w_fvs, List.length_cons, ih]
theorem w_cl_o {k : Nat} {o : Nat × List Nat} (h : s_lays[k]? = some (.inr o)) : w_cl P w k = some (.inr (o.1, w_fvs P w k 0 o.2)) := by unfold w_cl; rw [h]
theorem w_cl_a {k : Nat} {a : Nat × Nat} (h : s_lays[k]? = some (.inl a)) : w_cl P w k = some (.inl (a.1, a.2, if a.1 = 1 then .inr (.inl (w.2.2.2.1 k)) else .inl (w.2.2.1 k))) := by unfold w_cl; rw [h]
theorem s_lays_lt {k : Nat} {x : (Nat × Nat) ⊕ (Nat × List Nat)} (h : s_lays[k]? = some x) : k < 73 := (List.getElem?_eq_some_iff.mp h).1
/-- an object's field -/
theorem hp_fv {k j c : Nat} {o : Nat × List Nat} (h : s_lays[k]? = some (.inr o)) (hk : k < 2 ∨ 8 ≤ k) (hj : o.2[j]? = some c) : s_fv (hp P w ex n sl) (P.2.1 + k) o.1 j = some (w_fv P w k j c) := by
  unfold s_fv
  rw [hp_at (s_lays_lt h) hk, w_cl_o h]
  dsimp only
  rw [if_pos rfl, w_fvs_get, hj, Nat.zero_add]
  rfl
theorem hp_fi {k j : Nat} {o : Nat × List Nat} (h : s_lays[k]? = some (.inr o)) (hk : k < 2 ∨ 8 ≤ k) (hj : o.2[j]? = some 0) : s_fi (hp P w ex n sl) (P.2.1 + k) o.1 j = some (w.1 k j) := by
  unfold s_fi
  rw [hp_fv h hk hj]
  rfl
theorem hp_fl {k j : Nat} {o : Nat × List Nat} (h : s_lays[k]? = some (.inr o)) (hk : k < 2 ∨ 8 ≤ k) (hj : o.2[j]? = some 1) : s_fl (hp P w ex n sl) (P.2.1 + k) o.1 j = some (w.2.1 k j) := by
  unfold s_fl
  rw [hp_fv h hk hj]
  rfl
theorem hp_fr {k j c : Nat} {o : Nat × List Nat} (h : s_lays[k]? = some (.inr o)) (hk : k < 2 ∨ 8 ≤ k) (hj : o.2[j]? = some (c + 2)) (hc : c < 998) : s_fr (hp P w ex n sl) (P.2.1 + k) o.1 j = some (P.2.1 + c) := by
  unfold s_fr
  rw [hp_fv h hk hj]
  unfold w_fv
  rw [if_neg (by omega), if_neg (by omega), if_pos (by omega), Nat.add_sub_cancel]
theorem hp_ff {j i : Nat} (hj : j = i + 1) (hi : i < 6) : s_fr (hp P w ex n sl) (P.2.1 + 1) 2 j = some (w_fa P w + i) := by
  subst hj
  have e : s_lays[1]? = some (.inr (2, [0, 1000, 1001, 1002, 1003, 1004, 1005, 10])) := rfl
  have hj : ([0, 1000, 1001, 1002, 1003, 1004, 1005, 10] : List Nat)[i + 1]? = some (1000 + i) := by
    match i, hi with
    | 0, _ => rfl
    | 1, _ => rfl
    | 2, _ => rfl
    | 3, _ => rfl
    | 4, _ => rfl
    | 5, _ => rfl
  unfold s_fr
  rw [hp_fv (o := (2, [0, 1000, 1001, 1002, 1003, 1004, 1005, 10])) e (by omega) hj]
  unfold w_fv
  rw [if_neg (by omega), if_neg (by omega), if_neg (by omega), show 1000 + i - 1000 = i by omega]
theorem hp_is {k : Nat} {o : Nat × List Nat} (h : s_lays[k]? = some (.inr o)) (hk : k < 2 ∨ 8 ≤ k) : s_is (hp P w ex n sl) (P.2.1 + k) o.1 = some () := by
  unfold s_is
  rw [hp_at (s_lays_lt h) hk, w_cl_o h]
  simp
/-- writing fields -/
abbrev wI (w : sW) (k j : Nat) (v : Int32) : sW := (up2 w.1 k j v, w.2)
abbrev wJ (w : sW) (k j : Nat) (v : Int64) : sW := (w.1, up2 w.2.1 k j v, w.2.2)
abbrev wA (w : sW) (k j : Nat) (v : Int32) : sW := (w.1, w.2.1, up2 w.2.2.1 k j v, w.2.2.2)
abbrev wL (w : sW) (k j : Nat) (v : Int64) : sW := (w.1, w.2.1, w.2.2.1, up2 w.2.2.2.1 k j v, w.2.2.2.2)
theorem up2_k {α : Type} {f : Nat → Nat → α} {k j k' : Nat} {x : α} (h : k' ≠ k) : up2 f k j x k' = f k' := by
  funext j'
  unfold up2
  rw [if_neg (fun g => h g.1)]
theorem w_fvs_ext {k : Nat} : ∀ (fs : List Nat) (j : Nat), w_fa P w' = w_fa P w → (∀ i, w'.1 k i = w.1 k i) → (∀ i, w'.2.1 k i = w.2.1 k i) → w_fvs P w' k j fs = w_fvs P w k j fs := by
  intro fs
  induction fs with
  | nil => intro j _ _ _; rfl
  | cons c r ih =>
    intro j h1 h2 h3
    simp only [w_fvs, ih _ h1 h2 h3, w_fv, h1, h2, h3]
theorem w_cl_ext {k : Nat} (h0 : w_fa P w' = w_fa P w) (h1 : ∀ i, w'.1 k i = w.1 k i) (h2 : ∀ i, w'.2.1 k i = w.2.1 k i) (h3 : w'.2.2.1 k = w.2.2.1 k) (h4 : w'.2.2.2.1 k = w.2.2.2.1 k) : w_cl P w' k = w_cl P w k := by
  unfold w_cl
  rw [h3, h4]
  split
  · rfl
  · rw [w_fvs_ext _ _ h0 h1 h2]
  · rfl
theorem hp_pi {k j : Nat} {o : Nat × List Nat} {v : Int32} (h : s_lays[k]? = some (.inr o)) (hk : k < 2 ∨ 8 ≤ k) (hj : o.2[j]? = some 0) : s_pf (hp P w ex n sl) (P.2.1 + k) o.1 j (.int v) = some (hp P (wI w k j v) ex n sl) := by
  have hl := (List.getElem?_eq_some_iff.mp hj).1
  unfold s_pf
  rw [hp_at (s_lays_lt h) hk, w_cl_o h]
  dsimp only
  rw [if_pos ⟨rfl, by rw [w_fvs_len]; exact hl⟩]
  refine congrArg some (hp_up (s_lays_lt h) hk rfl (fun _ _ => rfl) ?_ ?_)
  · rw [w_cl_o h]
    refine congrArg (fun l => some (Sum.inr (o.1, l))) (List.ext_getElem? fun i => ?_)
    rw [w_fvs_get, List.getElem?_set, w_fvs_get, w_fvs_len, Nat.zero_add]
    by_cases e : j = i
    · subst e
      rw [if_pos rfl, if_pos hl, hj]
      simp [w_fv, up2]
    · rw [if_neg e]
      congr 1
      funext c
      have e' : ¬ i = j := fun g => e g.symm
      show w_fv P (wI w k j v) k i c = w_fv P w k i c
      have e9 : (wI w k j v).1 k i = w.1 k i := if_neg (fun g => e' g.2)
      unfold w_fv
      rw [e9]
      rfl
  · intro k' hk'
    exact w_cl_ext rfl (fun i => by show up2 w.1 k j v k' i = _; rw [up2_k hk']) (fun _ => rfl) rfl rfl
theorem hp_pj {k j : Nat} {o : Nat × List Nat} {v : Int64} (h : s_lays[k]? = some (.inr o)) (hk : k < 2 ∨ 8 ≤ k) (hj : o.2[j]? = some 1) : s_pf (hp P w ex n sl) (P.2.1 + k) o.1 j (.long v) = some (hp P (wJ w k j v) ex n sl) := by
  have hl := (List.getElem?_eq_some_iff.mp hj).1
  unfold s_pf
  rw [hp_at (s_lays_lt h) hk, w_cl_o h]
  dsimp only
  rw [if_pos ⟨rfl, by rw [w_fvs_len]; exact hl⟩]
  refine congrArg some (hp_up (s_lays_lt h) hk rfl (fun _ _ => rfl) ?_ ?_)
  · rw [w_cl_o h]
    refine congrArg (fun l => some (Sum.inr (o.1, l))) (List.ext_getElem? fun i => ?_)
    rw [w_fvs_get, List.getElem?_set, w_fvs_get, w_fvs_len, Nat.zero_add]
    by_cases e : j = i
    · subst e
      rw [if_pos rfl, if_pos hl, hj]
      simp [w_fv, up2]
    · rw [if_neg e]
      congr 1
      funext c
      have e' : ¬ i = j := fun g => e g.symm
      show w_fv P (wJ w k j v) k i c = w_fv P w k i c
      have e9 : (wJ w k j v).2.1 k i = w.2.1 k i := if_neg (fun g => e' g.2)
      unfold w_fv
      rw [e9]
      rfl
  · intro k' hk'
    exact w_cl_ext rfl (fun _ => rfl) (fun i => by show up2 w.2.1 k j v k' i = _; rw [up2_k hk']) rfl rfl
/-- arrays -/
theorem hp_ai {k N : Nat} {i : Int32} (h : s_lays[k]? = some (.inl (0, N))) (hk : k < 2 ∨ 8 ≤ k) (hi : s_out i N = false) : s_ai (hp P w ex n sl) (P.2.1 + k) i = some (w.2.2.1 k i.toNatClampNeg) := by
  unfold s_ai
  rw [hp_at (s_lays_lt h) hk, w_cl_a h]
  dsimp only
  rw [if_neg (by decide)]
  dsimp only
  rw [if_pos ⟨Or.inl rfl, hi⟩]
theorem hp_al {k N : Nat} {i : Int32} (h : s_lays[k]? = some (.inl (1, N))) (hk : k < 2 ∨ 8 ≤ k) (hi : s_out i N = false) : s_al (hp P w ex n sl) (P.2.1 + k) i = some (w.2.2.2.1 k i.toNatClampNeg) := by
  unfold s_al
  rw [hp_at (s_lays_lt h) hk, w_cl_a h]
  dsimp only
  rw [if_pos rfl]
  dsimp only
  rw [if_pos ⟨Or.inl rfl, hi⟩]
theorem hp_ab {k N t : Nat} {i : Int32} (h : s_lays[k]? = some (.inl (t, N))) (ht : t = 2 ∨ t = 3) (hk : k < 2 ∨ 8 ≤ k) (hi : s_out i N = false) : s_ab (hp P w ex n sl) (P.2.1 + k) i = some (w.2.2.1 k i.toNatClampNeg) := by
  unfold s_ab
  rw [hp_at (s_lays_lt h) hk, w_cl_a h]
  dsimp only
  rw [if_neg (by omega)]
  dsimp only
  rw [if_pos ⟨by omega, hi⟩]
theorem hp_len {k N t : Nat} (h : s_lays[k]? = some (.inl (t, N))) (ht : t < 7) (hk : k < 2 ∨ 8 ≤ k) : s_len (hp P w ex n sl) (P.2.1 + k) = some (Int32.ofNat N) := by
  unfold s_len
  rw [hp_at (s_lays_lt h) hk, w_cl_a h]
  dsimp only
  rw [if_pos ht]
theorem up2_v {α : Type} {f : Nat → Nat → α} {k j : Nat} {x : α} : up2 f k j x k = fun i => if i = j then x else f k i := by
  funext i
  unfold up2
  by_cases e : i = j
  · rw [if_pos ⟨rfl, e⟩, if_pos e]
  · rw [if_neg (fun g => e g.2), if_neg e]
theorem hp_si {k N : Nat} {i v : Int32} (h : s_lays[k]? = some (.inl (0, N))) (hk : k < 2 ∨ 8 ≤ k) (hi : s_out i N = false) : s_si (hp P w ex n sl) (P.2.1 + k) i v = some (hp P (wA w k i.toNatClampNeg v) ex n sl) := by
  unfold s_si
  rw [hp_at (s_lays_lt h) hk, w_cl_a h]
  dsimp only
  rw [if_neg (by decide)]
  dsimp only
  rw [if_pos ⟨rfl, hi⟩]
  refine congrArg some (hp_up (s_lays_lt h) hk rfl (fun i hi => up2_k (by omega)) ?_ ?_)
  · rw [w_cl_a h]
    dsimp only
    rw [if_neg (by decide), up2_v]
    rfl
  · intro k' hk'
    exact w_cl_ext rfl (fun _ => rfl) (fun _ => rfl) (up2_k hk') rfl
theorem hp_sl {k N : Nat} {i : Int32} {v : Int64} (h : s_lays[k]? = some (.inl (1, N))) (hk : k < 2 ∨ 8 ≤ k) (hi : s_out i N = false) : s_sl (hp P w ex n sl) (P.2.1 + k) i v = some (hp P (wL w k i.toNatClampNeg v) ex n sl) := by
  unfold s_sl
  rw [hp_at (s_lays_lt h) hk, w_cl_a h]
  dsimp only
  rw [if_pos rfl]
  dsimp only
  rw [if_pos ⟨rfl, hi⟩]
  refine congrArg some (hp_up (s_lays_lt h) hk rfl (fun _ _ => rfl) ?_ ?_)
  · rw [w_cl_a h]
    dsimp only
    rw [if_pos rfl, up2_v]
    rfl
  · intro k' hk'
    exact w_cl_ext rfl (fun _ => rfl) (fun _ => rfl) rfl (up2_k hk')
theorem hp_sb2 {k N : Nat} {i v : Int32} (h : s_lays[k]? = some (.inl (2, N))) (hk : k < 2 ∨ 8 ≤ k) (hi : s_out i N = false) : s_sb (hp P w ex n sl) (P.2.1 + k) i v = some (hp P (wA w k i.toNatClampNeg (vp_nar .byte v)) ex n sl) := by
  unfold s_sb
  rw [hp_at (s_lays_lt h) hk, w_cl_a h]
  dsimp only
  rw [if_neg (by decide)]
  dsimp only
  rw [if_pos hi, if_pos rfl]
  refine congrArg some (hp_up (s_lays_lt h) hk rfl (fun i hi => up2_k (by omega)) ?_ ?_)
  · rw [w_cl_a h]
    dsimp only
    rw [if_neg (by decide), up2_v]
    rfl
  · intro k' hk'
    exact w_cl_ext rfl (fun _ => rfl) (fun _ => rfl) (up2_k hk') rfl
theorem hp_sb3 {k N : Nat} {i v : Int32} (h : s_lays[k]? = some (.inl (3, N))) (hk : k < 2 ∨ 8 ≤ k) (hi : s_out i N = false) : s_sb (hp P w ex n sl) (P.2.1 + k) i v = some (hp P (wA w k i.toNatClampNeg (vp_nar .boolean v)) ex n sl) := by
  unfold s_sb
  rw [hp_at (s_lays_lt h) hk, w_cl_a h]
  dsimp only
  rw [if_neg (by decide)]
  dsimp only
  rw [if_pos hi, if_neg (by decide), if_pos rfl]
  refine congrArg some (hp_up (s_lays_lt h) hk rfl (fun i hi => up2_k (by omega)) ?_ ?_)
  · rw [w_cl_a h]
    dsimp only
    rw [if_neg (by decide), up2_v]
    rfl
  · intro k' hk'
    exact w_cl_ext rfl (fun _ => rfl) (fun _ => rfl) (up2_k hk') rfl
end HP
