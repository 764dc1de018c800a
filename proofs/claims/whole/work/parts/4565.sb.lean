/-! a byte with its sign -/
def sB (c : Nat) : Int32 := if c < 128 then mI c else mI c - 256
theorem sB_lo : ∀ c, c < 256 → ∀ l, l < 128 → (sB c < mI l ↔ (c < l ∨ 128 ≤ c)) := by decide +kernel
theorem sB_hi : ∀ c, c < 256 → ∀ l, l < 128 → (mI l < sB c ↔ (l < c ∧ c < 128)) := by decide +kernel
theorem sB_eq : ∀ c, c < 256 → ∀ l, l < 128 → (sB c = mI l ↔ c = l) := by decide +kernel
theorem sB_s {c : Nat} (h : c < 128) : sB c = mI c := if_pos h
theorem gd_l {l l' : List Nat} {k : Nat} (h : k < l.length) : (l ++ l').getD k 0 = l.getD k 0 := by
  rw [List.getD_eq_getElem?_getD, List.getD_eq_getElem?_getD, List.getElem?_append_left h]
theorem gd_r {l l' : List Nat} {k : Nat} (h : l.length ≤ k) : (l ++ l').getD k 0 = l'.getD (k - l.length) 0 := by
  rw [List.getD_eq_getElem?_getD, List.getD_eq_getElem?_getD, List.getElem?_append_right h]
