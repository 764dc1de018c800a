/-! stand-in -/
noncomputable def F_J0_checkIndex_df160 (_v0 _v1 : Int32) (_σ : sS) : Option (Unit × sS) := none
theorem l_J0_checkIndex_df160 {v0 v1 : Int32} {σ : sS} {q : Unit × sS} (h : F_J0_checkIndex_df160 v0 v1 σ = some q) : s_le σ q.2 := by cases h
theorem t_J0_checkIndex_df160 {G : sG} {d : Nat} {v0 v1 : Int32} {σ : sS} {q : Unit × sS} (h : F_J0_checkIndex_df160 v0 v1 σ = some q) : s_T G (d + 1) M_J0_checkIndex_df160 [.int v0, .int v1] σ (e_V q) := by cases h
