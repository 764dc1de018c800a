/-! each law call, as its pair of calls gives it -/
section LRS
variable {P : sP} {S0 e : Nat} {w : sW} {ex : Nat → Option sC} {n sl D F L R U : Nat} {y : sLn} {φ : Nat → List Nat} {nf : Nat → Nat} {ρ : sRc} {nd : Nat → List Nat}
theorem lr_signs (hI : IVa P S0 e w n sl D F L R U y φ nf ρ nd) (v : Int32) : LR P S0 e (F_L_signs P.2.1 v (P.2.1 + 72) (hp P w ex n sl)) (F_X8_signs (P.2.1 + 46) v) anyI := by
  refine (pr_signs hI v).lr (fun x σ1 h _ => by
    rw [E_L_signs, E_L_signs_0, h, ob]
    try dsimp only
    rw [sumL]) (fun E k σ1 hm h => ?_) (by decide)
  · rw [E_L_signs, E_L_signs_0, h, ob]
    try dsimp only
    rw [sumR]
    simp only [List.mem_cons, Prod.mk.injEq, List.not_mem_nil, or_false] at hm
    obtain ⟨rfl, rfl⟩ := hm
    rw [if_pos rfl]
theorem lr_same (hI : IVa P S0 e w n sl D F L R U y φ nf ρ nd) (v v' : Int32) : LR P S0 e (F_L_same P.2.1 v v' (P.2.1 + 72) (hp P w ex n sl)) (F_X8_same (P.2.1 + 46) v v') bolI := by
  refine (pr_same hI v v').lr (fun x σ1 h hB => by
    rw [E_L_same, E_L_same_0, h, ob]
    try dsimp only
    rw [sumL]
    rcases hB with rfl | rfl
    · rw [if_pos rfl, E_L_same_16]; rfl
    · rw [if_neg (by decide), E_L_same_16]; rfl) (fun E k σ1 hm h => ?_) (by decide)
  · rw [E_L_same, E_L_same_0, h, ob]
    try dsimp only
    rw [sumR]
    simp only [List.mem_cons, Prod.mk.injEq, List.not_mem_nil, or_false] at hm
    obtain ⟨rfl, rfl⟩ := hm
    rw [if_pos rfl]
theorem lr_holds (hI : IVa P S0 e w n sl D F L R U y φ nf ρ nd) (v v' : Int32) : LR P S0 e (F_L_holds P.2.1 v v' (P.2.1 + 72) (hp P w ex n sl)) (F_X8_holds (P.2.1 + 46) v v') bolI := by
  refine (pr_holds hI v v').lr (fun x σ1 h hB => by
    rw [E_L_holds, E_L_holds_0, h, ob]
    try dsimp only
    rw [sumL]
    rcases hB with rfl | rfl
    · rw [if_pos rfl, E_L_holds_16]; rfl
    · rw [if_neg (by decide), E_L_holds_16]; rfl) (fun E k σ1 hm h => ?_) (by decide)
  · rw [E_L_holds, E_L_holds_0, h, ob]
    try dsimp only
    rw [sumR]
    simp only [List.mem_cons, Prod.mk.injEq, List.not_mem_nil, or_false] at hm
    rcases hm with ⟨rfl, rfl⟩ | ⟨rfl, rfl⟩
    · rw [if_pos rfl]
    · rw [if_neg (by decide)]; rw [if_pos rfl]
theorem lr_worlds (hI : IVa P S0 e w n sl D F L R U y φ nf ρ nd) (v : Int32) : LR P S0 e (F_L_worlds P.2.1 v (P.2.1 + 72) (hp P w ex n sl)) (F_X8_worlds (P.2.1 + 46) v) anyI := by
  refine (pr_worlds hI v).lr (fun x σ1 h _ => by
    rw [E_L_worlds, E_L_worlds_0, h, ob]
    try dsimp only
    rw [sumL]) (fun E k σ1 hm h => ?_) (by decide)
  · rw [E_L_worlds, E_L_worlds_0, h, ob]
    try dsimp only
    rw [sumR]
    simp only [List.mem_cons, Prod.mk.injEq, List.not_mem_nil, or_false] at hm
    obtain ⟨rfl, rfl⟩ := hm
    rw [if_pos rfl]
theorem lr_truths (hI : IVa P S0 e w n sl D F L R U y φ nf ρ nd) (v : Int32) : LR P S0 e (F_L_truths P.2.1 v (P.2.1 + 72) (hp P w ex n sl)) (F_X8_truths (P.2.1 + 46) v) anyI := by
  refine (pr_truths hI v).lr (fun x σ1 h _ => by
    rw [E_L_truths, E_L_truths_0, h, ob]
    try dsimp only
    rw [sumL]) (fun E k σ1 hm h => ?_) (by decide)
  · rw [E_L_truths, E_L_truths_0, h, ob]
    try dsimp only
    rw [sumR]
    simp only [List.mem_cons, Prod.mk.injEq, List.not_mem_nil, or_false] at hm
    obtain ⟨rfl, rfl⟩ := hm
    rw [if_pos rfl]
theorem lr_alike (hI : IVa P S0 e w n sl D F L R U y φ nf ρ nd) (v : Int32) : LR P S0 e (F_L_alike P.2.1 v (P.2.1 + 72) (hp P w ex n sl)) (F_X8_alike (P.2.1 + 46) v) anyI := by
  refine (pr_alike hI v).lr (fun x σ1 h _ => by
    rw [E_L_alike, E_L_alike_0, h, ob]
    try dsimp only
    rw [sumL]) (fun E k σ1 hm h => ?_) (by decide)
  · rw [E_L_alike, E_L_alike_0, h, ob]
    try dsimp only
    rw [sumR]
    simp only [List.mem_cons, Prod.mk.injEq, List.not_mem_nil, or_false] at hm
    obtain ⟨rfl, rfl⟩ := hm
    rw [if_pos rfl]
theorem lr_follows (hI : IVa P S0 e w n sl D F L R U y φ nf ρ nd) (v v' : Int32) : LR P S0 e (F_L_follows P.2.1 v v' (P.2.1 + 72) (hp P w ex n sl)) (F_X8_follows (P.2.1 + 46) v v') bolI := by
  refine (pr_follows hI v v').lr (fun x σ1 h hB => by
    rw [E_L_follows, E_L_follows_0, h, ob]
    try dsimp only
    rw [sumL]
    rcases hB with rfl | rfl
    · rw [if_pos rfl, E_L_follows_16]; rfl
    · rw [if_neg (by decide), E_L_follows_16]; rfl) (fun E k σ1 hm h => ?_) (by decide)
  · rw [E_L_follows, E_L_follows_0, h, ob]
    try dsimp only
    rw [sumR]
    simp only [List.mem_cons, Prod.mk.injEq, List.not_mem_nil, or_false] at hm
    obtain ⟨rfl, rfl⟩ := hm
    rw [if_pos rfl]
theorem lr_counter (hI : IVa P S0 e w n sl D F L R U y φ nf ρ nd) (v v' : Int32) : LR P S0 e (F_L_counter P.2.1 v v' (P.2.1 + 72) (hp P w ex n sl)) (F_X8_counter (P.2.1 + 46) v v') anyI := by
  refine (pr_counter hI v v').lr (fun x σ1 h _ => by
    rw [E_L_counter, E_L_counter_0, h, ob]
    try dsimp only
    rw [sumL]) (fun E k σ1 hm h => ?_) (by decide)
  · rw [E_L_counter, E_L_counter_0, h, ob]
    try dsimp only
    rw [sumR]
    simp only [List.mem_cons, Prod.mk.injEq, List.not_mem_nil, or_false] at hm
    obtain ⟨rfl, rfl⟩ := hm
    rw [if_pos rfl]
theorem lr_agree (hI : IVa P S0 e w n sl D F L R U y φ nf ρ nd) (v v' : Int32) : LR P S0 e (F_L_agree P.2.1 v v' (P.2.1 + 72) (hp P w ex n sl)) (F_X8_agree (P.2.1 + 46) v v') anyI := by
  refine (pr_agree hI v v').lr (fun x σ1 h _ => by
    rw [E_L_agree, E_L_agree_0, h, ob]
    try dsimp only
    rw [sumL]) (fun E k σ1 hm h => ?_) (by decide)
  · rw [E_L_agree, E_L_agree_0, h, ob]
    try dsimp only
    rw [sumR]
    simp only [List.mem_cons, Prod.mk.injEq, List.not_mem_nil, or_false] at hm
    obtain ⟨rfl, rfl⟩ := hm
    rw [if_pos rfl]
theorem lr_beliefs (hI : IVa P S0 e w n sl D F L R U y φ nf ρ nd) (v : Int32) : LR P S0 e (F_L_beliefs P.2.1 v (P.2.1 + 72) (hp P w ex n sl)) (F_X8_beliefs (P.2.1 + 46) v) anyI := by
  refine (pr_beliefs hI v).lr (fun x σ1 h _ => by
    rw [E_L_beliefs, E_L_beliefs_0, h, ob]
    try dsimp only
    rw [sumL]) (fun E k σ1 hm h => ?_) (by decide)
  · rw [E_L_beliefs, E_L_beliefs_0, h, ob]
    try dsimp only
    rw [sumR]
    simp only [List.mem_cons, Prod.mk.injEq, List.not_mem_nil, or_false] at hm
    obtain ⟨rfl, rfl⟩ := hm
    rw [if_pos rfl]
theorem lr_idle (hI : IVa P S0 e w n sl D F L R U y φ nf ρ nd) (v : Int32) : LR P S0 e (F_L_idle P.2.1 v (P.2.1 + 72) (hp P w ex n sl)) (F_X8_idle (P.2.1 + 46) v) anyI := by
  refine (pr_idle hI v).lr (fun x σ1 h _ => by
    rw [E_L_idle, E_L_idle_0, h, ob]
    try dsimp only
    rw [sumL]) (fun E k σ1 hm h => ?_) (by decide)
  · rw [E_L_idle, E_L_idle_0, h, ob]
    try dsimp only
    rw [sumR]
    simp only [List.mem_cons, Prod.mk.injEq, List.not_mem_nil, or_false] at hm
    obtain ⟨rfl, rfl⟩ := hm
    rw [if_pos rfl]
theorem lr_look (hI : IVa P S0 e w n sl D F L R U y φ nf ρ nd) (v v' : Int32) : LR P S0 e (F_L_look P.2.1 v v' (P.2.1 + 72) (hp P w ex n sl)) (F_X8_look (P.2.1 + 46) v v') anyI := by
  refine (pr_look hI v v').lr (fun x σ1 h _ => by
    rw [E_L_look, E_L_look_0, h, ob]
    try dsimp only
    rw [sumL]) (fun E k σ1 hm h => ?_) (by decide)
  · rw [E_L_look, E_L_look_0, h, ob]
    try dsimp only
    rw [sumR]
    simp only [List.mem_cons, Prod.mk.injEq, List.not_mem_nil, or_false] at hm
    rcases hm with ⟨rfl, rfl⟩ | ⟨rfl, rfl⟩
    · rw [if_pos rfl]
    · rw [if_neg (by decide)]; rw [if_pos rfl]
theorem lr_is (hA : KA P) (hI : IVa P S0 e w n sl D F L R U y φ nf ρ nd) (v v' : Int32) : LR P S0 e (F_L_is P.2.1 v v' (P.2.1 + 72) (hp P w ex n sl)) (F_X8_is (P.2.1 + 46) v v') bolI := by
  refine (pr_is hA hI v v').lr (fun x σ1 h hB => by
    rw [E_L_is, E_L_is_0, h, ob]
    try dsimp only
    rw [sumL]
    rcases hB with rfl | rfl
    · rw [if_pos rfl, E_L_is_16]; rfl
    · rw [if_neg (by decide), E_L_is_16]; rfl) (fun E k σ1 hm h => ?_) (by decide)
  · rw [E_L_is, E_L_is_0, h, ob]
    try dsimp only
    rw [sumR]
    simp only [List.mem_cons, Prod.mk.injEq, List.not_mem_nil, or_false] at hm
    rcases hm with ⟨rfl, rfl⟩ | ⟨rfl, rfl⟩
    · rw [if_pos rfl]
    · rw [if_neg (by decide)]; rw [if_pos rfl]
theorem lr_rests (hI : IVa P S0 e w n sl D F L R U y φ nf ρ nd) (v : Int32) : LJ P S0 e (F_L_rests P.2.1 v (P.2.1 + 72) (hp P w ex n sl)) (F_X8_rests (P.2.1 + 46) v) := by
  refine (pr_rests hI v).lr (fun x σ1 h => by
    rw [E_L_rests, E_L_rests_0, h, ob]
    try dsimp only
    rw [sumL]) (fun E k σ1 hm h => ?_) (by decide)
  · rw [E_L_rests, E_L_rests_0, h, ob]
    try dsimp only
    rw [sumR]
    simp only [List.mem_cons, Prod.mk.injEq, List.not_mem_nil, or_false] at hm
    obtain ⟨rfl, rfl⟩ := hm
    rw [if_pos rfl]
theorem lr_needs (hI : IVa P S0 e w n sl D F L R U y φ nf ρ nd) (v : Int32) : LJ P S0 e (F_L_needs P.2.1 v (P.2.1 + 72) (hp P w ex n sl)) (F_X8_needs (P.2.1 + 46) v) := by
  refine (pr_needs hI v).lr (fun x σ1 h => by
    rw [E_L_needs, E_L_needs_0, h, ob]
    try dsimp only
    rw [sumL]) (fun E k σ1 hm h => ?_) (by decide)
  · rw [E_L_needs, E_L_needs_0, h, ob]
    try dsimp only
    rw [sumR]
    simp only [List.mem_cons, Prod.mk.injEq, List.not_mem_nil, or_false] at hm
    obtain ⟨rfl, rfl⟩ := hm
    rw [if_pos rfl]
theorem lr_spent (hI : IVa P S0 e w n sl D F L R U y φ nf ρ nd) (v : Int32) : LR P S0 e (F_L_spent P.2.1 v (P.2.1 + 72) (hp P w ex n sl)) (F_X8_spent (P.2.1 + 46) v) anyI := by
  refine (pr_spent hI v).lr (fun x σ1 h _ => by
    rw [E_L_spent, E_L_spent_0, h, ob]
    try dsimp only
    rw [sumL]) (fun E k σ1 hm h => ?_) (by decide)
  · rw [E_L_spent, E_L_spent_0, h, ob]
    try dsimp only
    rw [sumR]
    simp only [List.mem_cons, Prod.mk.injEq, List.not_mem_nil, or_false] at hm
    obtain ⟨rfl, rfl⟩ := hm
    rw [if_pos rfl]
theorem lr_chain (hI : IVa P S0 e w n sl D F L R U y φ nf ρ nd) (v : Int32) : LR P S0 e (F_L_chain P.2.1 v (P.2.1 + 72) (hp P w ex n sl)) (F_X8_chain (P.2.1 + 46) v) anyI := by
  refine (pr_chain hI v).lr (fun x σ1 h _ => by
    rw [E_L_chain, E_L_chain_0, h, ob]
    try dsimp only
    rw [sumL]) (fun E k σ1 hm h => ?_) (by decide)
  · rw [E_L_chain, E_L_chain_0, h, ob]
    try dsimp only
    rw [sumR]
    simp only [List.mem_cons, Prod.mk.injEq, List.not_mem_nil, or_false] at hm
    obtain ⟨rfl, rfl⟩ := hm
    rw [if_pos rfl]
theorem lr_rules (hI : IVa P S0 e w n sl D F L R U y φ nf ρ nd) (v v' : Int32) : LR P S0 e (F_L_rules P.2.1 v v' (P.2.1 + 72) (hp P w ex n sl)) (F_X8_rules (P.2.1 + 46) v v') anyI := by
  refine (pr_rules hI v v').lr (fun x σ1 h _ => by
    rw [E_L_rules, E_L_rules_0, h, ob]
    try dsimp only
    rw [sumL]) (fun E k σ1 hm h => ?_) (by decide)
  · rw [E_L_rules, E_L_rules_0, h, ob]
    try dsimp only
    rw [sumR]
    simp only [List.mem_cons, Prod.mk.injEq, List.not_mem_nil, or_false] at hm
    rcases hm with ⟨rfl, rfl⟩ | ⟨rfl, rfl⟩
    · rw [if_pos rfl]
    · rw [if_neg (by decide)]; rw [if_pos rfl]
theorem lr_price (hI : IVa P S0 e w n sl D F L R U y φ nf ρ nd) (v v' c : Int32) : LR P S0 e (F_L_price P.2.1 v v' c (P.2.1 + 72) (hp P w ex n sl)) (F_X8_price (P.2.1 + 46) v v' c) anyI := by
  refine (pr_price hI v v' c).lr (fun x σ1 h _ => by
    rw [E_L_price, E_L_price_0, h, ob]
    try dsimp only
    rw [sumL]) (fun E k σ1 hm h => ?_) (by decide)
  · rw [E_L_price, E_L_price_0, h, ob]
    try dsimp only
    rw [sumR]
    simp only [List.mem_cons, Prod.mk.injEq, List.not_mem_nil, or_false] at hm
    rcases hm with ⟨rfl, rfl⟩ | ⟨rfl, rfl⟩
    · rw [if_pos rfl]
    · rw [if_neg (by decide)]; rw [if_pos rfl]
theorem lr_believe (hI : IVa P S0 e w n sl D F L R U y φ nf ρ nd) (v v' c : Int32) (hc : c = 0 ∨ c = 1) : LR P S0 e (F_L_believe P.2.1 v v' c (P.2.1 + 72) (hp P w ex n sl)) (F_X8_believe (P.2.1 + 46) v v' c) bolI := by
  refine (pr_believe hI v v' c hc).lr (fun x σ1 h hB => by
    rw [E_L_believe, E_L_believe_0, h, ob]
    try dsimp only
    rw [sumL]
    rcases hB with rfl | rfl
    · rw [if_pos rfl, E_L_believe_18]; rfl
    · rw [if_neg (by decide), E_L_believe_18]; rfl) (fun E k σ1 hm h => ?_) (by decide)
  · rw [E_L_believe, E_L_believe_0, h, ob]
    try dsimp only
    rw [sumR]
    simp only [List.mem_cons, Prod.mk.injEq, List.not_mem_nil, or_false] at hm
    obtain ⟨rfl, rfl⟩ := hm
    rw [if_pos rfl]
theorem lr_refunds (hA : KA P) (hI : IVa P S0 e w n sl D F L R U y φ nf ρ nd) (v : Int32) : LR P S0 e (F_L_refunds P.2.1 v (P.2.1 + 72) (hp P w ex n sl)) (F_X8_refunds (P.2.1 + 46) v) anyI := by
  refine (pr_refunds hA hI v).lr (fun x σ1 h _ => by
    rw [E_L_refunds, E_L_refunds_0, h, ob]
    try dsimp only
    rw [sumL]) (fun E k σ1 hm h => ?_) (by decide)
  · rw [E_L_refunds, E_L_refunds_0, h, ob]
    try dsimp only
    rw [sumR]
    simp only [List.mem_cons, Prod.mk.injEq, List.not_mem_nil, or_false] at hm
    obtain ⟨rfl, rfl⟩ := hm
    rw [if_pos rfl]
theorem lr_gains (hA : KA P) (hI : IVa P S0 e w n sl D F L R U y φ nf ρ nd) (v v' : Int32) : LR P S0 e (F_L_gains P.2.1 v v' (P.2.1 + 72) (hp P w ex n sl)) (F_X8_gains (P.2.1 + 46) v v') anyI := by
  refine (pr_gains hA hI v v').lr (fun x σ1 h _ => by
    rw [E_L_gains, E_L_gains_0, h, ob]
    try dsimp only
    rw [sumL]) (fun E k σ1 hm h => ?_) (by decide)
  · rw [E_L_gains, E_L_gains_0, h, ob]
    try dsimp only
    rw [sumR]
    simp only [List.mem_cons, Prod.mk.injEq, List.not_mem_nil, or_false] at hm
    rcases hm with ⟨rfl, rfl⟩ | ⟨rfl, rfl⟩
    · rw [if_pos rfl]
    · rw [if_neg (by decide)]; rw [if_pos rfl]
theorem lr_owes (hA : KA P) (hI : IVa P S0 e w n sl D F L R U y φ nf ρ nd) (v b v' : Int32) : LR P S0 e (F_L_owes P.2.1 v b v' (P.2.1 + 72) (hp P w ex n sl)) (F_X8_owes (P.2.1 + 46) v b v') anyI := by
  refine (pr_owes hA hI v b v').lr (fun x σ1 h _ => by
    rw [E_L_owes, E_L_owes_0, h, ob]
    try dsimp only
    rw [sumL]) (fun E k σ1 hm h => ?_) (by decide)
  · rw [E_L_owes, E_L_owes_0, h, ob]
    try dsimp only
    rw [sumR]
    simp only [List.mem_cons, Prod.mk.injEq, List.not_mem_nil, or_false] at hm
    rcases hm with ⟨rfl, rfl⟩ | ⟨rfl, rfl⟩
    · rw [if_pos rfl]
    · rw [if_neg (by decide)]; rw [if_pos rfl]
theorem lr_falls (hI : IVa P S0 e w n sl D F L R U y φ nf ρ nd) (v v' : Int32) : LJ P S0 e (F_L_falls P.2.1 v v' (P.2.1 + 72) (hp P w ex n sl)) (F_X8_falls (P.2.1 + 46) v v') := by
  refine (pr_falls hI v v').lr (fun x σ1 h => by
    rw [E_L_falls, E_L_falls_0, h, ob]
    try dsimp only
    rw [sumL]) (fun E k σ1 hm h => ?_) (by decide)
  · rw [E_L_falls, E_L_falls_0, h, ob]
    try dsimp only
    rw [sumR]
    simp only [List.mem_cons, Prod.mk.injEq, List.not_mem_nil, or_false] at hm
    obtain ⟨rfl, rfl⟩ := hm
    rw [if_pos rfl]
theorem lr_sell (hI : IVa P S0 e w n sl D F L R U y φ nf ρ nd) (v b c d : Int32) : LR P S0 e (F_L_sell P.2.1 v b c d (P.2.1 + 72) (hp P w ex n sl)) (F_X8_sell (P.2.1 + 46) v b c d) anyI := by
  refine (pr_sell hI v b c d).lr (fun x σ1 h _ => by
    rw [E_L_sell, E_L_sell_0, h, ob]
    try dsimp only
    rw [sumL]) (fun E k σ1 hm h => ?_) (by decide)
  · rw [E_L_sell, E_L_sell_0, h, ob]
    try dsimp only
    rw [sumR]
    simp only [List.mem_cons, Prod.mk.injEq, List.not_mem_nil, or_false] at hm
    rcases hm with ⟨rfl, rfl⟩ | ⟨rfl, rfl⟩ | ⟨rfl, rfl⟩
    · rw [if_pos rfl]
    · rw [if_neg (by decide)]; rw [if_pos rfl]
    · rw [if_neg (by decide)]; rw [if_neg (by decide)]; rw [if_pos rfl]
theorem lr_undo (hI : IVa P S0 e w n sl D F L R U y φ nf ρ nd) (v : Int32) : LR P S0 e (F_L_undo P.2.1 v (P.2.1 + 72) (hp P w ex n sl)) (F_X8_undo (P.2.1 + 46) v) bolI := by
  refine (pr_undo hI v).lr (fun x σ1 h hB => by
    rw [E_L_undo, E_L_undo_0, h, ob]
    try dsimp only
    rw [sumL]
    rcases hB with rfl | rfl
    · rw [if_pos rfl, E_L_undo_15]; rfl
    · rw [if_neg (by decide), E_L_undo_15]; rfl) (fun E k σ1 hm h => ?_) (by decide)
  · rw [E_L_undo, E_L_undo_0, h, ob]
    try dsimp only
    rw [sumR]
    simp only [List.mem_cons, Prod.mk.injEq, List.not_mem_nil, or_false] at hm
    obtain ⟨rfl, rfl⟩ := hm
    rw [if_pos rfl]
theorem lr_line (hI : IVa P S0 e w n sl D F L R U y φ nf ρ nd) (x1 x2 r a b c : Int32) : LR P S0 e (F_L_line P.2.1 x1 x2 r a b c (P.2.1 + 72) (hp P w ex n sl)) (F_X8_line (P.2.1 + 46) x1 x2 r a b c) anyI := by
  refine (pr_line hI x1 x2 r a b c).lr (fun x σ1 h _ => by
    rw [E_L_line, E_L_line_0, h, ob]
    try dsimp only
    rw [sumL]) (fun E k σ1 hm h => ?_) (by decide)
  · rw [E_L_line, E_L_line_0, h, ob]
    try dsimp only
    rw [sumR]
    simp only [List.mem_cons, Prod.mk.injEq, List.not_mem_nil, or_false] at hm
    rcases hm with ⟨rfl, rfl⟩ | ⟨rfl, rfl⟩ | ⟨rfl, rfl⟩
    · rw [if_pos rfl]
    · rw [if_neg (by decide)]; rw [if_pos rfl]
    · rw [if_neg (by decide)]; rw [if_neg (by decide)]; rw [if_pos rfl]
theorem lr_formula (hK : KS P) (hC : KC P) (hI : IVa P S0 e w n sl D F L R U y φ nf ρ nd) : LR P S0 e (F_L_formula P.2.1 (P.2.1 + 72) (hp P w ex n sl)) (F_X8_formula (P.2.1 + 46)) anyI := by
  refine (pr_formula hK hC hI).lr (fun x σ1 h _ => by
    rw [E_L_formula, E_L_formula_0, h, ob]
    try dsimp only
    rw [sumL]) (fun E k σ1 hm h => ?_) (by decide)
  · rw [E_L_formula, E_L_formula_0, h, ob]
    try dsimp only
    rw [sumR]
    simp only [List.mem_cons, Prod.mk.injEq, List.not_mem_nil, or_false] at hm
    rcases hm with ⟨rfl, rfl⟩ | ⟨rfl, rfl⟩
    · rw [if_pos rfl]
    · rw [if_neg (by decide)]; rw [if_pos rfl]
theorem lr_withdraw (hI : IVa P S0 e w n sl D F L R U y φ nf ρ nd) (v : Int32) : LR P S0 e (F_L_withdraw P.2.1 v (P.2.1 + 72) (hp P w ex n sl)) (F_X8_withdraw (P.2.1 + 46) v) anyI := by
  refine (pr_withdraw hI v).lr (fun x σ1 h _ => by
    rw [E_L_withdraw, E_L_withdraw_0, h, ob]
    try dsimp only
    rw [sumL]) (fun E k σ1 hm h => ?_) (by decide)
  · rw [E_L_withdraw, E_L_withdraw_0, h, ob]
    try dsimp only
    rw [sumR]
    simp only [List.mem_cons, Prod.mk.injEq, List.not_mem_nil, or_false] at hm
    obtain ⟨rfl, rfl⟩ := hm
    rw [if_pos rfl]
theorem lr_core (hK : KC P) (hI : IVa P S0 e w n sl D F L R U y φ nf ρ nd) (v : Int32) : LR P S0 e (F_L_core P.2.1 v (P.2.1 + 72) (hp P w ex n sl)) (F_X8_core (P.2.1 + 46) v) anyI := by
  refine (pr_core hK hI v).lr (fun x σ1 h _ => by
    rw [E_L_core, E_L_core_0, h, ob]
    try dsimp only
    rw [sumL]) (fun E k σ1 hm h => ?_) (by decide)
  · rw [E_L_core, E_L_core_0, h, ob]
    try dsimp only
    rw [sumR]
    simp only [List.mem_cons, Prod.mk.injEq, List.not_mem_nil, or_false] at hm
    obtain ⟨rfl, rfl⟩ := hm
    rw [if_pos rfl]
theorem lr_more (hI : IVa P S0 e w n sl D F L R U y φ nf ρ nd) (v v' : Int32) : LR P S0 e (F_L_more P.2.1 v v' (P.2.1 + 72) (hp P w ex n sl)) (F_X8_more (P.2.1 + 46) v v') anyI := by
  refine (pr_more hI v v').lr (fun x σ1 h _ => by
    rw [E_L_more, E_L_more_0, h, ob]
    try dsimp only
    rw [sumL]) (fun E k σ1 hm h => ?_) (by decide)
  · rw [E_L_more, E_L_more_0, h, ob]
    try dsimp only
    rw [sumR]
    simp only [List.mem_cons, Prod.mk.injEq, List.not_mem_nil, or_false] at hm
    obtain ⟨rfl, rfl⟩ := hm
    rw [if_pos rfl]
theorem lr_cheapest (hI : IVa P S0 e w n sl D F L R U y φ nf ρ nd) (v1 v2 v3 : Int32) : LR P S0 e (F_L_cheapest P.2.1 v1 v2 v3 (P.2.1 + 72) (hp P w ex n sl)) (F_X8_cheapest (P.2.1 + 46) v1 v2 v3) anyI := by
  refine (pr_cheapest hI v1 v2 v3).lr (fun x σ1 h _ => by
    rw [E_L_cheapest, E_L_cheapest_0, h, ob]
    try dsimp only
    rw [sumL]) (fun E k σ1 hm h => ?_) (by decide)
  · rw [E_L_cheapest, E_L_cheapest_0, h, ob]
    try dsimp only
    rw [sumR]
    simp only [List.mem_cons, Prod.mk.injEq, List.not_mem_nil, or_false] at hm
    obtain ⟨rfl, rfl⟩ := hm
    rw [if_pos rfl]
theorem lr_lastly (hI : IVa P S0 e w n sl D F L R U y φ nf ρ nd) (v1 v2 v3 : Int32) : LR P S0 e (F_L_lastly P.2.1 v1 v2 v3 (P.2.1 + 72) (hp P w ex n sl)) (F_X8_lastly (P.2.1 + 46) v1 v2 v3) anyI := by
  refine (pr_lastly hI v1 v2 v3).lr (fun x σ1 h _ => by
    rw [E_L_lastly, E_L_lastly_0, h, ob]
    try dsimp only
    rw [sumL]) (fun E k σ1 hm h => ?_) (by decide)
  · rw [E_L_lastly, E_L_lastly_0, h, ob]
    try dsimp only
    rw [sumR]
    simp only [List.mem_cons, Prod.mk.injEq, List.not_mem_nil, or_false] at hm
    obtain ⟨rfl, rfl⟩ := hm
    rw [if_pos rfl]
theorem lr_resold (hI : IVa P S0 e w n sl D F L R U y φ nf ρ nd) (v1 v2 v3 : Int32) : LR P S0 e (F_L_resold P.2.1 v1 v2 v3 (P.2.1 + 72) (hp P w ex n sl)) (F_X8_resold (P.2.1 + 46) v1 v2 v3) anyI := by
  refine (pr_resold hI v1 v2 v3).lr (fun x σ1 h _ => by
    rw [E_L_resold, E_L_resold_0, h, ob]
    try dsimp only
    rw [sumL]) (fun E k σ1 hm h => ?_) (by decide)
  · rw [E_L_resold, E_L_resold_0, h, ob]
    try dsimp only
    rw [sumR]
    simp only [List.mem_cons, Prod.mk.injEq, List.not_mem_nil, or_false] at hm
    obtain ⟨rfl, rfl⟩ := hm
    rw [if_pos rfl]
theorem lr_forward (hI : IVa P S0 e w n sl D F L R U y φ nf ρ nd) (v1 v2 v3 : Int32) : LR P S0 e (F_L_forward P.2.1 v1 v2 v3 (P.2.1 + 72) (hp P w ex n sl)) (F_X8_forward (P.2.1 + 46) v1 v2 v3) anyI := by
  refine (pr_forward hI v1 v2 v3).lr (fun x σ1 h _ => by
    rw [E_L_forward, E_L_forward_0, h, ob]
    try dsimp only
    rw [sumL]) (fun E k σ1 hm h => ?_) (by decide)
  · rw [E_L_forward, E_L_forward_0, h, ob]
    try dsimp only
    rw [sumR]
    simp only [List.mem_cons, Prod.mk.injEq, List.not_mem_nil, or_false] at hm
    obtain ⟨rfl, rfl⟩ := hm
    rw [if_pos rfl]
theorem lr_where (hI : IVa P S0 e w n sl D F L R U y φ nf ρ nd) (v1 v2 : Int32) : LR P S0 e (F_L_where P.2.1 v1 v2 (P.2.1 + 72) (hp P w ex n sl)) (F_X8_where (P.2.1 + 46) v1 v2) anyI := by
  refine (pr_where hI v1 v2).lr (fun x σ1 h _ => by
    rw [E_L_where, E_L_where_0, h, ob]
    try dsimp only
    rw [sumL]) (fun E k σ1 hm h => ?_) (by decide)
  · rw [E_L_where, E_L_where_0, h, ob]
    try dsimp only
    rw [sumR]
    simp only [List.mem_cons, Prod.mk.injEq, List.not_mem_nil, or_false] at hm
    obtain ⟨rfl, rfl⟩ := hm
    rw [if_pos rfl]
end LRS
