def B_L_line : List (List Nat) := [[25, 7, 3, 42, 27, 28, 29, 21, 4, 21, 5, 21, 6, 182, 0, 54, 133, 80, 167, 0, 15, 58, 8, 4, 172, 58, 8, 5, 172, 58, 8, 6, 172, 3, 172]]
theorem k_L_line (j i : Nat) {b : Nat} (h : (B_L_line[j]?.bind fun c => c[i]?) = some b) : s_by cL_line (64 * j + i) b := s_byC (L := B_L_line) (by decide +kernel) (by decide +kernel) j i h
theorem dL_line_0 : decode cL_line 0 = .ok (.aload 7, 2) := dz_25 (k_L_line 0 0 rfl) (k_L_line 0 1 rfl)
theorem dL_line_2 : decode cL_line 2 = .ok (.iconst 0, 1) := dz_3 (k_L_line 0 2 rfl)
theorem dL_line_3 : decode cL_line 3 = .ok (.aload_n 0, 1) := dz_42 (k_L_line 0 3 rfl)
theorem dL_line_4 : decode cL_line 4 = .ok (.iload_n 1, 1) := dz_27 (k_L_line 0 4 rfl)
theorem dL_line_5 : decode cL_line 5 = .ok (.iload_n 2, 1) := dz_28 (k_L_line 0 5 rfl)
theorem dL_line_6 : decode cL_line 6 = .ok (.iload_n 3, 1) := dz_29 (k_L_line 0 6 rfl)
theorem dL_line_7 : decode cL_line 7 = .ok (.iload 4, 2) := dz_21 (k_L_line 0 7 rfl) (k_L_line 0 8 rfl)
theorem dL_line_9 : decode cL_line 9 = .ok (.iload 5, 2) := dz_21 (k_L_line 0 9 rfl) (k_L_line 0 10 rfl)
theorem dL_line_11 : decode cL_line 11 = .ok (.iload 6, 2) := dz_21 (k_L_line 0 11 rfl) (k_L_line 0 12 rfl)
theorem dL_line_13 : decode cL_line 13 = .ok (.invokevirtual 54, 3) := dz_182 (k_L_line 0 13 rfl) (k_L_line 0 14 rfl) (k_L_line 0 15 rfl) rfl
theorem dL_line_16 : decode cL_line 16 = .ok (.i2l, 1) := dz_133 (k_L_line 0 16 rfl)
theorem dL_line_17 : decode cL_line 17 = .ok (.lastore, 1) := dz_80 (k_L_line 0 17 rfl)
theorem dL_line_18 : decode cL_line 18 = .ok (.goto 15, 3) := dz_167 (k_L_line 0 18 rfl) (k_L_line 0 19 rfl) (k_L_line 0 20 rfl) rfl
theorem dL_line_21 : decode cL_line 21 = .ok (.astore 8, 2) := dz_58 (k_L_line 0 21 rfl) (k_L_line 0 22 rfl)
theorem dL_line_23 : decode cL_line 23 = .ok (.iconst 1, 1) := dz_4 (k_L_line 0 23 rfl)
theorem dL_line_24 : decode cL_line 24 = .ok (.ireturn, 1) := dz_172 (k_L_line 0 24 rfl)
theorem dL_line_25 : decode cL_line 25 = .ok (.astore 8, 2) := dz_58 (k_L_line 0 25 rfl) (k_L_line 0 26 rfl)
theorem dL_line_27 : decode cL_line 27 = .ok (.iconst 2, 1) := dz_5 (k_L_line 0 27 rfl)
theorem dL_line_28 : decode cL_line 28 = .ok (.ireturn, 1) := dz_172 (k_L_line 0 28 rfl)
theorem dL_line_29 : decode cL_line 29 = .ok (.astore 8, 2) := dz_58 (k_L_line 0 29 rfl) (k_L_line 0 30 rfl)
theorem dL_line_31 : decode cL_line 31 = .ok (.iconst 3, 1) := dz_6 (k_L_line 0 31 rfl)
theorem dL_line_32 : decode cL_line 32 = .ok (.ireturn, 1) := dz_172 (k_L_line 0 32 rfl)
theorem dL_line_33 : decode cL_line 33 = .ok (.iconst 0, 1) := dz_3 (k_L_line 0 33 rfl)
theorem dL_line_34 : decode cL_line 34 = .ok (.ireturn, 1) := dz_172 (k_L_line 0 34 rfl)
def B_L_look : List (List Nat) := [[45, 3, 42, 27, 28, 182, 0, 58, 133, 80, 167, 0, 11, 58, 4, 4, 172, 58, 4, 5, 172, 3, 172]]
theorem k_L_look (j i : Nat) {b : Nat} (h : (B_L_look[j]?.bind fun c => c[i]?) = some b) : s_by cL_look (64 * j + i) b := s_byC (L := B_L_look) (by decide +kernel) (by decide +kernel) j i h
theorem dL_look_0 : decode cL_look 0 = .ok (.aload_n 3, 1) := dz_45 (k_L_look 0 0 rfl)
theorem dL_look_1 : decode cL_look 1 = .ok (.iconst 0, 1) := dz_3 (k_L_look 0 1 rfl)
theorem dL_look_2 : decode cL_look 2 = .ok (.aload_n 0, 1) := dz_42 (k_L_look 0 2 rfl)
theorem dL_look_3 : decode cL_look 3 = .ok (.iload_n 1, 1) := dz_27 (k_L_look 0 3 rfl)
theorem dL_look_4 : decode cL_look 4 = .ok (.iload_n 2, 1) := dz_28 (k_L_look 0 4 rfl)
theorem dL_look_5 : decode cL_look 5 = .ok (.invokevirtual 58, 3) := dz_182 (k_L_look 0 5 rfl) (k_L_look 0 6 rfl) (k_L_look 0 7 rfl) rfl
theorem dL_look_8 : decode cL_look 8 = .ok (.i2l, 1) := dz_133 (k_L_look 0 8 rfl)
theorem dL_look_9 : decode cL_look 9 = .ok (.lastore, 1) := dz_80 (k_L_look 0 9 rfl)
theorem dL_look_10 : decode cL_look 10 = .ok (.goto 11, 3) := dz_167 (k_L_look 0 10 rfl) (k_L_look 0 11 rfl) (k_L_look 0 12 rfl) rfl
theorem dL_look_13 : decode cL_look 13 = .ok (.astore 4, 2) := dz_58 (k_L_look 0 13 rfl) (k_L_look 0 14 rfl)
theorem dL_look_15 : decode cL_look 15 = .ok (.iconst 1, 1) := dz_4 (k_L_look 0 15 rfl)
theorem dL_look_16 : decode cL_look 16 = .ok (.ireturn, 1) := dz_172 (k_L_look 0 16 rfl)
theorem dL_look_17 : decode cL_look 17 = .ok (.astore 4, 2) := dz_58 (k_L_look 0 17 rfl) (k_L_look 0 18 rfl)
theorem dL_look_19 : decode cL_look 19 = .ok (.iconst 2, 1) := dz_5 (k_L_look 0 19 rfl)
theorem dL_look_20 : decode cL_look 20 = .ok (.ireturn, 1) := dz_172 (k_L_look 0 20 rfl)
theorem dL_look_21 : decode cL_look 21 = .ok (.iconst 0, 1) := dz_3 (k_L_look 0 21 rfl)
theorem dL_look_22 : decode cL_look 22 = .ok (.ireturn, 1) := dz_172 (k_L_look 0 22 rfl)
def B_L_more : List (List Nat) := [[45, 3, 42, 27, 28, 182, 0, 119, 133, 80, 167, 0, 7, 58, 4, 4, 172, 3, 172]]
theorem k_L_more (j i : Nat) {b : Nat} (h : (B_L_more[j]?.bind fun c => c[i]?) = some b) : s_by cL_more (64 * j + i) b := s_byC (L := B_L_more) (by decide +kernel) (by decide +kernel) j i h
theorem dL_more_0 : decode cL_more 0 = .ok (.aload_n 3, 1) := dz_45 (k_L_more 0 0 rfl)
theorem dL_more_1 : decode cL_more 1 = .ok (.iconst 0, 1) := dz_3 (k_L_more 0 1 rfl)
theorem dL_more_2 : decode cL_more 2 = .ok (.aload_n 0, 1) := dz_42 (k_L_more 0 2 rfl)
theorem dL_more_3 : decode cL_more 3 = .ok (.iload_n 1, 1) := dz_27 (k_L_more 0 3 rfl)
theorem dL_more_4 : decode cL_more 4 = .ok (.iload_n 2, 1) := dz_28 (k_L_more 0 4 rfl)
theorem dL_more_5 : decode cL_more 5 = .ok (.invokevirtual 119, 3) := dz_182 (k_L_more 0 5 rfl) (k_L_more 0 6 rfl) (k_L_more 0 7 rfl) rfl
theorem dL_more_8 : decode cL_more 8 = .ok (.i2l, 1) := dz_133 (k_L_more 0 8 rfl)
theorem dL_more_9 : decode cL_more 9 = .ok (.lastore, 1) := dz_80 (k_L_more 0 9 rfl)
theorem dL_more_10 : decode cL_more 10 = .ok (.goto 7, 3) := dz_167 (k_L_more 0 10 rfl) (k_L_more 0 11 rfl) (k_L_more 0 12 rfl) rfl
theorem dL_more_13 : decode cL_more 13 = .ok (.astore 4, 2) := dz_58 (k_L_more 0 13 rfl) (k_L_more 0 14 rfl)
theorem dL_more_15 : decode cL_more 15 = .ok (.iconst 1, 1) := dz_4 (k_L_more 0 15 rfl)
theorem dL_more_16 : decode cL_more 16 = .ok (.ireturn, 1) := dz_172 (k_L_more 0 16 rfl)
theorem dL_more_17 : decode cL_more 17 = .ok (.iconst 0, 1) := dz_3 (k_L_more 0 17 rfl)
theorem dL_more_18 : decode cL_more 18 = .ok (.ireturn, 1) := dz_172 (k_L_more 0 18 rfl)
def B_L_needs : List (List Nat) := [[44, 3, 42, 27, 182, 0, 70, 80, 167, 0, 6, 78, 4, 172, 3, 172]]
theorem k_L_needs (j i : Nat) {b : Nat} (h : (B_L_needs[j]?.bind fun c => c[i]?) = some b) : s_by cL_needs (64 * j + i) b := s_byC (L := B_L_needs) (by decide +kernel) (by decide +kernel) j i h
theorem dL_needs_0 : decode cL_needs 0 = .ok (.aload_n 2, 1) := dz_44 (k_L_needs 0 0 rfl)
theorem dL_needs_1 : decode cL_needs 1 = .ok (.iconst 0, 1) := dz_3 (k_L_needs 0 1 rfl)
theorem dL_needs_2 : decode cL_needs 2 = .ok (.aload_n 0, 1) := dz_42 (k_L_needs 0 2 rfl)
theorem dL_needs_3 : decode cL_needs 3 = .ok (.iload_n 1, 1) := dz_27 (k_L_needs 0 3 rfl)
theorem dL_needs_4 : decode cL_needs 4 = .ok (.invokevirtual 70, 3) := dz_182 (k_L_needs 0 4 rfl) (k_L_needs 0 5 rfl) (k_L_needs 0 6 rfl) rfl
theorem dL_needs_7 : decode cL_needs 7 = .ok (.lastore, 1) := dz_80 (k_L_needs 0 7 rfl)
theorem dL_needs_8 : decode cL_needs 8 = .ok (.goto 6, 3) := dz_167 (k_L_needs 0 8 rfl) (k_L_needs 0 9 rfl) (k_L_needs 0 10 rfl) rfl
theorem dL_needs_11 : decode cL_needs 11 = .ok (.astore_n 3, 1) := dz_78 (k_L_needs 0 11 rfl)
theorem dL_needs_12 : decode cL_needs 12 = .ok (.iconst 1, 1) := dz_4 (k_L_needs 0 12 rfl)
theorem dL_needs_13 : decode cL_needs 13 = .ok (.ireturn, 1) := dz_172 (k_L_needs 0 13 rfl)
theorem dL_needs_14 : decode cL_needs 14 = .ok (.iconst 0, 1) := dz_3 (k_L_needs 0 14 rfl)
theorem dL_needs_15 : decode cL_needs 15 = .ok (.ireturn, 1) := dz_172 (k_L_needs 0 15 rfl)
def B_L_owes : List (List Nat) := [[25, 4, 3, 42, 27, 28, 29, 182, 0, 133, 133, 80, 167, 0, 11, 58, 5, 4, 172, 58, 5, 5, 172, 3, 172]]
theorem k_L_owes (j i : Nat) {b : Nat} (h : (B_L_owes[j]?.bind fun c => c[i]?) = some b) : s_by cL_owes (64 * j + i) b := s_byC (L := B_L_owes) (by decide +kernel) (by decide +kernel) j i h
theorem dL_owes_0 : decode cL_owes 0 = .ok (.aload 4, 2) := dz_25 (k_L_owes 0 0 rfl) (k_L_owes 0 1 rfl)
theorem dL_owes_2 : decode cL_owes 2 = .ok (.iconst 0, 1) := dz_3 (k_L_owes 0 2 rfl)
theorem dL_owes_3 : decode cL_owes 3 = .ok (.aload_n 0, 1) := dz_42 (k_L_owes 0 3 rfl)
theorem dL_owes_4 : decode cL_owes 4 = .ok (.iload_n 1, 1) := dz_27 (k_L_owes 0 4 rfl)
theorem dL_owes_5 : decode cL_owes 5 = .ok (.iload_n 2, 1) := dz_28 (k_L_owes 0 5 rfl)
theorem dL_owes_6 : decode cL_owes 6 = .ok (.iload_n 3, 1) := dz_29 (k_L_owes 0 6 rfl)
theorem dL_owes_7 : decode cL_owes 7 = .ok (.invokevirtual 133, 3) := dz_182 (k_L_owes 0 7 rfl) (k_L_owes 0 8 rfl) (k_L_owes 0 9 rfl) rfl
theorem dL_owes_10 : decode cL_owes 10 = .ok (.i2l, 1) := dz_133 (k_L_owes 0 10 rfl)
theorem dL_owes_11 : decode cL_owes 11 = .ok (.lastore, 1) := dz_80 (k_L_owes 0 11 rfl)
theorem dL_owes_12 : decode cL_owes 12 = .ok (.goto 11, 3) := dz_167 (k_L_owes 0 12 rfl) (k_L_owes 0 13 rfl) (k_L_owes 0 14 rfl) rfl
theorem dL_owes_15 : decode cL_owes 15 = .ok (.astore 5, 2) := dz_58 (k_L_owes 0 15 rfl) (k_L_owes 0 16 rfl)
theorem dL_owes_17 : decode cL_owes 17 = .ok (.iconst 1, 1) := dz_4 (k_L_owes 0 17 rfl)
theorem dL_owes_18 : decode cL_owes 18 = .ok (.ireturn, 1) := dz_172 (k_L_owes 0 18 rfl)
theorem dL_owes_19 : decode cL_owes 19 = .ok (.astore 5, 2) := dz_58 (k_L_owes 0 19 rfl) (k_L_owes 0 20 rfl)
theorem dL_owes_21 : decode cL_owes 21 = .ok (.iconst 2, 1) := dz_5 (k_L_owes 0 21 rfl)
theorem dL_owes_22 : decode cL_owes 22 = .ok (.ireturn, 1) := dz_172 (k_L_owes 0 22 rfl)
theorem dL_owes_23 : decode cL_owes 23 = .ok (.iconst 0, 1) := dz_3 (k_L_owes 0 23 rfl)
theorem dL_owes_24 : decode cL_owes 24 = .ok (.ireturn, 1) := dz_172 (k_L_owes 0 24 rfl)
def B_L_price : List (List Nat) := [[25, 4, 3, 42, 27, 28, 29, 182, 0, 43, 133, 80, 167, 0, 11, 58, 5, 4, 172, 58, 5, 5, 172, 3, 172]]
theorem k_L_price (j i : Nat) {b : Nat} (h : (B_L_price[j]?.bind fun c => c[i]?) = some b) : s_by cL_price (64 * j + i) b := s_byC (L := B_L_price) (by decide +kernel) (by decide +kernel) j i h
theorem dL_price_0 : decode cL_price 0 = .ok (.aload 4, 2) := dz_25 (k_L_price 0 0 rfl) (k_L_price 0 1 rfl)
theorem dL_price_2 : decode cL_price 2 = .ok (.iconst 0, 1) := dz_3 (k_L_price 0 2 rfl)
theorem dL_price_3 : decode cL_price 3 = .ok (.aload_n 0, 1) := dz_42 (k_L_price 0 3 rfl)
theorem dL_price_4 : decode cL_price 4 = .ok (.iload_n 1, 1) := dz_27 (k_L_price 0 4 rfl)
theorem dL_price_5 : decode cL_price 5 = .ok (.iload_n 2, 1) := dz_28 (k_L_price 0 5 rfl)
theorem dL_price_6 : decode cL_price 6 = .ok (.iload_n 3, 1) := dz_29 (k_L_price 0 6 rfl)
theorem dL_price_7 : decode cL_price 7 = .ok (.invokevirtual 43, 3) := dz_182 (k_L_price 0 7 rfl) (k_L_price 0 8 rfl) (k_L_price 0 9 rfl) rfl
theorem dL_price_10 : decode cL_price 10 = .ok (.i2l, 1) := dz_133 (k_L_price 0 10 rfl)
theorem dL_price_11 : decode cL_price 11 = .ok (.lastore, 1) := dz_80 (k_L_price 0 11 rfl)
theorem dL_price_12 : decode cL_price 12 = .ok (.goto 11, 3) := dz_167 (k_L_price 0 12 rfl) (k_L_price 0 13 rfl) (k_L_price 0 14 rfl) rfl
theorem dL_price_15 : decode cL_price 15 = .ok (.astore 5, 2) := dz_58 (k_L_price 0 15 rfl) (k_L_price 0 16 rfl)
theorem dL_price_17 : decode cL_price 17 = .ok (.iconst 1, 1) := dz_4 (k_L_price 0 17 rfl)
theorem dL_price_18 : decode cL_price 18 = .ok (.ireturn, 1) := dz_172 (k_L_price 0 18 rfl)
theorem dL_price_19 : decode cL_price 19 = .ok (.astore 5, 2) := dz_58 (k_L_price 0 19 rfl) (k_L_price 0 20 rfl)
theorem dL_price_21 : decode cL_price 21 = .ok (.iconst 2, 1) := dz_5 (k_L_price 0 21 rfl)
theorem dL_price_22 : decode cL_price 22 = .ok (.ireturn, 1) := dz_172 (k_L_price 0 22 rfl)
theorem dL_price_23 : decode cL_price 23 = .ok (.iconst 0, 1) := dz_3 (k_L_price 0 23 rfl)
theorem dL_price_24 : decode cL_price 24 = .ok (.ireturn, 1) := dz_172 (k_L_price 0 24 rfl)
def B_L_refunds : List (List Nat) := [[44, 3, 42, 27, 182, 0, 136, 133, 80, 167, 0, 6, 78, 4, 172, 3, 172]]
theorem k_L_refunds (j i : Nat) {b : Nat} (h : (B_L_refunds[j]?.bind fun c => c[i]?) = some b) : s_by cL_refunds (64 * j + i) b := s_byC (L := B_L_refunds) (by decide +kernel) (by decide +kernel) j i h
theorem dL_refunds_0 : decode cL_refunds 0 = .ok (.aload_n 2, 1) := dz_44 (k_L_refunds 0 0 rfl)
theorem dL_refunds_1 : decode cL_refunds 1 = .ok (.iconst 0, 1) := dz_3 (k_L_refunds 0 1 rfl)
theorem dL_refunds_2 : decode cL_refunds 2 = .ok (.aload_n 0, 1) := dz_42 (k_L_refunds 0 2 rfl)
theorem dL_refunds_3 : decode cL_refunds 3 = .ok (.iload_n 1, 1) := dz_27 (k_L_refunds 0 3 rfl)
theorem dL_refunds_4 : decode cL_refunds 4 = .ok (.invokevirtual 136, 3) := dz_182 (k_L_refunds 0 4 rfl) (k_L_refunds 0 5 rfl) (k_L_refunds 0 6 rfl) rfl
theorem dL_refunds_7 : decode cL_refunds 7 = .ok (.i2l, 1) := dz_133 (k_L_refunds 0 7 rfl)
theorem dL_refunds_8 : decode cL_refunds 8 = .ok (.lastore, 1) := dz_80 (k_L_refunds 0 8 rfl)
theorem dL_refunds_9 : decode cL_refunds 9 = .ok (.goto 6, 3) := dz_167 (k_L_refunds 0 9 rfl) (k_L_refunds 0 10 rfl) (k_L_refunds 0 11 rfl) rfl
theorem dL_refunds_12 : decode cL_refunds 12 = .ok (.astore_n 3, 1) := dz_78 (k_L_refunds 0 12 rfl)
theorem dL_refunds_13 : decode cL_refunds 13 = .ok (.iconst 1, 1) := dz_4 (k_L_refunds 0 13 rfl)
theorem dL_refunds_14 : decode cL_refunds 14 = .ok (.ireturn, 1) := dz_172 (k_L_refunds 0 14 rfl)
theorem dL_refunds_15 : decode cL_refunds 15 = .ok (.iconst 0, 1) := dz_3 (k_L_refunds 0 15 rfl)
theorem dL_refunds_16 : decode cL_refunds 16 = .ok (.ireturn, 1) := dz_172 (k_L_refunds 0 16 rfl)
def B_L_resold : List (List Nat) := [[25, 4, 3, 42, 27, 28, 29, 182, 0, 95, 133, 80, 167, 0, 7, 58, 5, 4, 172, 3, 172]]
theorem k_L_resold (j i : Nat) {b : Nat} (h : (B_L_resold[j]?.bind fun c => c[i]?) = some b) : s_by cL_resold (64 * j + i) b := s_byC (L := B_L_resold) (by decide +kernel) (by decide +kernel) j i h
theorem dL_resold_0 : decode cL_resold 0 = .ok (.aload 4, 2) := dz_25 (k_L_resold 0 0 rfl) (k_L_resold 0 1 rfl)
theorem dL_resold_2 : decode cL_resold 2 = .ok (.iconst 0, 1) := dz_3 (k_L_resold 0 2 rfl)
theorem dL_resold_3 : decode cL_resold 3 = .ok (.aload_n 0, 1) := dz_42 (k_L_resold 0 3 rfl)
theorem dL_resold_4 : decode cL_resold 4 = .ok (.iload_n 1, 1) := dz_27 (k_L_resold 0 4 rfl)
theorem dL_resold_5 : decode cL_resold 5 = .ok (.iload_n 2, 1) := dz_28 (k_L_resold 0 5 rfl)
theorem dL_resold_6 : decode cL_resold 6 = .ok (.iload_n 3, 1) := dz_29 (k_L_resold 0 6 rfl)
theorem dL_resold_7 : decode cL_resold 7 = .ok (.invokevirtual 95, 3) := dz_182 (k_L_resold 0 7 rfl) (k_L_resold 0 8 rfl) (k_L_resold 0 9 rfl) rfl
theorem dL_resold_10 : decode cL_resold 10 = .ok (.i2l, 1) := dz_133 (k_L_resold 0 10 rfl)
theorem dL_resold_11 : decode cL_resold 11 = .ok (.lastore, 1) := dz_80 (k_L_resold 0 11 rfl)
theorem dL_resold_12 : decode cL_resold 12 = .ok (.goto 7, 3) := dz_167 (k_L_resold 0 12 rfl) (k_L_resold 0 13 rfl) (k_L_resold 0 14 rfl) rfl
theorem dL_resold_15 : decode cL_resold 15 = .ok (.astore 5, 2) := dz_58 (k_L_resold 0 15 rfl) (k_L_resold 0 16 rfl)
theorem dL_resold_17 : decode cL_resold 17 = .ok (.iconst 1, 1) := dz_4 (k_L_resold 0 17 rfl)
theorem dL_resold_18 : decode cL_resold 18 = .ok (.ireturn, 1) := dz_172 (k_L_resold 0 18 rfl)
theorem dL_resold_19 : decode cL_resold 19 = .ok (.iconst 0, 1) := dz_3 (k_L_resold 0 19 rfl)
theorem dL_resold_20 : decode cL_resold 20 = .ok (.ireturn, 1) := dz_172 (k_L_resold 0 20 rfl)
def B_L_rests : List (List Nat) := [[44, 3, 42, 27, 182, 0, 66, 80, 167, 0, 6, 78, 4, 172, 3, 172]]
theorem k_L_rests (j i : Nat) {b : Nat} (h : (B_L_rests[j]?.bind fun c => c[i]?) = some b) : s_by cL_rests (64 * j + i) b := s_byC (L := B_L_rests) (by decide +kernel) (by decide +kernel) j i h
theorem dL_rests_0 : decode cL_rests 0 = .ok (.aload_n 2, 1) := dz_44 (k_L_rests 0 0 rfl)
theorem dL_rests_1 : decode cL_rests 1 = .ok (.iconst 0, 1) := dz_3 (k_L_rests 0 1 rfl)
theorem dL_rests_2 : decode cL_rests 2 = .ok (.aload_n 0, 1) := dz_42 (k_L_rests 0 2 rfl)
theorem dL_rests_3 : decode cL_rests 3 = .ok (.iload_n 1, 1) := dz_27 (k_L_rests 0 3 rfl)
theorem dL_rests_4 : decode cL_rests 4 = .ok (.invokevirtual 66, 3) := dz_182 (k_L_rests 0 4 rfl) (k_L_rests 0 5 rfl) (k_L_rests 0 6 rfl) rfl
theorem dL_rests_7 : decode cL_rests 7 = .ok (.lastore, 1) := dz_80 (k_L_rests 0 7 rfl)
theorem dL_rests_8 : decode cL_rests 8 = .ok (.goto 6, 3) := dz_167 (k_L_rests 0 8 rfl) (k_L_rests 0 9 rfl) (k_L_rests 0 10 rfl) rfl
theorem dL_rests_11 : decode cL_rests 11 = .ok (.astore_n 3, 1) := dz_78 (k_L_rests 0 11 rfl)
theorem dL_rests_12 : decode cL_rests 12 = .ok (.iconst 1, 1) := dz_4 (k_L_rests 0 12 rfl)
theorem dL_rests_13 : decode cL_rests 13 = .ok (.ireturn, 1) := dz_172 (k_L_rests 0 13 rfl)
theorem dL_rests_14 : decode cL_rests 14 = .ok (.iconst 0, 1) := dz_3 (k_L_rests 0 14 rfl)
theorem dL_rests_15 : decode cL_rests 15 = .ok (.ireturn, 1) := dz_172 (k_L_rests 0 15 rfl)
def B_L_rules : List (List Nat) := [[45, 3, 42, 27, 28, 182, 0, 39, 133, 80, 167, 0, 11, 58, 4, 4, 172, 58, 4, 5, 172, 3, 172]]
theorem k_L_rules (j i : Nat) {b : Nat} (h : (B_L_rules[j]?.bind fun c => c[i]?) = some b) : s_by cL_rules (64 * j + i) b := s_byC (L := B_L_rules) (by decide +kernel) (by decide +kernel) j i h
theorem dL_rules_0 : decode cL_rules 0 = .ok (.aload_n 3, 1) := dz_45 (k_L_rules 0 0 rfl)
theorem dL_rules_1 : decode cL_rules 1 = .ok (.iconst 0, 1) := dz_3 (k_L_rules 0 1 rfl)
theorem dL_rules_2 : decode cL_rules 2 = .ok (.aload_n 0, 1) := dz_42 (k_L_rules 0 2 rfl)
theorem dL_rules_3 : decode cL_rules 3 = .ok (.iload_n 1, 1) := dz_27 (k_L_rules 0 3 rfl)
theorem dL_rules_4 : decode cL_rules 4 = .ok (.iload_n 2, 1) := dz_28 (k_L_rules 0 4 rfl)
theorem dL_rules_5 : decode cL_rules 5 = .ok (.invokevirtual 39, 3) := dz_182 (k_L_rules 0 5 rfl) (k_L_rules 0 6 rfl) (k_L_rules 0 7 rfl) rfl
theorem dL_rules_8 : decode cL_rules 8 = .ok (.i2l, 1) := dz_133 (k_L_rules 0 8 rfl)
theorem dL_rules_9 : decode cL_rules 9 = .ok (.lastore, 1) := dz_80 (k_L_rules 0 9 rfl)
theorem dL_rules_10 : decode cL_rules 10 = .ok (.goto 11, 3) := dz_167 (k_L_rules 0 10 rfl) (k_L_rules 0 11 rfl) (k_L_rules 0 12 rfl) rfl
theorem dL_rules_13 : decode cL_rules 13 = .ok (.astore 4, 2) := dz_58 (k_L_rules 0 13 rfl) (k_L_rules 0 14 rfl)
theorem dL_rules_15 : decode cL_rules 15 = .ok (.iconst 1, 1) := dz_4 (k_L_rules 0 15 rfl)
theorem dL_rules_16 : decode cL_rules 16 = .ok (.ireturn, 1) := dz_172 (k_L_rules 0 16 rfl)
theorem dL_rules_17 : decode cL_rules 17 = .ok (.astore 4, 2) := dz_58 (k_L_rules 0 17 rfl) (k_L_rules 0 18 rfl)
theorem dL_rules_19 : decode cL_rules 19 = .ok (.iconst 2, 1) := dz_5 (k_L_rules 0 19 rfl)
theorem dL_rules_20 : decode cL_rules 20 = .ok (.ireturn, 1) := dz_172 (k_L_rules 0 20 rfl)
theorem dL_rules_21 : decode cL_rules 21 = .ok (.iconst 0, 1) := dz_3 (k_L_rules 0 21 rfl)
theorem dL_rules_22 : decode cL_rules 22 = .ok (.ireturn, 1) := dz_172 (k_L_rules 0 22 rfl)
def B_L_same : List (List Nat) := [[45, 3, 42, 27, 28, 182, 0, 29, 153, 0, 7, 10, 167, 0, 4, 9, 80, 167, 0, 7, 58, 4, 4, 172, 3, 172]]
theorem k_L_same (j i : Nat) {b : Nat} (h : (B_L_same[j]?.bind fun c => c[i]?) = some b) : s_by cL_same (64 * j + i) b := s_byC (L := B_L_same) (by decide +kernel) (by decide +kernel) j i h
theorem dL_same_0 : decode cL_same 0 = .ok (.aload_n 3, 1) := dz_45 (k_L_same 0 0 rfl)
theorem dL_same_1 : decode cL_same 1 = .ok (.iconst 0, 1) := dz_3 (k_L_same 0 1 rfl)
theorem dL_same_2 : decode cL_same 2 = .ok (.aload_n 0, 1) := dz_42 (k_L_same 0 2 rfl)
theorem dL_same_3 : decode cL_same 3 = .ok (.iload_n 1, 1) := dz_27 (k_L_same 0 3 rfl)
theorem dL_same_4 : decode cL_same 4 = .ok (.iload_n 2, 1) := dz_28 (k_L_same 0 4 rfl)
theorem dL_same_5 : decode cL_same 5 = .ok (.invokevirtual 29, 3) := dz_182 (k_L_same 0 5 rfl) (k_L_same 0 6 rfl) (k_L_same 0 7 rfl) rfl
theorem dL_same_8 : decode cL_same 8 = .ok (.ifCond .eq 7, 3) := dz_153 (k_L_same 0 8 rfl) (k_L_same 0 9 rfl) (k_L_same 0 10 rfl) rfl
theorem dL_same_11 : decode cL_same 11 = .ok (.lconst 1, 1) := dz_10 (k_L_same 0 11 rfl)
theorem dL_same_12 : decode cL_same 12 = .ok (.goto 4, 3) := dz_167 (k_L_same 0 12 rfl) (k_L_same 0 13 rfl) (k_L_same 0 14 rfl) rfl
theorem dL_same_15 : decode cL_same 15 = .ok (.lconst 0, 1) := dz_9 (k_L_same 0 15 rfl)
theorem dL_same_16 : decode cL_same 16 = .ok (.lastore, 1) := dz_80 (k_L_same 0 16 rfl)
theorem dL_same_17 : decode cL_same 17 = .ok (.goto 7, 3) := dz_167 (k_L_same 0 17 rfl) (k_L_same 0 18 rfl) (k_L_same 0 19 rfl) rfl
theorem dL_same_20 : decode cL_same 20 = .ok (.astore 4, 2) := dz_58 (k_L_same 0 20 rfl) (k_L_same 0 21 rfl)
theorem dL_same_22 : decode cL_same 22 = .ok (.iconst 1, 1) := dz_4 (k_L_same 0 22 rfl)
theorem dL_same_23 : decode cL_same 23 = .ok (.ireturn, 1) := dz_172 (k_L_same 0 23 rfl)
theorem dL_same_24 : decode cL_same 24 = .ok (.iconst 0, 1) := dz_3 (k_L_same 0 24 rfl)
theorem dL_same_25 : decode cL_same 25 = .ok (.ireturn, 1) := dz_172 (k_L_same 0 25 rfl)
def B_L_sell : List (List Nat) := [[25, 5, 3, 42, 27, 28, 29, 21, 4, 182, 0, 125, 133, 80, 167, 0, 15, 58, 6, 4, 172, 58, 6, 5, 172, 58, 6, 6, 172, 3, 172]]
theorem k_L_sell (j i : Nat) {b : Nat} (h : (B_L_sell[j]?.bind fun c => c[i]?) = some b) : s_by cL_sell (64 * j + i) b := s_byC (L := B_L_sell) (by decide +kernel) (by decide +kernel) j i h
theorem dL_sell_0 : decode cL_sell 0 = .ok (.aload 5, 2) := dz_25 (k_L_sell 0 0 rfl) (k_L_sell 0 1 rfl)
theorem dL_sell_2 : decode cL_sell 2 = .ok (.iconst 0, 1) := dz_3 (k_L_sell 0 2 rfl)
theorem dL_sell_3 : decode cL_sell 3 = .ok (.aload_n 0, 1) := dz_42 (k_L_sell 0 3 rfl)
theorem dL_sell_4 : decode cL_sell 4 = .ok (.iload_n 1, 1) := dz_27 (k_L_sell 0 4 rfl)
theorem dL_sell_5 : decode cL_sell 5 = .ok (.iload_n 2, 1) := dz_28 (k_L_sell 0 5 rfl)
theorem dL_sell_6 : decode cL_sell 6 = .ok (.iload_n 3, 1) := dz_29 (k_L_sell 0 6 rfl)
theorem dL_sell_7 : decode cL_sell 7 = .ok (.iload 4, 2) := dz_21 (k_L_sell 0 7 rfl) (k_L_sell 0 8 rfl)
theorem dL_sell_9 : decode cL_sell 9 = .ok (.invokevirtual 125, 3) := dz_182 (k_L_sell 0 9 rfl) (k_L_sell 0 10 rfl) (k_L_sell 0 11 rfl) rfl
theorem dL_sell_12 : decode cL_sell 12 = .ok (.i2l, 1) := dz_133 (k_L_sell 0 12 rfl)
theorem dL_sell_13 : decode cL_sell 13 = .ok (.lastore, 1) := dz_80 (k_L_sell 0 13 rfl)
theorem dL_sell_14 : decode cL_sell 14 = .ok (.goto 15, 3) := dz_167 (k_L_sell 0 14 rfl) (k_L_sell 0 15 rfl) (k_L_sell 0 16 rfl) rfl
theorem dL_sell_17 : decode cL_sell 17 = .ok (.astore 6, 2) := dz_58 (k_L_sell 0 17 rfl) (k_L_sell 0 18 rfl)
theorem dL_sell_19 : decode cL_sell 19 = .ok (.iconst 1, 1) := dz_4 (k_L_sell 0 19 rfl)
theorem dL_sell_20 : decode cL_sell 20 = .ok (.ireturn, 1) := dz_172 (k_L_sell 0 20 rfl)
theorem dL_sell_21 : decode cL_sell 21 = .ok (.astore 6, 2) := dz_58 (k_L_sell 0 21 rfl) (k_L_sell 0 22 rfl)
theorem dL_sell_23 : decode cL_sell 23 = .ok (.iconst 2, 1) := dz_5 (k_L_sell 0 23 rfl)
theorem dL_sell_24 : decode cL_sell 24 = .ok (.ireturn, 1) := dz_172 (k_L_sell 0 24 rfl)
theorem dL_sell_25 : decode cL_sell 25 = .ok (.astore 6, 2) := dz_58 (k_L_sell 0 25 rfl) (k_L_sell 0 26 rfl)
theorem dL_sell_27 : decode cL_sell 27 = .ok (.iconst 3, 1) := dz_6 (k_L_sell 0 27 rfl)
theorem dL_sell_28 : decode cL_sell 28 = .ok (.ireturn, 1) := dz_172 (k_L_sell 0 28 rfl)
theorem dL_sell_29 : decode cL_sell 29 = .ok (.iconst 0, 1) := dz_3 (k_L_sell 0 29 rfl)
theorem dL_sell_30 : decode cL_sell 30 = .ok (.ireturn, 1) := dz_172 (k_L_sell 0 30 rfl)
def B_L_signs : List (List Nat) := [[44, 3, 42, 27, 182, 0, 23, 133, 80, 167, 0, 6, 78, 4, 172, 3, 172]]
theorem k_L_signs (j i : Nat) {b : Nat} (h : (B_L_signs[j]?.bind fun c => c[i]?) = some b) : s_by cL_signs (64 * j + i) b := s_byC (L := B_L_signs) (by decide +kernel) (by decide +kernel) j i h
theorem dL_signs_0 : decode cL_signs 0 = .ok (.aload_n 2, 1) := dz_44 (k_L_signs 0 0 rfl)
theorem dL_signs_1 : decode cL_signs 1 = .ok (.iconst 0, 1) := dz_3 (k_L_signs 0 1 rfl)
theorem dL_signs_2 : decode cL_signs 2 = .ok (.aload_n 0, 1) := dz_42 (k_L_signs 0 2 rfl)
theorem dL_signs_3 : decode cL_signs 3 = .ok (.iload_n 1, 1) := dz_27 (k_L_signs 0 3 rfl)
theorem dL_signs_4 : decode cL_signs 4 = .ok (.invokevirtual 23, 3) := dz_182 (k_L_signs 0 4 rfl) (k_L_signs 0 5 rfl) (k_L_signs 0 6 rfl) rfl
theorem dL_signs_7 : decode cL_signs 7 = .ok (.i2l, 1) := dz_133 (k_L_signs 0 7 rfl)
theorem dL_signs_8 : decode cL_signs 8 = .ok (.lastore, 1) := dz_80 (k_L_signs 0 8 rfl)
theorem dL_signs_9 : decode cL_signs 9 = .ok (.goto 6, 3) := dz_167 (k_L_signs 0 9 rfl) (k_L_signs 0 10 rfl) (k_L_signs 0 11 rfl) rfl
theorem dL_signs_12 : decode cL_signs 12 = .ok (.astore_n 3, 1) := dz_78 (k_L_signs 0 12 rfl)
theorem dL_signs_13 : decode cL_signs 13 = .ok (.iconst 1, 1) := dz_4 (k_L_signs 0 13 rfl)
theorem dL_signs_14 : decode cL_signs 14 = .ok (.ireturn, 1) := dz_172 (k_L_signs 0 14 rfl)
theorem dL_signs_15 : decode cL_signs 15 = .ok (.iconst 0, 1) := dz_3 (k_L_signs 0 15 rfl)
theorem dL_signs_16 : decode cL_signs 16 = .ok (.ireturn, 1) := dz_172 (k_L_signs 0 16 rfl)
def B_L_spent : List (List Nat) := [[44, 3, 42, 27, 182, 0, 73, 133, 80, 167, 0, 6, 78, 4, 172, 3, 172]]
theorem k_L_spent (j i : Nat) {b : Nat} (h : (B_L_spent[j]?.bind fun c => c[i]?) = some b) : s_by cL_spent (64 * j + i) b := s_byC (L := B_L_spent) (by decide +kernel) (by decide +kernel) j i h
theorem dL_spent_0 : decode cL_spent 0 = .ok (.aload_n 2, 1) := dz_44 (k_L_spent 0 0 rfl)
theorem dL_spent_1 : decode cL_spent 1 = .ok (.iconst 0, 1) := dz_3 (k_L_spent 0 1 rfl)
theorem dL_spent_2 : decode cL_spent 2 = .ok (.aload_n 0, 1) := dz_42 (k_L_spent 0 2 rfl)
theorem dL_spent_3 : decode cL_spent 3 = .ok (.iload_n 1, 1) := dz_27 (k_L_spent 0 3 rfl)
theorem dL_spent_4 : decode cL_spent 4 = .ok (.invokevirtual 73, 3) := dz_182 (k_L_spent 0 4 rfl) (k_L_spent 0 5 rfl) (k_L_spent 0 6 rfl) rfl
theorem dL_spent_7 : decode cL_spent 7 = .ok (.i2l, 1) := dz_133 (k_L_spent 0 7 rfl)
theorem dL_spent_8 : decode cL_spent 8 = .ok (.lastore, 1) := dz_80 (k_L_spent 0 8 rfl)
theorem dL_spent_9 : decode cL_spent 9 = .ok (.goto 6, 3) := dz_167 (k_L_spent 0 9 rfl) (k_L_spent 0 10 rfl) (k_L_spent 0 11 rfl) rfl
theorem dL_spent_12 : decode cL_spent 12 = .ok (.astore_n 3, 1) := dz_78 (k_L_spent 0 12 rfl)
theorem dL_spent_13 : decode cL_spent 13 = .ok (.iconst 1, 1) := dz_4 (k_L_spent 0 13 rfl)
theorem dL_spent_14 : decode cL_spent 14 = .ok (.ireturn, 1) := dz_172 (k_L_spent 0 14 rfl)
theorem dL_spent_15 : decode cL_spent 15 = .ok (.iconst 0, 1) := dz_3 (k_L_spent 0 15 rfl)
theorem dL_spent_16 : decode cL_spent 16 = .ok (.ireturn, 1) := dz_172 (k_L_spent 0 16 rfl)
def B_L_things : List (List Nat) := [[42, 27, 182, 0, 17, 167, 0, 9, 77, 4, 172, 77, 5, 172, 3, 172]]
theorem k_L_things (j i : Nat) {b : Nat} (h : (B_L_things[j]?.bind fun c => c[i]?) = some b) : s_by cL_things (64 * j + i) b := s_byC (L := B_L_things) (by decide +kernel) (by decide +kernel) j i h
theorem dL_things_0 : decode cL_things 0 = .ok (.aload_n 0, 1) := dz_42 (k_L_things 0 0 rfl)
theorem dL_things_1 : decode cL_things 1 = .ok (.iload_n 1, 1) := dz_27 (k_L_things 0 1 rfl)
theorem dL_things_2 : decode cL_things 2 = .ok (.invokevirtual 17, 3) := dz_182 (k_L_things 0 2 rfl) (k_L_things 0 3 rfl) (k_L_things 0 4 rfl) rfl
theorem dL_things_5 : decode cL_things 5 = .ok (.goto 9, 3) := dz_167 (k_L_things 0 5 rfl) (k_L_things 0 6 rfl) (k_L_things 0 7 rfl) rfl
theorem dL_things_8 : decode cL_things 8 = .ok (.astore_n 2, 1) := dz_77 (k_L_things 0 8 rfl)
theorem dL_things_9 : decode cL_things 9 = .ok (.iconst 1, 1) := dz_4 (k_L_things 0 9 rfl)
theorem dL_things_10 : decode cL_things 10 = .ok (.ireturn, 1) := dz_172 (k_L_things 0 10 rfl)
theorem dL_things_11 : decode cL_things 11 = .ok (.astore_n 2, 1) := dz_77 (k_L_things 0 11 rfl)
theorem dL_things_12 : decode cL_things 12 = .ok (.iconst 2, 1) := dz_5 (k_L_things 0 12 rfl)
theorem dL_things_13 : decode cL_things 13 = .ok (.ireturn, 1) := dz_172 (k_L_things 0 13 rfl)
theorem dL_things_14 : decode cL_things 14 = .ok (.iconst 0, 1) := dz_3 (k_L_things 0 14 rfl)
theorem dL_things_15 : decode cL_things 15 = .ok (.ireturn, 1) := dz_172 (k_L_things 0 15 rfl)
def B_L_truths : List (List Nat) := [[44, 3, 42, 27, 182, 0, 101, 133, 80, 167, 0, 6, 78, 4, 172, 3, 172]]
theorem k_L_truths (j i : Nat) {b : Nat} (h : (B_L_truths[j]?.bind fun c => c[i]?) = some b) : s_by cL_truths (64 * j + i) b := s_byC (L := B_L_truths) (by decide +kernel) (by decide +kernel) j i h
theorem dL_truths_0 : decode cL_truths 0 = .ok (.aload_n 2, 1) := dz_44 (k_L_truths 0 0 rfl)
theorem dL_truths_1 : decode cL_truths 1 = .ok (.iconst 0, 1) := dz_3 (k_L_truths 0 1 rfl)
theorem dL_truths_2 : decode cL_truths 2 = .ok (.aload_n 0, 1) := dz_42 (k_L_truths 0 2 rfl)
theorem dL_truths_3 : decode cL_truths 3 = .ok (.iload_n 1, 1) := dz_27 (k_L_truths 0 3 rfl)
theorem dL_truths_4 : decode cL_truths 4 = .ok (.invokevirtual 101, 3) := dz_182 (k_L_truths 0 4 rfl) (k_L_truths 0 5 rfl) (k_L_truths 0 6 rfl) rfl
theorem dL_truths_7 : decode cL_truths 7 = .ok (.i2l, 1) := dz_133 (k_L_truths 0 7 rfl)
theorem dL_truths_8 : decode cL_truths 8 = .ok (.lastore, 1) := dz_80 (k_L_truths 0 8 rfl)
theorem dL_truths_9 : decode cL_truths 9 = .ok (.goto 6, 3) := dz_167 (k_L_truths 0 9 rfl) (k_L_truths 0 10 rfl) (k_L_truths 0 11 rfl) rfl
theorem dL_truths_12 : decode cL_truths 12 = .ok (.astore_n 3, 1) := dz_78 (k_L_truths 0 12 rfl)
theorem dL_truths_13 : decode cL_truths 13 = .ok (.iconst 1, 1) := dz_4 (k_L_truths 0 13 rfl)
theorem dL_truths_14 : decode cL_truths 14 = .ok (.ireturn, 1) := dz_172 (k_L_truths 0 14 rfl)
theorem dL_truths_15 : decode cL_truths 15 = .ok (.iconst 0, 1) := dz_3 (k_L_truths 0 15 rfl)
theorem dL_truths_16 : decode cL_truths 16 = .ok (.ireturn, 1) := dz_172 (k_L_truths 0 16 rfl)
def B_L_undo : List (List Nat) := [[44, 3, 42, 27, 182, 0, 129, 153, 0, 7, 10, 167, 0, 4, 9, 80, 167, 0, 6, 78, 4, 172, 3, 172]]
theorem k_L_undo (j i : Nat) {b : Nat} (h : (B_L_undo[j]?.bind fun c => c[i]?) = some b) : s_by cL_undo (64 * j + i) b := s_byC (L := B_L_undo) (by decide +kernel) (by decide +kernel) j i h
theorem dL_undo_0 : decode cL_undo 0 = .ok (.aload_n 2, 1) := dz_44 (k_L_undo 0 0 rfl)
theorem dL_undo_1 : decode cL_undo 1 = .ok (.iconst 0, 1) := dz_3 (k_L_undo 0 1 rfl)
theorem dL_undo_2 : decode cL_undo 2 = .ok (.aload_n 0, 1) := dz_42 (k_L_undo 0 2 rfl)
theorem dL_undo_3 : decode cL_undo 3 = .ok (.iload_n 1, 1) := dz_27 (k_L_undo 0 3 rfl)
theorem dL_undo_4 : decode cL_undo 4 = .ok (.invokevirtual 129, 3) := dz_182 (k_L_undo 0 4 rfl) (k_L_undo 0 5 rfl) (k_L_undo 0 6 rfl) rfl
theorem dL_undo_7 : decode cL_undo 7 = .ok (.ifCond .eq 7, 3) := dz_153 (k_L_undo 0 7 rfl) (k_L_undo 0 8 rfl) (k_L_undo 0 9 rfl) rfl
theorem dL_undo_10 : decode cL_undo 10 = .ok (.lconst 1, 1) := dz_10 (k_L_undo 0 10 rfl)
theorem dL_undo_11 : decode cL_undo 11 = .ok (.goto 4, 3) := dz_167 (k_L_undo 0 11 rfl) (k_L_undo 0 12 rfl) (k_L_undo 0 13 rfl) rfl
theorem dL_undo_14 : decode cL_undo 14 = .ok (.lconst 0, 1) := dz_9 (k_L_undo 0 14 rfl)
theorem dL_undo_15 : decode cL_undo 15 = .ok (.lastore, 1) := dz_80 (k_L_undo 0 15 rfl)
theorem dL_undo_16 : decode cL_undo 16 = .ok (.goto 6, 3) := dz_167 (k_L_undo 0 16 rfl) (k_L_undo 0 17 rfl) (k_L_undo 0 18 rfl) rfl
theorem dL_undo_19 : decode cL_undo 19 = .ok (.astore_n 3, 1) := dz_78 (k_L_undo 0 19 rfl)
theorem dL_undo_20 : decode cL_undo 20 = .ok (.iconst 1, 1) := dz_4 (k_L_undo 0 20 rfl)
theorem dL_undo_21 : decode cL_undo 21 = .ok (.ireturn, 1) := dz_172 (k_L_undo 0 21 rfl)
theorem dL_undo_22 : decode cL_undo 22 = .ok (.iconst 0, 1) := dz_3 (k_L_undo 0 22 rfl)
theorem dL_undo_23 : decode cL_undo 23 = .ok (.ireturn, 1) := dz_172 (k_L_undo 0 23 rfl)
def B_L_where : List (List Nat) := [[45, 3, 42, 27, 28, 182, 0, 92, 133, 80, 167, 0, 7, 58, 4, 4, 172, 3, 172]]
theorem k_L_where (j i : Nat) {b : Nat} (h : (B_L_where[j]?.bind fun c => c[i]?) = some b) : s_by cL_where (64 * j + i) b := s_byC (L := B_L_where) (by decide +kernel) (by decide +kernel) j i h
theorem dL_where_0 : decode cL_where 0 = .ok (.aload_n 3, 1) := dz_45 (k_L_where 0 0 rfl)
theorem dL_where_1 : decode cL_where 1 = .ok (.iconst 0, 1) := dz_3 (k_L_where 0 1 rfl)
theorem dL_where_2 : decode cL_where 2 = .ok (.aload_n 0, 1) := dz_42 (k_L_where 0 2 rfl)
theorem dL_where_3 : decode cL_where 3 = .ok (.iload_n 1, 1) := dz_27 (k_L_where 0 3 rfl)
theorem dL_where_4 : decode cL_where 4 = .ok (.iload_n 2, 1) := dz_28 (k_L_where 0 4 rfl)
theorem dL_where_5 : decode cL_where 5 = .ok (.invokevirtual 92, 3) := dz_182 (k_L_where 0 5 rfl) (k_L_where 0 6 rfl) (k_L_where 0 7 rfl) rfl
theorem dL_where_8 : decode cL_where 8 = .ok (.i2l, 1) := dz_133 (k_L_where 0 8 rfl)
theorem dL_where_9 : decode cL_where 9 = .ok (.lastore, 1) := dz_80 (k_L_where 0 9 rfl)
theorem dL_where_10 : decode cL_where 10 = .ok (.goto 7, 3) := dz_167 (k_L_where 0 10 rfl) (k_L_where 0 11 rfl) (k_L_where 0 12 rfl) rfl
theorem dL_where_13 : decode cL_where 13 = .ok (.astore 4, 2) := dz_58 (k_L_where 0 13 rfl) (k_L_where 0 14 rfl)
theorem dL_where_15 : decode cL_where 15 = .ok (.iconst 1, 1) := dz_4 (k_L_where 0 15 rfl)
theorem dL_where_16 : decode cL_where 16 = .ok (.ireturn, 1) := dz_172 (k_L_where 0 16 rfl)
theorem dL_where_17 : decode cL_where 17 = .ok (.iconst 0, 1) := dz_3 (k_L_where 0 17 rfl)
theorem dL_where_18 : decode cL_where 18 = .ok (.ireturn, 1) := dz_172 (k_L_where 0 18 rfl)
def B_L_withdraw : List (List Nat) := [[44, 3, 42, 27, 182, 0, 107, 133, 80, 167, 0, 6, 78, 4, 172, 3, 172]]
theorem k_L_withdraw (j i : Nat) {b : Nat} (h : (B_L_withdraw[j]?.bind fun c => c[i]?) = some b) : s_by cL_withdraw (64 * j + i) b := s_byC (L := B_L_withdraw) (by decide +kernel) (by decide +kernel) j i h
theorem dL_withdraw_0 : decode cL_withdraw 0 = .ok (.aload_n 2, 1) := dz_44 (k_L_withdraw 0 0 rfl)
theorem dL_withdraw_1 : decode cL_withdraw 1 = .ok (.iconst 0, 1) := dz_3 (k_L_withdraw 0 1 rfl)
theorem dL_withdraw_2 : decode cL_withdraw 2 = .ok (.aload_n 0, 1) := dz_42 (k_L_withdraw 0 2 rfl)
theorem dL_withdraw_3 : decode cL_withdraw 3 = .ok (.iload_n 1, 1) := dz_27 (k_L_withdraw 0 3 rfl)
theorem dL_withdraw_4 : decode cL_withdraw 4 = .ok (.invokevirtual 107, 3) := dz_182 (k_L_withdraw 0 4 rfl) (k_L_withdraw 0 5 rfl) (k_L_withdraw 0 6 rfl) rfl
theorem dL_withdraw_7 : decode cL_withdraw 7 = .ok (.i2l, 1) := dz_133 (k_L_withdraw 0 7 rfl)
theorem dL_withdraw_8 : decode cL_withdraw 8 = .ok (.lastore, 1) := dz_80 (k_L_withdraw 0 8 rfl)
theorem dL_withdraw_9 : decode cL_withdraw 9 = .ok (.goto 6, 3) := dz_167 (k_L_withdraw 0 9 rfl) (k_L_withdraw 0 10 rfl) (k_L_withdraw 0 11 rfl) rfl
theorem dL_withdraw_12 : decode cL_withdraw 12 = .ok (.astore_n 3, 1) := dz_78 (k_L_withdraw 0 12 rfl)
theorem dL_withdraw_13 : decode cL_withdraw 13 = .ok (.iconst 1, 1) := dz_4 (k_L_withdraw 0 13 rfl)
theorem dL_withdraw_14 : decode cL_withdraw 14 = .ok (.ireturn, 1) := dz_172 (k_L_withdraw 0 14 rfl)
theorem dL_withdraw_15 : decode cL_withdraw 15 = .ok (.iconst 0, 1) := dz_3 (k_L_withdraw 0 15 rfl)
theorem dL_withdraw_16 : decode cL_withdraw 16 = .ok (.ireturn, 1) := dz_172 (k_L_withdraw 0 16 rfl)
def B_L_worlds : List (List Nat) := [[44, 3, 42, 27, 182, 0, 36, 133, 80, 167, 0, 6, 78, 4, 172, 3, 172]]
theorem k_L_worlds (j i : Nat) {b : Nat} (h : (B_L_worlds[j]?.bind fun c => c[i]?) = some b) : s_by cL_worlds (64 * j + i) b := s_byC (L := B_L_worlds) (by decide +kernel) (by decide +kernel) j i h
theorem dL_worlds_0 : decode cL_worlds 0 = .ok (.aload_n 2, 1) := dz_44 (k_L_worlds 0 0 rfl)
theorem dL_worlds_1 : decode cL_worlds 1 = .ok (.iconst 0, 1) := dz_3 (k_L_worlds 0 1 rfl)
theorem dL_worlds_2 : decode cL_worlds 2 = .ok (.aload_n 0, 1) := dz_42 (k_L_worlds 0 2 rfl)
theorem dL_worlds_3 : decode cL_worlds 3 = .ok (.iload_n 1, 1) := dz_27 (k_L_worlds 0 3 rfl)
theorem dL_worlds_4 : decode cL_worlds 4 = .ok (.invokevirtual 36, 3) := dz_182 (k_L_worlds 0 4 rfl) (k_L_worlds 0 5 rfl) (k_L_worlds 0 6 rfl) rfl
theorem dL_worlds_7 : decode cL_worlds 7 = .ok (.i2l, 1) := dz_133 (k_L_worlds 0 7 rfl)
theorem dL_worlds_8 : decode cL_worlds 8 = .ok (.lastore, 1) := dz_80 (k_L_worlds 0 8 rfl)
theorem dL_worlds_9 : decode cL_worlds 9 = .ok (.goto 6, 3) := dz_167 (k_L_worlds 0 9 rfl) (k_L_worlds 0 10 rfl) (k_L_worlds 0 11 rfl) rfl
theorem dL_worlds_12 : decode cL_worlds 12 = .ok (.astore_n 3, 1) := dz_78 (k_L_worlds 0 12 rfl)
theorem dL_worlds_13 : decode cL_worlds 13 = .ok (.iconst 1, 1) := dz_4 (k_L_worlds 0 13 rfl)
theorem dL_worlds_14 : decode cL_worlds 14 = .ok (.ireturn, 1) := dz_172 (k_L_worlds 0 14 rfl)
theorem dL_worlds_15 : decode cL_worlds 15 = .ok (.iconst 0, 1) := dz_3 (k_L_worlds 0 15 rfl)
theorem dL_worlds_16 : decode cL_worlds 16 = .ok (.ireturn, 1) := dz_172 (k_L_worlds 0 16 rfl)
def B_X0_areEach : List (List Nat) := [[3, 62, 29, 42, 180, 0, 15, 180, 0, 87, 162, 0, 39, 42, 180, 0, 15, 42, 180, 0, 15, 27, 29, 182, 0, 72, 182, 0, 65, 42, 180, 0, 9, 28, 29, 182, 0, 121, 159, 0, 5, 3, 172, 132, 3, 1, 167, 255, 212, 4, 172]]
theorem k_X0_areEach (j i : Nat) {b : Nat} (h : (B_X0_areEach[j]?.bind fun c => c[i]?) = some b) : s_by cX0_areEach (64 * j + i) b := s_byC (L := B_X0_areEach) (by decide +kernel) (by decide +kernel) j i h
theorem dX0_areEach_0 : decode cX0_areEach 0 = .ok (.iconst 0, 1) := dz_3 (k_X0_areEach 0 0 rfl)
theorem dX0_areEach_1 : decode cX0_areEach 1 = .ok (.istore_n 3, 1) := dz_62 (k_X0_areEach 0 1 rfl)
theorem dX0_areEach_2 : decode cX0_areEach 2 = .ok (.iload_n 3, 1) := dz_29 (k_X0_areEach 0 2 rfl)
theorem dX0_areEach_3 : decode cX0_areEach 3 = .ok (.aload_n 0, 1) := dz_42 (k_X0_areEach 0 3 rfl)
theorem dX0_areEach_4 : decode cX0_areEach 4 = .ok (.getfield 15, 3) := dz_180 (k_X0_areEach 0 4 rfl) (k_X0_areEach 0 5 rfl) (k_X0_areEach 0 6 rfl) rfl
theorem dX0_areEach_7 : decode cX0_areEach 7 = .ok (.getfield 87, 3) := dz_180 (k_X0_areEach 0 7 rfl) (k_X0_areEach 0 8 rfl) (k_X0_areEach 0 9 rfl) rfl
theorem dX0_areEach_10 : decode cX0_areEach 10 = .ok (.if_icmp .ge 39, 3) := dz_162 (k_X0_areEach 0 10 rfl) (k_X0_areEach 0 11 rfl) (k_X0_areEach 0 12 rfl) rfl
theorem dX0_areEach_13 : decode cX0_areEach 13 = .ok (.aload_n 0, 1) := dz_42 (k_X0_areEach 0 13 rfl)
theorem dX0_areEach_14 : decode cX0_areEach 14 = .ok (.getfield 15, 3) := dz_180 (k_X0_areEach 0 14 rfl) (k_X0_areEach 0 15 rfl) (k_X0_areEach 0 16 rfl) rfl
theorem dX0_areEach_17 : decode cX0_areEach 17 = .ok (.aload_n 0, 1) := dz_42 (k_X0_areEach 0 17 rfl)
theorem dX0_areEach_18 : decode cX0_areEach 18 = .ok (.getfield 15, 3) := dz_180 (k_X0_areEach 0 18 rfl) (k_X0_areEach 0 19 rfl) (k_X0_areEach 0 20 rfl) rfl
theorem dX0_areEach_21 : decode cX0_areEach 21 = .ok (.iload_n 1, 1) := dz_27 (k_X0_areEach 0 21 rfl)
theorem dX0_areEach_22 : decode cX0_areEach 22 = .ok (.iload_n 3, 1) := dz_29 (k_X0_areEach 0 22 rfl)
theorem dX0_areEach_23 : decode cX0_areEach 23 = .ok (.invokevirtual 72, 3) := dz_182 (k_X0_areEach 0 23 rfl) (k_X0_areEach 0 24 rfl) (k_X0_areEach 0 25 rfl) rfl
theorem dX0_areEach_26 : decode cX0_areEach 26 = .ok (.invokevirtual 65, 3) := dz_182 (k_X0_areEach 0 26 rfl) (k_X0_areEach 0 27 rfl) (k_X0_areEach 0 28 rfl) rfl
theorem dX0_areEach_29 : decode cX0_areEach 29 = .ok (.aload_n 0, 1) := dz_42 (k_X0_areEach 0 29 rfl)
theorem dX0_areEach_30 : decode cX0_areEach 30 = .ok (.getfield 9, 3) := dz_180 (k_X0_areEach 0 30 rfl) (k_X0_areEach 0 31 rfl) (k_X0_areEach 0 32 rfl) rfl
theorem dX0_areEach_33 : decode cX0_areEach 33 = .ok (.iload_n 2, 1) := dz_28 (k_X0_areEach 0 33 rfl)
theorem dX0_areEach_34 : decode cX0_areEach 34 = .ok (.iload_n 3, 1) := dz_29 (k_X0_areEach 0 34 rfl)
theorem dX0_areEach_35 : decode cX0_areEach 35 = .ok (.invokevirtual 121, 3) := dz_182 (k_X0_areEach 0 35 rfl) (k_X0_areEach 0 36 rfl) (k_X0_areEach 0 37 rfl) rfl
theorem dX0_areEach_38 : decode cX0_areEach 38 = .ok (.if_icmp .eq 5, 3) := dz_159 (k_X0_areEach 0 38 rfl) (k_X0_areEach 0 39 rfl) (k_X0_areEach 0 40 rfl) rfl
theorem dX0_areEach_41 : decode cX0_areEach 41 = .ok (.iconst 0, 1) := dz_3 (k_X0_areEach 0 41 rfl)
theorem dX0_areEach_42 : decode cX0_areEach 42 = .ok (.ireturn, 1) := dz_172 (k_X0_areEach 0 42 rfl)
theorem dX0_areEach_43 : decode cX0_areEach 43 = .ok (.iinc 3 1, 3) := dz_132 (k_X0_areEach 0 43 rfl) (k_X0_areEach 0 44 rfl) (k_X0_areEach 0 45 rfl) rfl
theorem dX0_areEach_46 : decode cX0_areEach 46 = .ok (.goto (-44), 3) := dz_167 (k_X0_areEach 0 46 rfl) (k_X0_areEach 0 47 rfl) (k_X0_areEach 0 48 rfl) rfl
theorem dX0_areEach_49 : decode cX0_areEach 49 = .ok (.iconst 1, 1) := dz_4 (k_X0_areEach 0 49 rfl)
theorem dX0_areEach_50 : decode cX0_areEach 50 = .ok (.ireturn, 1) := dz_172 (k_X0_areEach 0 50 rfl)
def B_X0_asked : List (List Nat) := [[27, 16, 12, 160, 0, 11, 42, 180, 0, 15, 180, 0, 87, 172, 27, 155, 0, 19, 27, 178, 0, 90, 190, 162, 0, 11, 178, 0, 90, 27, 46, 167, 0, 4, 2, 172]]
theorem k_X0_asked (j i : Nat) {b : Nat} (h : (B_X0_asked[j]?.bind fun c => c[i]?) = some b) : s_by cX0_asked (64 * j + i) b := s_byC (L := B_X0_asked) (by decide +kernel) (by decide +kernel) j i h
theorem dX0_asked_0 : decode cX0_asked 0 = .ok (.iload_n 1, 1) := dz_27 (k_X0_asked 0 0 rfl)
theorem dX0_asked_1 : decode cX0_asked 1 = .ok (.bipush 12, 2) := dz_16 (k_X0_asked 0 1 rfl) (k_X0_asked 0 2 rfl) rfl
theorem dX0_asked_3 : decode cX0_asked 3 = .ok (.if_icmp .ne 11, 3) := dz_160 (k_X0_asked 0 3 rfl) (k_X0_asked 0 4 rfl) (k_X0_asked 0 5 rfl) rfl
theorem dX0_asked_6 : decode cX0_asked 6 = .ok (.aload_n 0, 1) := dz_42 (k_X0_asked 0 6 rfl)
theorem dX0_asked_7 : decode cX0_asked 7 = .ok (.getfield 15, 3) := dz_180 (k_X0_asked 0 7 rfl) (k_X0_asked 0 8 rfl) (k_X0_asked 0 9 rfl) rfl
theorem dX0_asked_10 : decode cX0_asked 10 = .ok (.getfield 87, 3) := dz_180 (k_X0_asked 0 10 rfl) (k_X0_asked 0 11 rfl) (k_X0_asked 0 12 rfl) rfl
theorem dX0_asked_13 : decode cX0_asked 13 = .ok (.ireturn, 1) := dz_172 (k_X0_asked 0 13 rfl)
theorem dX0_asked_14 : decode cX0_asked 14 = .ok (.iload_n 1, 1) := dz_27 (k_X0_asked 0 14 rfl)
theorem dX0_asked_15 : decode cX0_asked 15 = .ok (.ifCond .lt 19, 3) := dz_155 (k_X0_asked 0 15 rfl) (k_X0_asked 0 16 rfl) (k_X0_asked 0 17 rfl) rfl
theorem dX0_asked_18 : decode cX0_asked 18 = .ok (.iload_n 1, 1) := dz_27 (k_X0_asked 0 18 rfl)
theorem dX0_asked_19 : decode cX0_asked 19 = .ok (.getstatic 90, 3) := dz_178 (k_X0_asked 0 19 rfl) (k_X0_asked 0 20 rfl) (k_X0_asked 0 21 rfl) rfl
theorem dX0_asked_22 : decode cX0_asked 22 = .ok (.arraylength, 1) := dz_190 (k_X0_asked 0 22 rfl)
theorem dX0_asked_23 : decode cX0_asked 23 = .ok (.if_icmp .ge 11, 3) := dz_162 (k_X0_asked 0 23 rfl) (k_X0_asked 0 24 rfl) (k_X0_asked 0 25 rfl) rfl
theorem dX0_asked_26 : decode cX0_asked 26 = .ok (.getstatic 90, 3) := dz_178 (k_X0_asked 0 26 rfl) (k_X0_asked 0 27 rfl) (k_X0_asked 0 28 rfl) rfl
theorem dX0_asked_29 : decode cX0_asked 29 = .ok (.iload_n 1, 1) := dz_27 (k_X0_asked 0 29 rfl)
theorem dX0_asked_30 : decode cX0_asked 30 = .ok (.iaload, 1) := dz_46 (k_X0_asked 0 30 rfl)
theorem dX0_asked_31 : decode cX0_asked 31 = .ok (.goto 4, 3) := dz_167 (k_X0_asked 0 31 rfl) (k_X0_asked 0 32 rfl) (k_X0_asked 0 33 rfl) rfl
theorem dX0_asked_34 : decode cX0_asked 34 = .ok (.iconst (-1), 1) := dz_2 (k_X0_asked 0 34 rfl)
theorem dX0_asked_35 : decode cX0_asked 35 = .ok (.ireturn, 1) := dz_172 (k_X0_asked 0 35 rfl)
def B_X0_audit : List (List Nat) := [[42, 9, 181, 0, 19, 42, 9, 181, 0, 23, 42, 9, 181, 0, 26, 42, 42, 2, 3, 182, 0, 29, 181, 0, 33, 42, 4, 182, 0, 36, 64, 3, 62, 29, 42, 180, 0, 15, 180, 0, 40, 162, 0, 83, 10, 29, 121, 55, 4, 42, 29, 182, 0, 46, 153, 0, 37, 42, 89, 180, 0, 19, 22, 4], [129, 181, 0, 19, 42, 89, 180, 0, 23, 42, 29, 182, 0, 50, 153, 0, 8, 22, 4, 167, 0, 4, 9, 129, 181, 0, 23, 42, 180, 0, 15, 180, 0, 53, 29, 47, 31, 127, 9, 148, 153, 0, 14, 42, 89, 180, 0, 26, 22, 4, 129, 181, 0, 26, 132, 3, 1, 167, 255, 168, 177]]
theorem k_X0_audit (j i : Nat) {b : Nat} (h : (B_X0_audit[j]?.bind fun c => c[i]?) = some b) : s_by cX0_audit (64 * j + i) b := s_byC (L := B_X0_audit) (by decide +kernel) (by decide +kernel) j i h
theorem dX0_audit_0 : decode cX0_audit 0 = .ok (.aload_n 0, 1) := dz_42 (k_X0_audit 0 0 rfl)
theorem dX0_audit_1 : decode cX0_audit 1 = .ok (.lconst 0, 1) := dz_9 (k_X0_audit 0 1 rfl)
theorem dX0_audit_2 : decode cX0_audit 2 = .ok (.putfield 19, 3) := dz_181 (k_X0_audit 0 2 rfl) (k_X0_audit 0 3 rfl) (k_X0_audit 0 4 rfl) rfl
theorem dX0_audit_5 : decode cX0_audit 5 = .ok (.aload_n 0, 1) := dz_42 (k_X0_audit 0 5 rfl)
theorem dX0_audit_6 : decode cX0_audit 6 = .ok (.lconst 0, 1) := dz_9 (k_X0_audit 0 6 rfl)
theorem dX0_audit_7 : decode cX0_audit 7 = .ok (.putfield 23, 3) := dz_181 (k_X0_audit 0 7 rfl) (k_X0_audit 0 8 rfl) (k_X0_audit 0 9 rfl) rfl
theorem dX0_audit_10 : decode cX0_audit 10 = .ok (.aload_n 0, 1) := dz_42 (k_X0_audit 0 10 rfl)
theorem dX0_audit_11 : decode cX0_audit 11 = .ok (.lconst 0, 1) := dz_9 (k_X0_audit 0 11 rfl)
theorem dX0_audit_12 : decode cX0_audit 12 = .ok (.putfield 26, 3) := dz_181 (k_X0_audit 0 12 rfl) (k_X0_audit 0 13 rfl) (k_X0_audit 0 14 rfl) rfl
theorem dX0_audit_15 : decode cX0_audit 15 = .ok (.aload_n 0, 1) := dz_42 (k_X0_audit 0 15 rfl)
theorem dX0_audit_16 : decode cX0_audit 16 = .ok (.aload_n 0, 1) := dz_42 (k_X0_audit 0 16 rfl)
theorem dX0_audit_17 : decode cX0_audit 17 = .ok (.iconst (-1), 1) := dz_2 (k_X0_audit 0 17 rfl)
theorem dX0_audit_18 : decode cX0_audit 18 = .ok (.iconst 0, 1) := dz_3 (k_X0_audit 0 18 rfl)
theorem dX0_audit_19 : decode cX0_audit 19 = .ok (.invokevirtual 29, 3) := dz_182 (k_X0_audit 0 19 rfl) (k_X0_audit 0 20 rfl) (k_X0_audit 0 21 rfl) rfl
theorem dX0_audit_22 : decode cX0_audit 22 = .ok (.putfield 33, 3) := dz_181 (k_X0_audit 0 22 rfl) (k_X0_audit 0 23 rfl) (k_X0_audit 0 24 rfl) rfl
theorem dX0_audit_25 : decode cX0_audit 25 = .ok (.aload_n 0, 1) := dz_42 (k_X0_audit 0 25 rfl)
theorem dX0_audit_26 : decode cX0_audit 26 = .ok (.iconst 1, 1) := dz_4 (k_X0_audit 0 26 rfl)
theorem dX0_audit_27 : decode cX0_audit 27 = .ok (.invokevirtual 36, 3) := dz_182 (k_X0_audit 0 27 rfl) (k_X0_audit 0 28 rfl) (k_X0_audit 0 29 rfl) rfl
theorem dX0_audit_30 : decode cX0_audit 30 = .ok (.lstore_n 1, 1) := dz_64 (k_X0_audit 0 30 rfl)
theorem dX0_audit_31 : decode cX0_audit 31 = .ok (.iconst 0, 1) := dz_3 (k_X0_audit 0 31 rfl)
theorem dX0_audit_32 : decode cX0_audit 32 = .ok (.istore_n 3, 1) := dz_62 (k_X0_audit 0 32 rfl)
theorem dX0_audit_33 : decode cX0_audit 33 = .ok (.iload_n 3, 1) := dz_29 (k_X0_audit 0 33 rfl)
theorem dX0_audit_34 : decode cX0_audit 34 = .ok (.aload_n 0, 1) := dz_42 (k_X0_audit 0 34 rfl)
theorem dX0_audit_35 : decode cX0_audit 35 = .ok (.getfield 15, 3) := dz_180 (k_X0_audit 0 35 rfl) (k_X0_audit 0 36 rfl) (k_X0_audit 0 37 rfl) rfl
theorem dX0_audit_38 : decode cX0_audit 38 = .ok (.getfield 40, 3) := dz_180 (k_X0_audit 0 38 rfl) (k_X0_audit 0 39 rfl) (k_X0_audit 0 40 rfl) rfl
theorem dX0_audit_41 : decode cX0_audit 41 = .ok (.if_icmp .ge 83, 3) := dz_162 (k_X0_audit 0 41 rfl) (k_X0_audit 0 42 rfl) (k_X0_audit 0 43 rfl) rfl
theorem dX0_audit_44 : decode cX0_audit 44 = .ok (.lconst 1, 1) := dz_10 (k_X0_audit 0 44 rfl)
theorem dX0_audit_45 : decode cX0_audit 45 = .ok (.iload_n 3, 1) := dz_29 (k_X0_audit 0 45 rfl)
theorem dX0_audit_46 : decode cX0_audit 46 = .ok (.lshl, 1) := dz_121 (k_X0_audit 0 46 rfl)
theorem dX0_audit_47 : decode cX0_audit 47 = .ok (.lstore 4, 2) := dz_55 (k_X0_audit 0 47 rfl) (k_X0_audit 0 48 rfl)
theorem dX0_audit_49 : decode cX0_audit 49 = .ok (.aload_n 0, 1) := dz_42 (k_X0_audit 0 49 rfl)
theorem dX0_audit_50 : decode cX0_audit 50 = .ok (.iload_n 3, 1) := dz_29 (k_X0_audit 0 50 rfl)
theorem dX0_audit_51 : decode cX0_audit 51 = .ok (.invokevirtual 46, 3) := dz_182 (k_X0_audit 0 51 rfl) (k_X0_audit 0 52 rfl) (k_X0_audit 0 53 rfl) rfl
theorem dX0_audit_54 : decode cX0_audit 54 = .ok (.ifCond .eq 37, 3) := dz_153 (k_X0_audit 0 54 rfl) (k_X0_audit 0 55 rfl) (k_X0_audit 0 56 rfl) rfl
theorem dX0_audit_57 : decode cX0_audit 57 = .ok (.aload_n 0, 1) := dz_42 (k_X0_audit 0 57 rfl)
theorem dX0_audit_58 : decode cX0_audit 58 = .ok (.dup, 1) := dz_89 (k_X0_audit 0 58 rfl)
theorem dX0_audit_59 : decode cX0_audit 59 = .ok (.getfield 19, 3) := dz_180 (k_X0_audit 0 59 rfl) (k_X0_audit 0 60 rfl) (k_X0_audit 0 61 rfl) rfl
theorem dX0_audit_62 : decode cX0_audit 62 = .ok (.lload 4, 2) := dz_22 (k_X0_audit 0 62 rfl) (k_X0_audit 0 63 rfl)
theorem dX0_audit_64 : decode cX0_audit 64 = .ok (.lor, 1) := dz_129 (k_X0_audit 1 0 rfl)
theorem dX0_audit_65 : decode cX0_audit 65 = .ok (.putfield 19, 3) := dz_181 (k_X0_audit 1 1 rfl) (k_X0_audit 1 2 rfl) (k_X0_audit 1 3 rfl) rfl
theorem dX0_audit_68 : decode cX0_audit 68 = .ok (.aload_n 0, 1) := dz_42 (k_X0_audit 1 4 rfl)
theorem dX0_audit_69 : decode cX0_audit 69 = .ok (.dup, 1) := dz_89 (k_X0_audit 1 5 rfl)
theorem dX0_audit_70 : decode cX0_audit 70 = .ok (.getfield 23, 3) := dz_180 (k_X0_audit 1 6 rfl) (k_X0_audit 1 7 rfl) (k_X0_audit 1 8 rfl) rfl
theorem dX0_audit_73 : decode cX0_audit 73 = .ok (.aload_n 0, 1) := dz_42 (k_X0_audit 1 9 rfl)
theorem dX0_audit_74 : decode cX0_audit 74 = .ok (.iload_n 3, 1) := dz_29 (k_X0_audit 1 10 rfl)
theorem dX0_audit_75 : decode cX0_audit 75 = .ok (.invokevirtual 50, 3) := dz_182 (k_X0_audit 1 11 rfl) (k_X0_audit 1 12 rfl) (k_X0_audit 1 13 rfl) rfl
theorem dX0_audit_78 : decode cX0_audit 78 = .ok (.ifCond .eq 8, 3) := dz_153 (k_X0_audit 1 14 rfl) (k_X0_audit 1 15 rfl) (k_X0_audit 1 16 rfl) rfl
theorem dX0_audit_81 : decode cX0_audit 81 = .ok (.lload 4, 2) := dz_22 (k_X0_audit 1 17 rfl) (k_X0_audit 1 18 rfl)
theorem dX0_audit_83 : decode cX0_audit 83 = .ok (.goto 4, 3) := dz_167 (k_X0_audit 1 19 rfl) (k_X0_audit 1 20 rfl) (k_X0_audit 1 21 rfl) rfl
theorem dX0_audit_86 : decode cX0_audit 86 = .ok (.lconst 0, 1) := dz_9 (k_X0_audit 1 22 rfl)
theorem dX0_audit_87 : decode cX0_audit 87 = .ok (.lor, 1) := dz_129 (k_X0_audit 1 23 rfl)
theorem dX0_audit_88 : decode cX0_audit 88 = .ok (.putfield 23, 3) := dz_181 (k_X0_audit 1 24 rfl) (k_X0_audit 1 25 rfl) (k_X0_audit 1 26 rfl) rfl
theorem dX0_audit_91 : decode cX0_audit 91 = .ok (.aload_n 0, 1) := dz_42 (k_X0_audit 1 27 rfl)
theorem dX0_audit_92 : decode cX0_audit 92 = .ok (.getfield 15, 3) := dz_180 (k_X0_audit 1 28 rfl) (k_X0_audit 1 29 rfl) (k_X0_audit 1 30 rfl) rfl
theorem dX0_audit_95 : decode cX0_audit 95 = .ok (.getfield 53, 3) := dz_180 (k_X0_audit 1 31 rfl) (k_X0_audit 1 32 rfl) (k_X0_audit 1 33 rfl) rfl
theorem dX0_audit_98 : decode cX0_audit 98 = .ok (.iload_n 3, 1) := dz_29 (k_X0_audit 1 34 rfl)
theorem dX0_audit_99 : decode cX0_audit 99 = .ok (.laload, 1) := dz_47 (k_X0_audit 1 35 rfl)
theorem dX0_audit_100 : decode cX0_audit 100 = .ok (.lload_n 1, 1) := dz_31 (k_X0_audit 1 36 rfl)
theorem dX0_audit_101 : decode cX0_audit 101 = .ok (.land, 1) := dz_127 (k_X0_audit 1 37 rfl)
theorem dX0_audit_102 : decode cX0_audit 102 = .ok (.lconst 0, 1) := dz_9 (k_X0_audit 1 38 rfl)
theorem dX0_audit_103 : decode cX0_audit 103 = .ok (.lcmp, 1) := dz_148 (k_X0_audit 1 39 rfl)
theorem dX0_audit_104 : decode cX0_audit 104 = .ok (.ifCond .eq 14, 3) := dz_153 (k_X0_audit 1 40 rfl) (k_X0_audit 1 41 rfl) (k_X0_audit 1 42 rfl) rfl
theorem dX0_audit_107 : decode cX0_audit 107 = .ok (.aload_n 0, 1) := dz_42 (k_X0_audit 1 43 rfl)
theorem dX0_audit_108 : decode cX0_audit 108 = .ok (.dup, 1) := dz_89 (k_X0_audit 1 44 rfl)
theorem dX0_audit_109 : decode cX0_audit 109 = .ok (.getfield 26, 3) := dz_180 (k_X0_audit 1 45 rfl) (k_X0_audit 1 46 rfl) (k_X0_audit 1 47 rfl) rfl
theorem dX0_audit_112 : decode cX0_audit 112 = .ok (.lload 4, 2) := dz_22 (k_X0_audit 1 48 rfl) (k_X0_audit 1 49 rfl)
theorem dX0_audit_114 : decode cX0_audit 114 = .ok (.lor, 1) := dz_129 (k_X0_audit 1 50 rfl)
theorem dX0_audit_115 : decode cX0_audit 115 = .ok (.putfield 26, 3) := dz_181 (k_X0_audit 1 51 rfl) (k_X0_audit 1 52 rfl) (k_X0_audit 1 53 rfl) rfl
theorem dX0_audit_118 : decode cX0_audit 118 = .ok (.iinc 3 1, 3) := dz_132 (k_X0_audit 1 54 rfl) (k_X0_audit 1 55 rfl) (k_X0_audit 1 56 rfl) rfl
theorem dX0_audit_121 : decode cX0_audit 121 = .ok (.goto (-88), 3) := dz_167 (k_X0_audit 1 57 rfl) (k_X0_audit 1 58 rfl) (k_X0_audit 1 59 rfl) rfl
theorem dX0_audit_124 : decode cX0_audit 124 = .ok (.return_, 1) := dz_177 (k_X0_audit 1 60 rfl)
def B_X0_boughtInRow : List (List Nat) := [[3, 61, 27, 62, 3, 54, 4, 21, 4, 16, 40, 162, 0, 36, 42, 180, 0, 15, 29, 5, 182, 0, 57, 16, 15, 160, 0, 22, 132, 2, 1, 42, 180, 0, 15, 29, 3, 182, 0, 72, 62, 132, 4, 1, 167, 255, 219, 28, 172]]
theorem k_X0_boughtInRow (j i : Nat) {b : Nat} (h : (B_X0_boughtInRow[j]?.bind fun c => c[i]?) = some b) : s_by cX0_boughtInRow (64 * j + i) b := s_byC (L := B_X0_boughtInRow) (by decide +kernel) (by decide +kernel) j i h
theorem dX0_boughtInRow_0 : decode cX0_boughtInRow 0 = .ok (.iconst 0, 1) := dz_3 (k_X0_boughtInRow 0 0 rfl)
theorem dX0_boughtInRow_1 : decode cX0_boughtInRow 1 = .ok (.istore_n 2, 1) := dz_61 (k_X0_boughtInRow 0 1 rfl)
theorem dX0_boughtInRow_2 : decode cX0_boughtInRow 2 = .ok (.iload_n 1, 1) := dz_27 (k_X0_boughtInRow 0 2 rfl)
theorem dX0_boughtInRow_3 : decode cX0_boughtInRow 3 = .ok (.istore_n 3, 1) := dz_62 (k_X0_boughtInRow 0 3 rfl)
theorem dX0_boughtInRow_4 : decode cX0_boughtInRow 4 = .ok (.iconst 0, 1) := dz_3 (k_X0_boughtInRow 0 4 rfl)
theorem dX0_boughtInRow_5 : decode cX0_boughtInRow 5 = .ok (.istore 4, 2) := dz_54 (k_X0_boughtInRow 0 5 rfl) (k_X0_boughtInRow 0 6 rfl)
theorem dX0_boughtInRow_7 : decode cX0_boughtInRow 7 = .ok (.iload 4, 2) := dz_21 (k_X0_boughtInRow 0 7 rfl) (k_X0_boughtInRow 0 8 rfl)
theorem dX0_boughtInRow_9 : decode cX0_boughtInRow 9 = .ok (.bipush 40, 2) := dz_16 (k_X0_boughtInRow 0 9 rfl) (k_X0_boughtInRow 0 10 rfl) rfl
theorem dX0_boughtInRow_11 : decode cX0_boughtInRow 11 = .ok (.if_icmp .ge 36, 3) := dz_162 (k_X0_boughtInRow 0 11 rfl) (k_X0_boughtInRow 0 12 rfl) (k_X0_boughtInRow 0 13 rfl) rfl
theorem dX0_boughtInRow_14 : decode cX0_boughtInRow 14 = .ok (.aload_n 0, 1) := dz_42 (k_X0_boughtInRow 0 14 rfl)
theorem dX0_boughtInRow_15 : decode cX0_boughtInRow 15 = .ok (.getfield 15, 3) := dz_180 (k_X0_boughtInRow 0 15 rfl) (k_X0_boughtInRow 0 16 rfl) (k_X0_boughtInRow 0 17 rfl) rfl
theorem dX0_boughtInRow_18 : decode cX0_boughtInRow 18 = .ok (.iload_n 3, 1) := dz_29 (k_X0_boughtInRow 0 18 rfl)
theorem dX0_boughtInRow_19 : decode cX0_boughtInRow 19 = .ok (.iconst 2, 1) := dz_5 (k_X0_boughtInRow 0 19 rfl)
theorem dX0_boughtInRow_20 : decode cX0_boughtInRow 20 = .ok (.invokevirtual 57, 3) := dz_182 (k_X0_boughtInRow 0 20 rfl) (k_X0_boughtInRow 0 21 rfl) (k_X0_boughtInRow 0 22 rfl) rfl
theorem dX0_boughtInRow_23 : decode cX0_boughtInRow 23 = .ok (.bipush 15, 2) := dz_16 (k_X0_boughtInRow 0 23 rfl) (k_X0_boughtInRow 0 24 rfl) rfl
theorem dX0_boughtInRow_25 : decode cX0_boughtInRow 25 = .ok (.if_icmp .ne 22, 3) := dz_160 (k_X0_boughtInRow 0 25 rfl) (k_X0_boughtInRow 0 26 rfl) (k_X0_boughtInRow 0 27 rfl) rfl
theorem dX0_boughtInRow_28 : decode cX0_boughtInRow 28 = .ok (.iinc 2 1, 3) := dz_132 (k_X0_boughtInRow 0 28 rfl) (k_X0_boughtInRow 0 29 rfl) (k_X0_boughtInRow 0 30 rfl) rfl
theorem dX0_boughtInRow_31 : decode cX0_boughtInRow 31 = .ok (.aload_n 0, 1) := dz_42 (k_X0_boughtInRow 0 31 rfl)
theorem dX0_boughtInRow_32 : decode cX0_boughtInRow 32 = .ok (.getfield 15, 3) := dz_180 (k_X0_boughtInRow 0 32 rfl) (k_X0_boughtInRow 0 33 rfl) (k_X0_boughtInRow 0 34 rfl) rfl
theorem dX0_boughtInRow_35 : decode cX0_boughtInRow 35 = .ok (.iload_n 3, 1) := dz_29 (k_X0_boughtInRow 0 35 rfl)
theorem dX0_boughtInRow_36 : decode cX0_boughtInRow 36 = .ok (.iconst 0, 1) := dz_3 (k_X0_boughtInRow 0 36 rfl)
theorem dX0_boughtInRow_37 : decode cX0_boughtInRow 37 = .ok (.invokevirtual 72, 3) := dz_182 (k_X0_boughtInRow 0 37 rfl) (k_X0_boughtInRow 0 38 rfl) (k_X0_boughtInRow 0 39 rfl) rfl
theorem dX0_boughtInRow_40 : decode cX0_boughtInRow 40 = .ok (.istore_n 3, 1) := dz_62 (k_X0_boughtInRow 0 40 rfl)
theorem dX0_boughtInRow_41 : decode cX0_boughtInRow 41 = .ok (.iinc 4 1, 3) := dz_132 (k_X0_boughtInRow 0 41 rfl) (k_X0_boughtInRow 0 42 rfl) (k_X0_boughtInRow 0 43 rfl) rfl
theorem dX0_boughtInRow_44 : decode cX0_boughtInRow 44 = .ok (.goto (-37), 3) := dz_167 (k_X0_boughtInRow 0 44 rfl) (k_X0_boughtInRow 0 45 rfl) (k_X0_boughtInRow 0 46 rfl) rfl
theorem dX0_boughtInRow_47 : decode cX0_boughtInRow 47 = .ok (.iload_n 2, 1) := dz_28 (k_X0_boughtInRow 0 47 rfl)
theorem dX0_boughtInRow_48 : decode cX0_boughtInRow 48 = .ok (.ireturn, 1) := dz_172 (k_X0_boughtInRow 0 48 rfl)
def B_X0_costOf : List (List Nat) := [[42, 180, 0, 9, 42, 180, 0, 15, 27, 182, 0, 65, 182, 0, 129, 61, 42, 180, 0, 15, 42, 180, 0, 15, 27, 3, 182, 0, 57, 42, 180, 0, 15, 27, 5, 182, 0, 57, 28, 182, 0, 132, 172]]
theorem k_X0_costOf (j i : Nat) {b : Nat} (h : (B_X0_costOf[j]?.bind fun c => c[i]?) = some b) : s_by cX0_costOf (64 * j + i) b := s_byC (L := B_X0_costOf) (by decide +kernel) (by decide +kernel) j i h
theorem dX0_costOf_0 : decode cX0_costOf 0 = .ok (.aload_n 0, 1) := dz_42 (k_X0_costOf 0 0 rfl)
theorem dX0_costOf_1 : decode cX0_costOf 1 = .ok (.getfield 9, 3) := dz_180 (k_X0_costOf 0 1 rfl) (k_X0_costOf 0 2 rfl) (k_X0_costOf 0 3 rfl) rfl
theorem dX0_costOf_4 : decode cX0_costOf 4 = .ok (.aload_n 0, 1) := dz_42 (k_X0_costOf 0 4 rfl)
theorem dX0_costOf_5 : decode cX0_costOf 5 = .ok (.getfield 15, 3) := dz_180 (k_X0_costOf 0 5 rfl) (k_X0_costOf 0 6 rfl) (k_X0_costOf 0 7 rfl) rfl
theorem dX0_costOf_8 : decode cX0_costOf 8 = .ok (.iload_n 1, 1) := dz_27 (k_X0_costOf 0 8 rfl)
theorem dX0_costOf_9 : decode cX0_costOf 9 = .ok (.invokevirtual 65, 3) := dz_182 (k_X0_costOf 0 9 rfl) (k_X0_costOf 0 10 rfl) (k_X0_costOf 0 11 rfl) rfl
theorem dX0_costOf_12 : decode cX0_costOf 12 = .ok (.invokevirtual 129, 3) := dz_182 (k_X0_costOf 0 12 rfl) (k_X0_costOf 0 13 rfl) (k_X0_costOf 0 14 rfl) rfl
theorem dX0_costOf_15 : decode cX0_costOf 15 = .ok (.istore_n 2, 1) := dz_61 (k_X0_costOf 0 15 rfl)
theorem dX0_costOf_16 : decode cX0_costOf 16 = .ok (.aload_n 0, 1) := dz_42 (k_X0_costOf 0 16 rfl)
theorem dX0_costOf_17 : decode cX0_costOf 17 = .ok (.getfield 15, 3) := dz_180 (k_X0_costOf 0 17 rfl) (k_X0_costOf 0 18 rfl) (k_X0_costOf 0 19 rfl) rfl
theorem dX0_costOf_20 : decode cX0_costOf 20 = .ok (.aload_n 0, 1) := dz_42 (k_X0_costOf 0 20 rfl)
theorem dX0_costOf_21 : decode cX0_costOf 21 = .ok (.getfield 15, 3) := dz_180 (k_X0_costOf 0 21 rfl) (k_X0_costOf 0 22 rfl) (k_X0_costOf 0 23 rfl) rfl
theorem dX0_costOf_24 : decode cX0_costOf 24 = .ok (.iload_n 1, 1) := dz_27 (k_X0_costOf 0 24 rfl)
theorem dX0_costOf_25 : decode cX0_costOf 25 = .ok (.iconst 0, 1) := dz_3 (k_X0_costOf 0 25 rfl)
theorem dX0_costOf_26 : decode cX0_costOf 26 = .ok (.invokevirtual 57, 3) := dz_182 (k_X0_costOf 0 26 rfl) (k_X0_costOf 0 27 rfl) (k_X0_costOf 0 28 rfl) rfl
theorem dX0_costOf_29 : decode cX0_costOf 29 = .ok (.aload_n 0, 1) := dz_42 (k_X0_costOf 0 29 rfl)
theorem dX0_costOf_30 : decode cX0_costOf 30 = .ok (.getfield 15, 3) := dz_180 (k_X0_costOf 0 30 rfl) (k_X0_costOf 0 31 rfl) (k_X0_costOf 0 32 rfl) rfl
theorem dX0_costOf_33 : decode cX0_costOf 33 = .ok (.iload_n 1, 1) := dz_27 (k_X0_costOf 0 33 rfl)
theorem dX0_costOf_34 : decode cX0_costOf 34 = .ok (.iconst 2, 1) := dz_5 (k_X0_costOf 0 34 rfl)
theorem dX0_costOf_35 : decode cX0_costOf 35 = .ok (.invokevirtual 57, 3) := dz_182 (k_X0_costOf 0 35 rfl) (k_X0_costOf 0 36 rfl) (k_X0_costOf 0 37 rfl) rfl
theorem dX0_costOf_38 : decode cX0_costOf 38 = .ok (.iload_n 2, 1) := dz_28 (k_X0_costOf 0 38 rfl)
theorem dX0_costOf_39 : decode cX0_costOf 39 = .ok (.invokevirtual 132, 3) := dz_182 (k_X0_costOf 0 39 rfl) (k_X0_costOf 0 40 rfl) (k_X0_costOf 0 41 rfl) rfl
theorem dX0_costOf_42 : decode cX0_costOf 42 = .ok (.ireturn, 1) := dz_172 (k_X0_costOf 0 42 rfl)
def B_X0_costOfAll : List (List Nat) := [[27, 155, 0, 26, 27, 42, 180, 0, 15, 180, 0, 40, 162, 0, 15, 42, 180, 0, 15, 180, 0, 136, 27, 47, 167, 0, 4, 9, 65, 3, 54, 4, 3, 54, 5, 21, 5, 42, 180, 0, 15, 180, 0, 40, 162, 0, 31, 32, 21, 5, 125, 10, 127, 9, 148, 153, 0, 14, 21, 4, 42, 21, 5, 182], [0, 139, 96, 54, 4, 132, 5, 1, 167, 255, 219, 21, 4, 172]]
theorem k_X0_costOfAll (j i : Nat) {b : Nat} (h : (B_X0_costOfAll[j]?.bind fun c => c[i]?) = some b) : s_by cX0_costOfAll (64 * j + i) b := s_byC (L := B_X0_costOfAll) (by decide +kernel) (by decide +kernel) j i h
theorem dX0_costOfAll_0 : decode cX0_costOfAll 0 = .ok (.iload_n 1, 1) := dz_27 (k_X0_costOfAll 0 0 rfl)
theorem dX0_costOfAll_1 : decode cX0_costOfAll 1 = .ok (.ifCond .lt 26, 3) := dz_155 (k_X0_costOfAll 0 1 rfl) (k_X0_costOfAll 0 2 rfl) (k_X0_costOfAll 0 3 rfl) rfl
theorem dX0_costOfAll_4 : decode cX0_costOfAll 4 = .ok (.iload_n 1, 1) := dz_27 (k_X0_costOfAll 0 4 rfl)
theorem dX0_costOfAll_5 : decode cX0_costOfAll 5 = .ok (.aload_n 0, 1) := dz_42 (k_X0_costOfAll 0 5 rfl)
theorem dX0_costOfAll_6 : decode cX0_costOfAll 6 = .ok (.getfield 15, 3) := dz_180 (k_X0_costOfAll 0 6 rfl) (k_X0_costOfAll 0 7 rfl) (k_X0_costOfAll 0 8 rfl) rfl
theorem dX0_costOfAll_9 : decode cX0_costOfAll 9 = .ok (.getfield 40, 3) := dz_180 (k_X0_costOfAll 0 9 rfl) (k_X0_costOfAll 0 10 rfl) (k_X0_costOfAll 0 11 rfl) rfl
theorem dX0_costOfAll_12 : decode cX0_costOfAll 12 = .ok (.if_icmp .ge 15, 3) := dz_162 (k_X0_costOfAll 0 12 rfl) (k_X0_costOfAll 0 13 rfl) (k_X0_costOfAll 0 14 rfl) rfl
theorem dX0_costOfAll_15 : decode cX0_costOfAll 15 = .ok (.aload_n 0, 1) := dz_42 (k_X0_costOfAll 0 15 rfl)
theorem dX0_costOfAll_16 : decode cX0_costOfAll 16 = .ok (.getfield 15, 3) := dz_180 (k_X0_costOfAll 0 16 rfl) (k_X0_costOfAll 0 17 rfl) (k_X0_costOfAll 0 18 rfl) rfl
theorem dX0_costOfAll_19 : decode cX0_costOfAll 19 = .ok (.getfield 136, 3) := dz_180 (k_X0_costOfAll 0 19 rfl) (k_X0_costOfAll 0 20 rfl) (k_X0_costOfAll 0 21 rfl) rfl
theorem dX0_costOfAll_22 : decode cX0_costOfAll 22 = .ok (.iload_n 1, 1) := dz_27 (k_X0_costOfAll 0 22 rfl)
theorem dX0_costOfAll_23 : decode cX0_costOfAll 23 = .ok (.laload, 1) := dz_47 (k_X0_costOfAll 0 23 rfl)
theorem dX0_costOfAll_24 : decode cX0_costOfAll 24 = .ok (.goto 4, 3) := dz_167 (k_X0_costOfAll 0 24 rfl) (k_X0_costOfAll 0 25 rfl) (k_X0_costOfAll 0 26 rfl) rfl
theorem dX0_costOfAll_27 : decode cX0_costOfAll 27 = .ok (.lconst 0, 1) := dz_9 (k_X0_costOfAll 0 27 rfl)
theorem dX0_costOfAll_28 : decode cX0_costOfAll 28 = .ok (.lstore_n 2, 1) := dz_65 (k_X0_costOfAll 0 28 rfl)
theorem dX0_costOfAll_29 : decode cX0_costOfAll 29 = .ok (.iconst 0, 1) := dz_3 (k_X0_costOfAll 0 29 rfl)
theorem dX0_costOfAll_30 : decode cX0_costOfAll 30 = .ok (.istore 4, 2) := dz_54 (k_X0_costOfAll 0 30 rfl) (k_X0_costOfAll 0 31 rfl)
theorem dX0_costOfAll_32 : decode cX0_costOfAll 32 = .ok (.iconst 0, 1) := dz_3 (k_X0_costOfAll 0 32 rfl)
theorem dX0_costOfAll_33 : decode cX0_costOfAll 33 = .ok (.istore 5, 2) := dz_54 (k_X0_costOfAll 0 33 rfl) (k_X0_costOfAll 0 34 rfl)
theorem dX0_costOfAll_35 : decode cX0_costOfAll 35 = .ok (.iload 5, 2) := dz_21 (k_X0_costOfAll 0 35 rfl) (k_X0_costOfAll 0 36 rfl)
theorem dX0_costOfAll_37 : decode cX0_costOfAll 37 = .ok (.aload_n 0, 1) := dz_42 (k_X0_costOfAll 0 37 rfl)
theorem dX0_costOfAll_38 : decode cX0_costOfAll 38 = .ok (.getfield 15, 3) := dz_180 (k_X0_costOfAll 0 38 rfl) (k_X0_costOfAll 0 39 rfl) (k_X0_costOfAll 0 40 rfl) rfl
theorem dX0_costOfAll_41 : decode cX0_costOfAll 41 = .ok (.getfield 40, 3) := dz_180 (k_X0_costOfAll 0 41 rfl) (k_X0_costOfAll 0 42 rfl) (k_X0_costOfAll 0 43 rfl) rfl
theorem dX0_costOfAll_44 : decode cX0_costOfAll 44 = .ok (.if_icmp .ge 31, 3) := dz_162 (k_X0_costOfAll 0 44 rfl) (k_X0_costOfAll 0 45 rfl) (k_X0_costOfAll 0 46 rfl) rfl
theorem dX0_costOfAll_47 : decode cX0_costOfAll 47 = .ok (.lload_n 2, 1) := dz_32 (k_X0_costOfAll 0 47 rfl)
theorem dX0_costOfAll_48 : decode cX0_costOfAll 48 = .ok (.iload 5, 2) := dz_21 (k_X0_costOfAll 0 48 rfl) (k_X0_costOfAll 0 49 rfl)
theorem dX0_costOfAll_50 : decode cX0_costOfAll 50 = .ok (.lushr, 1) := dz_125 (k_X0_costOfAll 0 50 rfl)
theorem dX0_costOfAll_51 : decode cX0_costOfAll 51 = .ok (.lconst 1, 1) := dz_10 (k_X0_costOfAll 0 51 rfl)
theorem dX0_costOfAll_52 : decode cX0_costOfAll 52 = .ok (.land, 1) := dz_127 (k_X0_costOfAll 0 52 rfl)
theorem dX0_costOfAll_53 : decode cX0_costOfAll 53 = .ok (.lconst 0, 1) := dz_9 (k_X0_costOfAll 0 53 rfl)
theorem dX0_costOfAll_54 : decode cX0_costOfAll 54 = .ok (.lcmp, 1) := dz_148 (k_X0_costOfAll 0 54 rfl)
theorem dX0_costOfAll_55 : decode cX0_costOfAll 55 = .ok (.ifCond .eq 14, 3) := dz_153 (k_X0_costOfAll 0 55 rfl) (k_X0_costOfAll 0 56 rfl) (k_X0_costOfAll 0 57 rfl) rfl
theorem dX0_costOfAll_58 : decode cX0_costOfAll 58 = .ok (.iload 4, 2) := dz_21 (k_X0_costOfAll 0 58 rfl) (k_X0_costOfAll 0 59 rfl)
theorem dX0_costOfAll_60 : decode cX0_costOfAll 60 = .ok (.aload_n 0, 1) := dz_42 (k_X0_costOfAll 0 60 rfl)
theorem dX0_costOfAll_61 : decode cX0_costOfAll 61 = .ok (.iload 5, 2) := dz_21 (k_X0_costOfAll 0 61 rfl) (k_X0_costOfAll 0 62 rfl)
theorem dX0_costOfAll_63 : decode cX0_costOfAll 63 = .ok (.invokevirtual 139, 3) := dz_182 (k_X0_costOfAll 0 63 rfl) (k_X0_costOfAll 1 0 rfl) (k_X0_costOfAll 1 1 rfl) rfl
theorem dX0_costOfAll_66 : decode cX0_costOfAll 66 = .ok (.iadd, 1) := dz_96 (k_X0_costOfAll 1 2 rfl)
theorem dX0_costOfAll_67 : decode cX0_costOfAll 67 = .ok (.istore 4, 2) := dz_54 (k_X0_costOfAll 1 3 rfl) (k_X0_costOfAll 1 4 rfl)
theorem dX0_costOfAll_69 : decode cX0_costOfAll 69 = .ok (.iinc 5 1, 3) := dz_132 (k_X0_costOfAll 1 5 rfl) (k_X0_costOfAll 1 6 rfl) (k_X0_costOfAll 1 7 rfl) rfl
theorem dX0_costOfAll_72 : decode cX0_costOfAll 72 = .ok (.goto (-37), 3) := dz_167 (k_X0_costOfAll 1 8 rfl) (k_X0_costOfAll 1 9 rfl) (k_X0_costOfAll 1 10 rfl) rfl
theorem dX0_costOfAll_75 : decode cX0_costOfAll 75 = .ok (.iload 4, 2) := dz_21 (k_X0_costOfAll 1 11 rfl) (k_X0_costOfAll 1 12 rfl)
theorem dX0_costOfAll_77 : decode cX0_costOfAll 77 = .ok (.ireturn, 1) := dz_172 (k_X0_costOfAll 1 13 rfl)
def B_X0_firstWrong : List (List Nat) := [[3, 60, 27, 42, 180, 0, 15, 180, 0, 40, 162, 0, 24, 42, 180, 0, 19, 27, 125, 10, 127, 9, 148, 154, 0, 5, 27, 172, 132, 1, 1, 167, 255, 227, 2, 172]]
theorem k_X0_firstWrong (j i : Nat) {b : Nat} (h : (B_X0_firstWrong[j]?.bind fun c => c[i]?) = some b) : s_by cX0_firstWrong (64 * j + i) b := s_byC (L := B_X0_firstWrong) (by decide +kernel) (by decide +kernel) j i h
theorem dX0_firstWrong_0 : decode cX0_firstWrong 0 = .ok (.iconst 0, 1) := dz_3 (k_X0_firstWrong 0 0 rfl)
theorem dX0_firstWrong_1 : decode cX0_firstWrong 1 = .ok (.istore_n 1, 1) := dz_60 (k_X0_firstWrong 0 1 rfl)
theorem dX0_firstWrong_2 : decode cX0_firstWrong 2 = .ok (.iload_n 1, 1) := dz_27 (k_X0_firstWrong 0 2 rfl)
theorem dX0_firstWrong_3 : decode cX0_firstWrong 3 = .ok (.aload_n 0, 1) := dz_42 (k_X0_firstWrong 0 3 rfl)
theorem dX0_firstWrong_4 : decode cX0_firstWrong 4 = .ok (.getfield 15, 3) := dz_180 (k_X0_firstWrong 0 4 rfl) (k_X0_firstWrong 0 5 rfl) (k_X0_firstWrong 0 6 rfl) rfl
theorem dX0_firstWrong_7 : decode cX0_firstWrong 7 = .ok (.getfield 40, 3) := dz_180 (k_X0_firstWrong 0 7 rfl) (k_X0_firstWrong 0 8 rfl) (k_X0_firstWrong 0 9 rfl) rfl
theorem dX0_firstWrong_10 : decode cX0_firstWrong 10 = .ok (.if_icmp .ge 24, 3) := dz_162 (k_X0_firstWrong 0 10 rfl) (k_X0_firstWrong 0 11 rfl) (k_X0_firstWrong 0 12 rfl) rfl
theorem dX0_firstWrong_13 : decode cX0_firstWrong 13 = .ok (.aload_n 0, 1) := dz_42 (k_X0_firstWrong 0 13 rfl)
theorem dX0_firstWrong_14 : decode cX0_firstWrong 14 = .ok (.getfield 19, 3) := dz_180 (k_X0_firstWrong 0 14 rfl) (k_X0_firstWrong 0 15 rfl) (k_X0_firstWrong 0 16 rfl) rfl
theorem dX0_firstWrong_17 : decode cX0_firstWrong 17 = .ok (.iload_n 1, 1) := dz_27 (k_X0_firstWrong 0 17 rfl)
theorem dX0_firstWrong_18 : decode cX0_firstWrong 18 = .ok (.lushr, 1) := dz_125 (k_X0_firstWrong 0 18 rfl)
theorem dX0_firstWrong_19 : decode cX0_firstWrong 19 = .ok (.lconst 1, 1) := dz_10 (k_X0_firstWrong 0 19 rfl)
theorem dX0_firstWrong_20 : decode cX0_firstWrong 20 = .ok (.land, 1) := dz_127 (k_X0_firstWrong 0 20 rfl)
theorem dX0_firstWrong_21 : decode cX0_firstWrong 21 = .ok (.lconst 0, 1) := dz_9 (k_X0_firstWrong 0 21 rfl)
theorem dX0_firstWrong_22 : decode cX0_firstWrong 22 = .ok (.lcmp, 1) := dz_148 (k_X0_firstWrong 0 22 rfl)
theorem dX0_firstWrong_23 : decode cX0_firstWrong 23 = .ok (.ifCond .ne 5, 3) := dz_154 (k_X0_firstWrong 0 23 rfl) (k_X0_firstWrong 0 24 rfl) (k_X0_firstWrong 0 25 rfl) rfl
theorem dX0_firstWrong_26 : decode cX0_firstWrong 26 = .ok (.iload_n 1, 1) := dz_27 (k_X0_firstWrong 0 26 rfl)
theorem dX0_firstWrong_27 : decode cX0_firstWrong 27 = .ok (.ireturn, 1) := dz_172 (k_X0_firstWrong 0 27 rfl)
theorem dX0_firstWrong_28 : decode cX0_firstWrong 28 = .ok (.iinc 1 1, 3) := dz_132 (k_X0_firstWrong 0 28 rfl) (k_X0_firstWrong 0 29 rfl) (k_X0_firstWrong 0 30 rfl) rfl
theorem dX0_firstWrong_31 : decode cX0_firstWrong 31 = .ok (.goto (-29), 3) := dz_167 (k_X0_firstWrong 0 31 rfl) (k_X0_firstWrong 0 32 rfl) (k_X0_firstWrong 0 33 rfl) rfl
theorem dX0_firstWrong_34 : decode cX0_firstWrong 34 = .ok (.iconst (-1), 1) := dz_2 (k_X0_firstWrong 0 34 rfl)
theorem dX0_firstWrong_35 : decode cX0_firstWrong 35 = .ok (.ireturn, 1) := dz_172 (k_X0_firstWrong 0 35 rfl)
def B_X0_fits : List (List Nat) := [[42, 180, 0, 15, 27, 182, 0, 65, 62, 42, 180, 0, 15, 27, 3, 182, 0, 72, 54, 4, 42, 180, 0, 15, 21, 4, 182, 0, 65, 54, 5, 42, 180, 0, 15, 42, 180, 0, 15, 27, 4, 182, 0, 72, 182, 0, 65, 54, 6, 28, 170, 0, 0, 0, 1, 30, 0, 0, 0, 0, 0, 0, 0, 15], [0, 0, 0, 78, 0, 0, 0, 103, 0, 0, 1, 30, 0, 0, 1, 30, 0, 0, 1, 30, 0, 0, 1, 30, 0, 0, 1, 30, 0, 0, 1, 30, 0, 0, 1, 30, 0, 0, 0, 105, 0, 0, 0, 131, 0, 0, 0, 167, 0, 0, 0, 196, 0, 0, 0, 223, 0, 0, 1, 30, 0, 0, 0, 252], [42, 180, 0, 15, 42, 180, 0, 15, 42, 180, 0, 15, 27, 6, 182, 0, 57, 182, 0, 61, 29, 182, 0, 68, 172, 4, 172, 42, 21, 5, 21, 6, 42, 180, 0, 15, 42, 180, 0, 15, 27, 5, 182, 0, 72, 182, 0, 65, 29, 182, 0, 94, 172, 42, 180, 0, 15, 21, 4, 5, 182, 0, 57, 4], [160, 0, 23, 42, 180, 0, 9, 29, 7, 21, 5, 21, 6, 182, 0, 100, 153, 0, 7, 4, 167, 0, 4, 3, 172, 42, 180, 0, 9, 21, 5, 182, 0, 103, 8, 160, 0, 17, 42, 21, 5, 29, 182, 0, 106, 153, 0, 7, 4, 167, 0, 4, 3, 172, 42, 180, 0, 9, 29, 182, 0, 103, 8, 160], [0, 16, 42, 27, 29, 182, 0, 109, 153, 0, 7, 4, 167, 0, 4, 3, 172, 42, 180, 0, 9, 29, 182, 0, 103, 16, 6, 160, 0, 17, 42, 29, 21, 5, 182, 0, 106, 153, 0, 7, 4, 167, 0, 4, 3, 172, 21, 5, 29, 160, 0, 29, 42, 180, 0, 15, 21, 4, 3, 182, 0, 57, 42, 180], [0, 15, 27, 3, 182, 0, 57, 159, 0, 7, 4, 167, 0, 4, 3, 172, 42, 28, 21, 5, 21, 6, 29, 182, 0, 112, 172]]
theorem k_X0_fits (j i : Nat) {b : Nat} (h : (B_X0_fits[j]?.bind fun c => c[i]?) = some b) : s_by cX0_fits (64 * j + i) b := s_byC (L := B_X0_fits) (by decide +kernel) (by decide +kernel) j i h
theorem dX0_fits_0 : decode cX0_fits 0 = .ok (.aload_n 0, 1) := dz_42 (k_X0_fits 0 0 rfl)
theorem dX0_fits_1 : decode cX0_fits 1 = .ok (.getfield 15, 3) := dz_180 (k_X0_fits 0 1 rfl) (k_X0_fits 0 2 rfl) (k_X0_fits 0 3 rfl) rfl
theorem dX0_fits_4 : decode cX0_fits 4 = .ok (.iload_n 1, 1) := dz_27 (k_X0_fits 0 4 rfl)
theorem dX0_fits_5 : decode cX0_fits 5 = .ok (.invokevirtual 65, 3) := dz_182 (k_X0_fits 0 5 rfl) (k_X0_fits 0 6 rfl) (k_X0_fits 0 7 rfl) rfl
theorem dX0_fits_8 : decode cX0_fits 8 = .ok (.istore_n 3, 1) := dz_62 (k_X0_fits 0 8 rfl)
theorem dX0_fits_9 : decode cX0_fits 9 = .ok (.aload_n 0, 1) := dz_42 (k_X0_fits 0 9 rfl)
theorem dX0_fits_10 : decode cX0_fits 10 = .ok (.getfield 15, 3) := dz_180 (k_X0_fits 0 10 rfl) (k_X0_fits 0 11 rfl) (k_X0_fits 0 12 rfl) rfl
theorem dX0_fits_13 : decode cX0_fits 13 = .ok (.iload_n 1, 1) := dz_27 (k_X0_fits 0 13 rfl)
theorem dX0_fits_14 : decode cX0_fits 14 = .ok (.iconst 0, 1) := dz_3 (k_X0_fits 0 14 rfl)
theorem dX0_fits_15 : decode cX0_fits 15 = .ok (.invokevirtual 72, 3) := dz_182 (k_X0_fits 0 15 rfl) (k_X0_fits 0 16 rfl) (k_X0_fits 0 17 rfl) rfl
theorem dX0_fits_18 : decode cX0_fits 18 = .ok (.istore 4, 2) := dz_54 (k_X0_fits 0 18 rfl) (k_X0_fits 0 19 rfl)
theorem dX0_fits_20 : decode cX0_fits 20 = .ok (.aload_n 0, 1) := dz_42 (k_X0_fits 0 20 rfl)
theorem dX0_fits_21 : decode cX0_fits 21 = .ok (.getfield 15, 3) := dz_180 (k_X0_fits 0 21 rfl) (k_X0_fits 0 22 rfl) (k_X0_fits 0 23 rfl) rfl
theorem dX0_fits_24 : decode cX0_fits 24 = .ok (.iload 4, 2) := dz_21 (k_X0_fits 0 24 rfl) (k_X0_fits 0 25 rfl)
theorem dX0_fits_26 : decode cX0_fits 26 = .ok (.invokevirtual 65, 3) := dz_182 (k_X0_fits 0 26 rfl) (k_X0_fits 0 27 rfl) (k_X0_fits 0 28 rfl) rfl
theorem dX0_fits_29 : decode cX0_fits 29 = .ok (.istore 5, 2) := dz_54 (k_X0_fits 0 29 rfl) (k_X0_fits 0 30 rfl)
theorem dX0_fits_31 : decode cX0_fits 31 = .ok (.aload_n 0, 1) := dz_42 (k_X0_fits 0 31 rfl)
theorem dX0_fits_32 : decode cX0_fits 32 = .ok (.getfield 15, 3) := dz_180 (k_X0_fits 0 32 rfl) (k_X0_fits 0 33 rfl) (k_X0_fits 0 34 rfl) rfl
theorem dX0_fits_35 : decode cX0_fits 35 = .ok (.aload_n 0, 1) := dz_42 (k_X0_fits 0 35 rfl)
theorem dX0_fits_36 : decode cX0_fits 36 = .ok (.getfield 15, 3) := dz_180 (k_X0_fits 0 36 rfl) (k_X0_fits 0 37 rfl) (k_X0_fits 0 38 rfl) rfl
theorem dX0_fits_39 : decode cX0_fits 39 = .ok (.iload_n 1, 1) := dz_27 (k_X0_fits 0 39 rfl)
theorem dX0_fits_40 : decode cX0_fits 40 = .ok (.iconst 1, 1) := dz_4 (k_X0_fits 0 40 rfl)
theorem dX0_fits_41 : decode cX0_fits 41 = .ok (.invokevirtual 72, 3) := dz_182 (k_X0_fits 0 41 rfl) (k_X0_fits 0 42 rfl) (k_X0_fits 0 43 rfl) rfl
theorem dX0_fits_44 : decode cX0_fits 44 = .ok (.invokevirtual 65, 3) := dz_182 (k_X0_fits 0 44 rfl) (k_X0_fits 0 45 rfl) (k_X0_fits 0 46 rfl) rfl
theorem dX0_fits_47 : decode cX0_fits 47 = .ok (.istore 6, 2) := dz_54 (k_X0_fits 0 47 rfl) (k_X0_fits 0 48 rfl)
theorem dX0_fits_49 : decode cX0_fits 49 = .ok (.iload_n 2, 1) := dz_28 (k_X0_fits 0 49 rfl)
theorem dX0_fits_50 : decode cX0_fits 50 = .ok (.tableswitch 286 0 15 #[78, 103, 286, 286, 286, 286, 286, 286, 286, 105, 131, 167, 196, 223, 286, 252], 78) := by decide +kernel
theorem dX0_fits_128 : decode cX0_fits 128 = .ok (.aload_n 0, 1) := dz_42 (k_X0_fits 2 0 rfl)
theorem dX0_fits_129 : decode cX0_fits 129 = .ok (.getfield 15, 3) := dz_180 (k_X0_fits 2 1 rfl) (k_X0_fits 2 2 rfl) (k_X0_fits 2 3 rfl) rfl
theorem dX0_fits_132 : decode cX0_fits 132 = .ok (.aload_n 0, 1) := dz_42 (k_X0_fits 2 4 rfl)
theorem dX0_fits_133 : decode cX0_fits 133 = .ok (.getfield 15, 3) := dz_180 (k_X0_fits 2 5 rfl) (k_X0_fits 2 6 rfl) (k_X0_fits 2 7 rfl) rfl
theorem dX0_fits_136 : decode cX0_fits 136 = .ok (.aload_n 0, 1) := dz_42 (k_X0_fits 2 8 rfl)
theorem dX0_fits_137 : decode cX0_fits 137 = .ok (.getfield 15, 3) := dz_180 (k_X0_fits 2 9 rfl) (k_X0_fits 2 10 rfl) (k_X0_fits 2 11 rfl) rfl
theorem dX0_fits_140 : decode cX0_fits 140 = .ok (.iload_n 1, 1) := dz_27 (k_X0_fits 2 12 rfl)
theorem dX0_fits_141 : decode cX0_fits 141 = .ok (.iconst 3, 1) := dz_6 (k_X0_fits 2 13 rfl)
theorem dX0_fits_142 : decode cX0_fits 142 = .ok (.invokevirtual 57, 3) := dz_182 (k_X0_fits 2 14 rfl) (k_X0_fits 2 15 rfl) (k_X0_fits 2 16 rfl) rfl
theorem dX0_fits_145 : decode cX0_fits 145 = .ok (.invokevirtual 61, 3) := dz_182 (k_X0_fits 2 17 rfl) (k_X0_fits 2 18 rfl) (k_X0_fits 2 19 rfl) rfl
theorem dX0_fits_148 : decode cX0_fits 148 = .ok (.iload_n 3, 1) := dz_29 (k_X0_fits 2 20 rfl)
theorem dX0_fits_149 : decode cX0_fits 149 = .ok (.invokevirtual 68, 3) := dz_182 (k_X0_fits 2 21 rfl) (k_X0_fits 2 22 rfl) (k_X0_fits 2 23 rfl) rfl
theorem dX0_fits_152 : decode cX0_fits 152 = .ok (.ireturn, 1) := dz_172 (k_X0_fits 2 24 rfl)
theorem dX0_fits_153 : decode cX0_fits 153 = .ok (.iconst 1, 1) := dz_4 (k_X0_fits 2 25 rfl)
theorem dX0_fits_154 : decode cX0_fits 154 = .ok (.ireturn, 1) := dz_172 (k_X0_fits 2 26 rfl)
theorem dX0_fits_155 : decode cX0_fits 155 = .ok (.aload_n 0, 1) := dz_42 (k_X0_fits 2 27 rfl)
theorem dX0_fits_156 : decode cX0_fits 156 = .ok (.iload 5, 2) := dz_21 (k_X0_fits 2 28 rfl) (k_X0_fits 2 29 rfl)
theorem dX0_fits_158 : decode cX0_fits 158 = .ok (.iload 6, 2) := dz_21 (k_X0_fits 2 30 rfl) (k_X0_fits 2 31 rfl)
theorem dX0_fits_160 : decode cX0_fits 160 = .ok (.aload_n 0, 1) := dz_42 (k_X0_fits 2 32 rfl)
theorem dX0_fits_161 : decode cX0_fits 161 = .ok (.getfield 15, 3) := dz_180 (k_X0_fits 2 33 rfl) (k_X0_fits 2 34 rfl) (k_X0_fits 2 35 rfl) rfl
theorem dX0_fits_164 : decode cX0_fits 164 = .ok (.aload_n 0, 1) := dz_42 (k_X0_fits 2 36 rfl)
theorem dX0_fits_165 : decode cX0_fits 165 = .ok (.getfield 15, 3) := dz_180 (k_X0_fits 2 37 rfl) (k_X0_fits 2 38 rfl) (k_X0_fits 2 39 rfl) rfl
theorem dX0_fits_168 : decode cX0_fits 168 = .ok (.iload_n 1, 1) := dz_27 (k_X0_fits 2 40 rfl)
theorem dX0_fits_169 : decode cX0_fits 169 = .ok (.iconst 2, 1) := dz_5 (k_X0_fits 2 41 rfl)
theorem dX0_fits_170 : decode cX0_fits 170 = .ok (.invokevirtual 72, 3) := dz_182 (k_X0_fits 2 42 rfl) (k_X0_fits 2 43 rfl) (k_X0_fits 2 44 rfl) rfl
theorem dX0_fits_173 : decode cX0_fits 173 = .ok (.invokevirtual 65, 3) := dz_182 (k_X0_fits 2 45 rfl) (k_X0_fits 2 46 rfl) (k_X0_fits 2 47 rfl) rfl
theorem dX0_fits_176 : decode cX0_fits 176 = .ok (.iload_n 3, 1) := dz_29 (k_X0_fits 2 48 rfl)
theorem dX0_fits_177 : decode cX0_fits 177 = .ok (.invokevirtual 94, 3) := dz_182 (k_X0_fits 2 49 rfl) (k_X0_fits 2 50 rfl) (k_X0_fits 2 51 rfl) rfl
theorem dX0_fits_180 : decode cX0_fits 180 = .ok (.ireturn, 1) := dz_172 (k_X0_fits 2 52 rfl)
theorem dX0_fits_181 : decode cX0_fits 181 = .ok (.aload_n 0, 1) := dz_42 (k_X0_fits 2 53 rfl)
theorem dX0_fits_182 : decode cX0_fits 182 = .ok (.getfield 15, 3) := dz_180 (k_X0_fits 2 54 rfl) (k_X0_fits 2 55 rfl) (k_X0_fits 2 56 rfl) rfl
theorem dX0_fits_185 : decode cX0_fits 185 = .ok (.iload 4, 2) := dz_21 (k_X0_fits 2 57 rfl) (k_X0_fits 2 58 rfl)
theorem dX0_fits_187 : decode cX0_fits 187 = .ok (.iconst 2, 1) := dz_5 (k_X0_fits 2 59 rfl)
theorem dX0_fits_188 : decode cX0_fits 188 = .ok (.invokevirtual 57, 3) := dz_182 (k_X0_fits 2 60 rfl) (k_X0_fits 2 61 rfl) (k_X0_fits 2 62 rfl) rfl
theorem dX0_fits_191 : decode cX0_fits 191 = .ok (.iconst 1, 1) := dz_4 (k_X0_fits 2 63 rfl)
theorem dX0_fits_192 : decode cX0_fits 192 = .ok (.if_icmp .ne 23, 3) := dz_160 (k_X0_fits 3 0 rfl) (k_X0_fits 3 1 rfl) (k_X0_fits 3 2 rfl) rfl
theorem dX0_fits_195 : decode cX0_fits 195 = .ok (.aload_n 0, 1) := dz_42 (k_X0_fits 3 3 rfl)
theorem dX0_fits_196 : decode cX0_fits 196 = .ok (.getfield 9, 3) := dz_180 (k_X0_fits 3 4 rfl) (k_X0_fits 3 5 rfl) (k_X0_fits 3 6 rfl) rfl
theorem dX0_fits_199 : decode cX0_fits 199 = .ok (.iload_n 3, 1) := dz_29 (k_X0_fits 3 7 rfl)
theorem dX0_fits_200 : decode cX0_fits 200 = .ok (.iconst 4, 1) := dz_7 (k_X0_fits 3 8 rfl)
theorem dX0_fits_201 : decode cX0_fits 201 = .ok (.iload 5, 2) := dz_21 (k_X0_fits 3 9 rfl) (k_X0_fits 3 10 rfl)
theorem dX0_fits_203 : decode cX0_fits 203 = .ok (.iload 6, 2) := dz_21 (k_X0_fits 3 11 rfl) (k_X0_fits 3 12 rfl)
theorem dX0_fits_205 : decode cX0_fits 205 = .ok (.invokevirtual 100, 3) := dz_182 (k_X0_fits 3 13 rfl) (k_X0_fits 3 14 rfl) (k_X0_fits 3 15 rfl) rfl
theorem dX0_fits_208 : decode cX0_fits 208 = .ok (.ifCond .eq 7, 3) := dz_153 (k_X0_fits 3 16 rfl) (k_X0_fits 3 17 rfl) (k_X0_fits 3 18 rfl) rfl
theorem dX0_fits_211 : decode cX0_fits 211 = .ok (.iconst 1, 1) := dz_4 (k_X0_fits 3 19 rfl)
theorem dX0_fits_212 : decode cX0_fits 212 = .ok (.goto 4, 3) := dz_167 (k_X0_fits 3 20 rfl) (k_X0_fits 3 21 rfl) (k_X0_fits 3 22 rfl) rfl
theorem dX0_fits_215 : decode cX0_fits 215 = .ok (.iconst 0, 1) := dz_3 (k_X0_fits 3 23 rfl)
theorem dX0_fits_216 : decode cX0_fits 216 = .ok (.ireturn, 1) := dz_172 (k_X0_fits 3 24 rfl)
theorem dX0_fits_217 : decode cX0_fits 217 = .ok (.aload_n 0, 1) := dz_42 (k_X0_fits 3 25 rfl)
theorem dX0_fits_218 : decode cX0_fits 218 = .ok (.getfield 9, 3) := dz_180 (k_X0_fits 3 26 rfl) (k_X0_fits 3 27 rfl) (k_X0_fits 3 28 rfl) rfl
theorem dX0_fits_221 : decode cX0_fits 221 = .ok (.iload 5, 2) := dz_21 (k_X0_fits 3 29 rfl) (k_X0_fits 3 30 rfl)
theorem dX0_fits_223 : decode cX0_fits 223 = .ok (.invokevirtual 103, 3) := dz_182 (k_X0_fits 3 31 rfl) (k_X0_fits 3 32 rfl) (k_X0_fits 3 33 rfl) rfl
theorem dX0_fits_226 : decode cX0_fits 226 = .ok (.iconst 5, 1) := dz_8 (k_X0_fits 3 34 rfl)
theorem dX0_fits_227 : decode cX0_fits 227 = .ok (.if_icmp .ne 17, 3) := dz_160 (k_X0_fits 3 35 rfl) (k_X0_fits 3 36 rfl) (k_X0_fits 3 37 rfl) rfl
theorem dX0_fits_230 : decode cX0_fits 230 = .ok (.aload_n 0, 1) := dz_42 (k_X0_fits 3 38 rfl)
theorem dX0_fits_231 : decode cX0_fits 231 = .ok (.iload 5, 2) := dz_21 (k_X0_fits 3 39 rfl) (k_X0_fits 3 40 rfl)
theorem dX0_fits_233 : decode cX0_fits 233 = .ok (.iload_n 3, 1) := dz_29 (k_X0_fits 3 41 rfl)
theorem dX0_fits_234 : decode cX0_fits 234 = .ok (.invokevirtual 106, 3) := dz_182 (k_X0_fits 3 42 rfl) (k_X0_fits 3 43 rfl) (k_X0_fits 3 44 rfl) rfl
theorem dX0_fits_237 : decode cX0_fits 237 = .ok (.ifCond .eq 7, 3) := dz_153 (k_X0_fits 3 45 rfl) (k_X0_fits 3 46 rfl) (k_X0_fits 3 47 rfl) rfl
theorem dX0_fits_240 : decode cX0_fits 240 = .ok (.iconst 1, 1) := dz_4 (k_X0_fits 3 48 rfl)
theorem dX0_fits_241 : decode cX0_fits 241 = .ok (.goto 4, 3) := dz_167 (k_X0_fits 3 49 rfl) (k_X0_fits 3 50 rfl) (k_X0_fits 3 51 rfl) rfl
theorem dX0_fits_244 : decode cX0_fits 244 = .ok (.iconst 0, 1) := dz_3 (k_X0_fits 3 52 rfl)
theorem dX0_fits_245 : decode cX0_fits 245 = .ok (.ireturn, 1) := dz_172 (k_X0_fits 3 53 rfl)
theorem dX0_fits_246 : decode cX0_fits 246 = .ok (.aload_n 0, 1) := dz_42 (k_X0_fits 3 54 rfl)
theorem dX0_fits_247 : decode cX0_fits 247 = .ok (.getfield 9, 3) := dz_180 (k_X0_fits 3 55 rfl) (k_X0_fits 3 56 rfl) (k_X0_fits 3 57 rfl) rfl
theorem dX0_fits_250 : decode cX0_fits 250 = .ok (.iload_n 3, 1) := dz_29 (k_X0_fits 3 58 rfl)
theorem dX0_fits_251 : decode cX0_fits 251 = .ok (.invokevirtual 103, 3) := dz_182 (k_X0_fits 3 59 rfl) (k_X0_fits 3 60 rfl) (k_X0_fits 3 61 rfl) rfl
theorem dX0_fits_254 : decode cX0_fits 254 = .ok (.iconst 5, 1) := dz_8 (k_X0_fits 3 62 rfl)
theorem dX0_fits_255 : decode cX0_fits 255 = .ok (.if_icmp .ne 16, 3) := dz_160 (k_X0_fits 3 63 rfl) (k_X0_fits 4 0 rfl) (k_X0_fits 4 1 rfl) rfl
theorem dX0_fits_258 : decode cX0_fits 258 = .ok (.aload_n 0, 1) := dz_42 (k_X0_fits 4 2 rfl)
theorem dX0_fits_259 : decode cX0_fits 259 = .ok (.iload_n 1, 1) := dz_27 (k_X0_fits 4 3 rfl)
theorem dX0_fits_260 : decode cX0_fits 260 = .ok (.iload_n 3, 1) := dz_29 (k_X0_fits 4 4 rfl)
theorem dX0_fits_261 : decode cX0_fits 261 = .ok (.invokevirtual 109, 3) := dz_182 (k_X0_fits 4 5 rfl) (k_X0_fits 4 6 rfl) (k_X0_fits 4 7 rfl) rfl
theorem dX0_fits_264 : decode cX0_fits 264 = .ok (.ifCond .eq 7, 3) := dz_153 (k_X0_fits 4 8 rfl) (k_X0_fits 4 9 rfl) (k_X0_fits 4 10 rfl) rfl
theorem dX0_fits_267 : decode cX0_fits 267 = .ok (.iconst 1, 1) := dz_4 (k_X0_fits 4 11 rfl)
theorem dX0_fits_268 : decode cX0_fits 268 = .ok (.goto 4, 3) := dz_167 (k_X0_fits 4 12 rfl) (k_X0_fits 4 13 rfl) (k_X0_fits 4 14 rfl) rfl
theorem dX0_fits_271 : decode cX0_fits 271 = .ok (.iconst 0, 1) := dz_3 (k_X0_fits 4 15 rfl)
theorem dX0_fits_272 : decode cX0_fits 272 = .ok (.ireturn, 1) := dz_172 (k_X0_fits 4 16 rfl)
theorem dX0_fits_273 : decode cX0_fits 273 = .ok (.aload_n 0, 1) := dz_42 (k_X0_fits 4 17 rfl)
theorem dX0_fits_274 : decode cX0_fits 274 = .ok (.getfield 9, 3) := dz_180 (k_X0_fits 4 18 rfl) (k_X0_fits 4 19 rfl) (k_X0_fits 4 20 rfl) rfl
theorem dX0_fits_277 : decode cX0_fits 277 = .ok (.iload_n 3, 1) := dz_29 (k_X0_fits 4 21 rfl)
theorem dX0_fits_278 : decode cX0_fits 278 = .ok (.invokevirtual 103, 3) := dz_182 (k_X0_fits 4 22 rfl) (k_X0_fits 4 23 rfl) (k_X0_fits 4 24 rfl) rfl
theorem dX0_fits_281 : decode cX0_fits 281 = .ok (.bipush 6, 2) := dz_16 (k_X0_fits 4 25 rfl) (k_X0_fits 4 26 rfl) rfl
theorem dX0_fits_283 : decode cX0_fits 283 = .ok (.if_icmp .ne 17, 3) := dz_160 (k_X0_fits 4 27 rfl) (k_X0_fits 4 28 rfl) (k_X0_fits 4 29 rfl) rfl
theorem dX0_fits_286 : decode cX0_fits 286 = .ok (.aload_n 0, 1) := dz_42 (k_X0_fits 4 30 rfl)
theorem dX0_fits_287 : decode cX0_fits 287 = .ok (.iload_n 3, 1) := dz_29 (k_X0_fits 4 31 rfl)
theorem dX0_fits_288 : decode cX0_fits 288 = .ok (.iload 5, 2) := dz_21 (k_X0_fits 4 32 rfl) (k_X0_fits 4 33 rfl)
theorem dX0_fits_290 : decode cX0_fits 290 = .ok (.invokevirtual 106, 3) := dz_182 (k_X0_fits 4 34 rfl) (k_X0_fits 4 35 rfl) (k_X0_fits 4 36 rfl) rfl
theorem dX0_fits_293 : decode cX0_fits 293 = .ok (.ifCond .eq 7, 3) := dz_153 (k_X0_fits 4 37 rfl) (k_X0_fits 4 38 rfl) (k_X0_fits 4 39 rfl) rfl
theorem dX0_fits_296 : decode cX0_fits 296 = .ok (.iconst 1, 1) := dz_4 (k_X0_fits 4 40 rfl)
theorem dX0_fits_297 : decode cX0_fits 297 = .ok (.goto 4, 3) := dz_167 (k_X0_fits 4 41 rfl) (k_X0_fits 4 42 rfl) (k_X0_fits 4 43 rfl) rfl
theorem dX0_fits_300 : decode cX0_fits 300 = .ok (.iconst 0, 1) := dz_3 (k_X0_fits 4 44 rfl)
theorem dX0_fits_301 : decode cX0_fits 301 = .ok (.ireturn, 1) := dz_172 (k_X0_fits 4 45 rfl)
theorem dX0_fits_302 : decode cX0_fits 302 = .ok (.iload 5, 2) := dz_21 (k_X0_fits 4 46 rfl) (k_X0_fits 4 47 rfl)
theorem dX0_fits_304 : decode cX0_fits 304 = .ok (.iload_n 3, 1) := dz_29 (k_X0_fits 4 48 rfl)
theorem dX0_fits_305 : decode cX0_fits 305 = .ok (.if_icmp .ne 29, 3) := dz_160 (k_X0_fits 4 49 rfl) (k_X0_fits 4 50 rfl) (k_X0_fits 4 51 rfl) rfl
theorem dX0_fits_308 : decode cX0_fits 308 = .ok (.aload_n 0, 1) := dz_42 (k_X0_fits 4 52 rfl)
theorem dX0_fits_309 : decode cX0_fits 309 = .ok (.getfield 15, 3) := dz_180 (k_X0_fits 4 53 rfl) (k_X0_fits 4 54 rfl) (k_X0_fits 4 55 rfl) rfl
theorem dX0_fits_312 : decode cX0_fits 312 = .ok (.iload 4, 2) := dz_21 (k_X0_fits 4 56 rfl) (k_X0_fits 4 57 rfl)
theorem dX0_fits_314 : decode cX0_fits 314 = .ok (.iconst 0, 1) := dz_3 (k_X0_fits 4 58 rfl)
theorem dX0_fits_315 : decode cX0_fits 315 = .ok (.invokevirtual 57, 3) := dz_182 (k_X0_fits 4 59 rfl) (k_X0_fits 4 60 rfl) (k_X0_fits 4 61 rfl) rfl
theorem dX0_fits_318 : decode cX0_fits 318 = .ok (.aload_n 0, 1) := dz_42 (k_X0_fits 4 62 rfl)
theorem dX0_fits_319 : decode cX0_fits 319 = .ok (.getfield 15, 3) := dz_180 (k_X0_fits 4 63 rfl) (k_X0_fits 5 0 rfl) (k_X0_fits 5 1 rfl) rfl
theorem dX0_fits_322 : decode cX0_fits 322 = .ok (.iload_n 1, 1) := dz_27 (k_X0_fits 5 2 rfl)
theorem dX0_fits_323 : decode cX0_fits 323 = .ok (.iconst 0, 1) := dz_3 (k_X0_fits 5 3 rfl)
theorem dX0_fits_324 : decode cX0_fits 324 = .ok (.invokevirtual 57, 3) := dz_182 (k_X0_fits 5 4 rfl) (k_X0_fits 5 5 rfl) (k_X0_fits 5 6 rfl) rfl
theorem dX0_fits_327 : decode cX0_fits 327 = .ok (.if_icmp .eq 7, 3) := dz_159 (k_X0_fits 5 7 rfl) (k_X0_fits 5 8 rfl) (k_X0_fits 5 9 rfl) rfl
theorem dX0_fits_330 : decode cX0_fits 330 = .ok (.iconst 1, 1) := dz_4 (k_X0_fits 5 10 rfl)
theorem dX0_fits_331 : decode cX0_fits 331 = .ok (.goto 4, 3) := dz_167 (k_X0_fits 5 11 rfl) (k_X0_fits 5 12 rfl) (k_X0_fits 5 13 rfl) rfl
theorem dX0_fits_334 : decode cX0_fits 334 = .ok (.iconst 0, 1) := dz_3 (k_X0_fits 5 14 rfl)
theorem dX0_fits_335 : decode cX0_fits 335 = .ok (.ireturn, 1) := dz_172 (k_X0_fits 5 15 rfl)
theorem dX0_fits_336 : decode cX0_fits 336 = .ok (.aload_n 0, 1) := dz_42 (k_X0_fits 5 16 rfl)
theorem dX0_fits_337 : decode cX0_fits 337 = .ok (.iload_n 2, 1) := dz_28 (k_X0_fits 5 17 rfl)
theorem dX0_fits_338 : decode cX0_fits 338 = .ok (.iload 5, 2) := dz_21 (k_X0_fits 5 18 rfl) (k_X0_fits 5 19 rfl)
theorem dX0_fits_340 : decode cX0_fits 340 = .ok (.iload 6, 2) := dz_21 (k_X0_fits 5 20 rfl) (k_X0_fits 5 21 rfl)
theorem dX0_fits_342 : decode cX0_fits 342 = .ok (.iload_n 3, 1) := dz_29 (k_X0_fits 5 22 rfl)
theorem dX0_fits_343 : decode cX0_fits 343 = .ok (.invokevirtual 112, 3) := dz_182 (k_X0_fits 5 23 rfl) (k_X0_fits 5 24 rfl) (k_X0_fits 5 25 rfl) rfl
theorem dX0_fits_346 : decode cX0_fits 346 = .ok (.ireturn, 1) := dz_172 (k_X0_fits 5 26 rfl)
def B_X0_fitsCases : List (List Nat) := [[42, 180, 0, 9, 27, 182, 0, 103, 6, 160, 0, 51, 42, 180, 0, 9, 28, 7, 42, 180, 0, 9, 27, 182, 0, 115, 21, 4, 182, 0, 100, 153, 0, 29, 42, 180, 0, 9, 29, 7, 42, 180, 0, 9, 27, 182, 0, 118, 21, 4, 182, 0, 100, 153, 0, 7, 4, 167, 0, 4, 3, 172]]
theorem k_X0_fitsCases (j i : Nat) {b : Nat} (h : (B_X0_fitsCases[j]?.bind fun c => c[i]?) = some b) : s_by cX0_fitsCases (64 * j + i) b := s_byC (L := B_X0_fitsCases) (by decide +kernel) (by decide +kernel) j i h
theorem dX0_fitsCases_0 : decode cX0_fitsCases 0 = .ok (.aload_n 0, 1) := dz_42 (k_X0_fitsCases 0 0 rfl)
theorem dX0_fitsCases_1 : decode cX0_fitsCases 1 = .ok (.getfield 9, 3) := dz_180 (k_X0_fitsCases 0 1 rfl) (k_X0_fitsCases 0 2 rfl) (k_X0_fitsCases 0 3 rfl) rfl
theorem dX0_fitsCases_4 : decode cX0_fitsCases 4 = .ok (.iload_n 1, 1) := dz_27 (k_X0_fitsCases 0 4 rfl)
theorem dX0_fitsCases_5 : decode cX0_fitsCases 5 = .ok (.invokevirtual 103, 3) := dz_182 (k_X0_fitsCases 0 5 rfl) (k_X0_fitsCases 0 6 rfl) (k_X0_fitsCases 0 7 rfl) rfl
theorem dX0_fitsCases_8 : decode cX0_fitsCases 8 = .ok (.iconst 3, 1) := dz_6 (k_X0_fitsCases 0 8 rfl)
theorem dX0_fitsCases_9 : decode cX0_fitsCases 9 = .ok (.if_icmp .ne 51, 3) := dz_160 (k_X0_fitsCases 0 9 rfl) (k_X0_fitsCases 0 10 rfl) (k_X0_fitsCases 0 11 rfl) rfl
theorem dX0_fitsCases_12 : decode cX0_fitsCases 12 = .ok (.aload_n 0, 1) := dz_42 (k_X0_fitsCases 0 12 rfl)
theorem dX0_fitsCases_13 : decode cX0_fitsCases 13 = .ok (.getfield 9, 3) := dz_180 (k_X0_fitsCases 0 13 rfl) (k_X0_fitsCases 0 14 rfl) (k_X0_fitsCases 0 15 rfl) rfl
theorem dX0_fitsCases_16 : decode cX0_fitsCases 16 = .ok (.iload_n 2, 1) := dz_28 (k_X0_fitsCases 0 16 rfl)
theorem dX0_fitsCases_17 : decode cX0_fitsCases 17 = .ok (.iconst 4, 1) := dz_7 (k_X0_fitsCases 0 17 rfl)
theorem dX0_fitsCases_18 : decode cX0_fitsCases 18 = .ok (.aload_n 0, 1) := dz_42 (k_X0_fitsCases 0 18 rfl)
theorem dX0_fitsCases_19 : decode cX0_fitsCases 19 = .ok (.getfield 9, 3) := dz_180 (k_X0_fitsCases 0 19 rfl) (k_X0_fitsCases 0 20 rfl) (k_X0_fitsCases 0 21 rfl) rfl
theorem dX0_fitsCases_22 : decode cX0_fitsCases 22 = .ok (.iload_n 1, 1) := dz_27 (k_X0_fitsCases 0 22 rfl)
theorem dX0_fitsCases_23 : decode cX0_fitsCases 23 = .ok (.invokevirtual 115, 3) := dz_182 (k_X0_fitsCases 0 23 rfl) (k_X0_fitsCases 0 24 rfl) (k_X0_fitsCases 0 25 rfl) rfl
theorem dX0_fitsCases_26 : decode cX0_fitsCases 26 = .ok (.iload 4, 2) := dz_21 (k_X0_fitsCases 0 26 rfl) (k_X0_fitsCases 0 27 rfl)
theorem dX0_fitsCases_28 : decode cX0_fitsCases 28 = .ok (.invokevirtual 100, 3) := dz_182 (k_X0_fitsCases 0 28 rfl) (k_X0_fitsCases 0 29 rfl) (k_X0_fitsCases 0 30 rfl) rfl
theorem dX0_fitsCases_31 : decode cX0_fitsCases 31 = .ok (.ifCond .eq 29, 3) := dz_153 (k_X0_fitsCases 0 31 rfl) (k_X0_fitsCases 0 32 rfl) (k_X0_fitsCases 0 33 rfl) rfl
theorem dX0_fitsCases_34 : decode cX0_fitsCases 34 = .ok (.aload_n 0, 1) := dz_42 (k_X0_fitsCases 0 34 rfl)
theorem dX0_fitsCases_35 : decode cX0_fitsCases 35 = .ok (.getfield 9, 3) := dz_180 (k_X0_fitsCases 0 35 rfl) (k_X0_fitsCases 0 36 rfl) (k_X0_fitsCases 0 37 rfl) rfl
theorem dX0_fitsCases_38 : decode cX0_fitsCases 38 = .ok (.iload_n 3, 1) := dz_29 (k_X0_fitsCases 0 38 rfl)
theorem dX0_fitsCases_39 : decode cX0_fitsCases 39 = .ok (.iconst 4, 1) := dz_7 (k_X0_fitsCases 0 39 rfl)
theorem dX0_fitsCases_40 : decode cX0_fitsCases 40 = .ok (.aload_n 0, 1) := dz_42 (k_X0_fitsCases 0 40 rfl)
theorem dX0_fitsCases_41 : decode cX0_fitsCases 41 = .ok (.getfield 9, 3) := dz_180 (k_X0_fitsCases 0 41 rfl) (k_X0_fitsCases 0 42 rfl) (k_X0_fitsCases 0 43 rfl) rfl
theorem dX0_fitsCases_44 : decode cX0_fitsCases 44 = .ok (.iload_n 1, 1) := dz_27 (k_X0_fitsCases 0 44 rfl)
theorem dX0_fitsCases_45 : decode cX0_fitsCases 45 = .ok (.invokevirtual 118, 3) := dz_182 (k_X0_fitsCases 0 45 rfl) (k_X0_fitsCases 0 46 rfl) (k_X0_fitsCases 0 47 rfl) rfl
theorem dX0_fitsCases_48 : decode cX0_fitsCases 48 = .ok (.iload 4, 2) := dz_21 (k_X0_fitsCases 0 48 rfl) (k_X0_fitsCases 0 49 rfl)
theorem dX0_fitsCases_50 : decode cX0_fitsCases 50 = .ok (.invokevirtual 100, 3) := dz_182 (k_X0_fitsCases 0 50 rfl) (k_X0_fitsCases 0 51 rfl) (k_X0_fitsCases 0 52 rfl) rfl
theorem dX0_fitsCases_53 : decode cX0_fitsCases 53 = .ok (.ifCond .eq 7, 3) := dz_153 (k_X0_fitsCases 0 53 rfl) (k_X0_fitsCases 0 54 rfl) (k_X0_fitsCases 0 55 rfl) rfl
theorem dX0_fitsCases_56 : decode cX0_fitsCases 56 = .ok (.iconst 1, 1) := dz_4 (k_X0_fitsCases 0 56 rfl)
theorem dX0_fitsCases_57 : decode cX0_fitsCases 57 = .ok (.goto 4, 3) := dz_167 (k_X0_fitsCases 0 57 rfl) (k_X0_fitsCases 0 58 rfl) (k_X0_fitsCases 0 59 rfl) rfl
theorem dX0_fitsCases_60 : decode cX0_fitsCases 60 = .ok (.iconst 0, 1) := dz_3 (k_X0_fitsCases 0 60 rfl)
theorem dX0_fitsCases_61 : decode cX0_fitsCases 61 = .ok (.ireturn, 1) := dz_172 (k_X0_fitsCases 0 61 rfl)
def B_X0_fitsPlain : List (List Nat) := [[27, 170, 0, 0, 0, 0, 1, 15, 0, 0, 0, 2, 0, 0, 0, 14, 0, 0, 0, 67, 0, 0, 0, 80, 0, 0, 0, 111, 0, 0, 0, 142, 0, 0, 0, 174, 0, 0, 0, 206, 0, 0, 0, 219, 0, 0, 1, 15, 0, 0, 1, 15, 0, 0, 1, 15, 0, 0, 1, 15, 0, 0, 1, 15], [0, 0, 1, 3, 42, 180, 0, 9, 21, 4, 5, 28, 29, 182, 0, 100, 172, 42, 180, 0, 9, 28, 182, 0, 103, 5, 160, 0, 20, 42, 180, 0, 9, 28, 182, 0, 115, 21, 4, 160, 0, 7, 4, 167, 0, 4, 3, 172, 42, 180, 0, 9, 28, 182, 0, 103, 5, 160, 0, 20, 42, 180, 0, 9], [28, 182, 0, 118, 21, 4, 160, 0, 7, 4, 167, 0, 4, 3, 172, 42, 180, 0, 9, 21, 4, 182, 0, 103, 6, 160, 0, 20, 42, 180, 0, 9, 21, 4, 182, 0, 115, 28, 160, 0, 7, 4, 167, 0, 4, 3, 172, 42, 180, 0, 9, 21, 4, 182, 0, 103, 6, 160, 0, 20, 42, 180, 0, 9], [21, 4, 182, 0, 118, 28, 160, 0, 7, 4, 167, 0, 4, 3, 172, 42, 180, 0, 9, 29, 7, 28, 21, 4, 182, 0, 100, 172, 42, 180, 0, 9, 28, 182, 0, 103, 4, 160, 0, 29, 42, 180, 0, 9, 42, 180, 0, 9, 28, 182, 0, 115, 4, 21, 4, 2, 182, 0, 100, 153, 0, 7, 4, 167], [0, 4, 3, 172, 42, 180, 0, 9, 29, 4, 28, 2, 182, 0, 100, 172, 3, 172]]
theorem k_X0_fitsPlain (j i : Nat) {b : Nat} (h : (B_X0_fitsPlain[j]?.bind fun c => c[i]?) = some b) : s_by cX0_fitsPlain (64 * j + i) b := s_byC (L := B_X0_fitsPlain) (by decide +kernel) (by decide +kernel) j i h
theorem dX0_fitsPlain_0 : decode cX0_fitsPlain 0 = .ok (.iload_n 1, 1) := dz_27 (k_X0_fitsPlain 0 0 rfl)
theorem dX0_fitsPlain_1 : decode cX0_fitsPlain 1 = .ok (.tableswitch 271 2 14 #[67, 80, 111, 142, 174, 206, 219, 271, 271, 271, 271, 271, 259], 67) := by decide +kernel
theorem dX0_fitsPlain_68 : decode cX0_fitsPlain 68 = .ok (.aload_n 0, 1) := dz_42 (k_X0_fitsPlain 1 4 rfl)
theorem dX0_fitsPlain_69 : decode cX0_fitsPlain 69 = .ok (.getfield 9, 3) := dz_180 (k_X0_fitsPlain 1 5 rfl) (k_X0_fitsPlain 1 6 rfl) (k_X0_fitsPlain 1 7 rfl) rfl
theorem dX0_fitsPlain_72 : decode cX0_fitsPlain 72 = .ok (.iload 4, 2) := dz_21 (k_X0_fitsPlain 1 8 rfl) (k_X0_fitsPlain 1 9 rfl)
theorem dX0_fitsPlain_74 : decode cX0_fitsPlain 74 = .ok (.iconst 2, 1) := dz_5 (k_X0_fitsPlain 1 10 rfl)
theorem dX0_fitsPlain_75 : decode cX0_fitsPlain 75 = .ok (.iload_n 2, 1) := dz_28 (k_X0_fitsPlain 1 11 rfl)
theorem dX0_fitsPlain_76 : decode cX0_fitsPlain 76 = .ok (.iload_n 3, 1) := dz_29 (k_X0_fitsPlain 1 12 rfl)
theorem dX0_fitsPlain_77 : decode cX0_fitsPlain 77 = .ok (.invokevirtual 100, 3) := dz_182 (k_X0_fitsPlain 1 13 rfl) (k_X0_fitsPlain 1 14 rfl) (k_X0_fitsPlain 1 15 rfl) rfl
theorem dX0_fitsPlain_80 : decode cX0_fitsPlain 80 = .ok (.ireturn, 1) := dz_172 (k_X0_fitsPlain 1 16 rfl)
theorem dX0_fitsPlain_81 : decode cX0_fitsPlain 81 = .ok (.aload_n 0, 1) := dz_42 (k_X0_fitsPlain 1 17 rfl)
theorem dX0_fitsPlain_82 : decode cX0_fitsPlain 82 = .ok (.getfield 9, 3) := dz_180 (k_X0_fitsPlain 1 18 rfl) (k_X0_fitsPlain 1 19 rfl) (k_X0_fitsPlain 1 20 rfl) rfl
theorem dX0_fitsPlain_85 : decode cX0_fitsPlain 85 = .ok (.iload_n 2, 1) := dz_28 (k_X0_fitsPlain 1 21 rfl)
theorem dX0_fitsPlain_86 : decode cX0_fitsPlain 86 = .ok (.invokevirtual 103, 3) := dz_182 (k_X0_fitsPlain 1 22 rfl) (k_X0_fitsPlain 1 23 rfl) (k_X0_fitsPlain 1 24 rfl) rfl
theorem dX0_fitsPlain_89 : decode cX0_fitsPlain 89 = .ok (.iconst 2, 1) := dz_5 (k_X0_fitsPlain 1 25 rfl)
theorem dX0_fitsPlain_90 : decode cX0_fitsPlain 90 = .ok (.if_icmp .ne 20, 3) := dz_160 (k_X0_fitsPlain 1 26 rfl) (k_X0_fitsPlain 1 27 rfl) (k_X0_fitsPlain 1 28 rfl) rfl
theorem dX0_fitsPlain_93 : decode cX0_fitsPlain 93 = .ok (.aload_n 0, 1) := dz_42 (k_X0_fitsPlain 1 29 rfl)
theorem dX0_fitsPlain_94 : decode cX0_fitsPlain 94 = .ok (.getfield 9, 3) := dz_180 (k_X0_fitsPlain 1 30 rfl) (k_X0_fitsPlain 1 31 rfl) (k_X0_fitsPlain 1 32 rfl) rfl
theorem dX0_fitsPlain_97 : decode cX0_fitsPlain 97 = .ok (.iload_n 2, 1) := dz_28 (k_X0_fitsPlain 1 33 rfl)
theorem dX0_fitsPlain_98 : decode cX0_fitsPlain 98 = .ok (.invokevirtual 115, 3) := dz_182 (k_X0_fitsPlain 1 34 rfl) (k_X0_fitsPlain 1 35 rfl) (k_X0_fitsPlain 1 36 rfl) rfl
theorem dX0_fitsPlain_101 : decode cX0_fitsPlain 101 = .ok (.iload 4, 2) := dz_21 (k_X0_fitsPlain 1 37 rfl) (k_X0_fitsPlain 1 38 rfl)
theorem dX0_fitsPlain_103 : decode cX0_fitsPlain 103 = .ok (.if_icmp .ne 7, 3) := dz_160 (k_X0_fitsPlain 1 39 rfl) (k_X0_fitsPlain 1 40 rfl) (k_X0_fitsPlain 1 41 rfl) rfl
theorem dX0_fitsPlain_106 : decode cX0_fitsPlain 106 = .ok (.iconst 1, 1) := dz_4 (k_X0_fitsPlain 1 42 rfl)
theorem dX0_fitsPlain_107 : decode cX0_fitsPlain 107 = .ok (.goto 4, 3) := dz_167 (k_X0_fitsPlain 1 43 rfl) (k_X0_fitsPlain 1 44 rfl) (k_X0_fitsPlain 1 45 rfl) rfl
theorem dX0_fitsPlain_110 : decode cX0_fitsPlain 110 = .ok (.iconst 0, 1) := dz_3 (k_X0_fitsPlain 1 46 rfl)
theorem dX0_fitsPlain_111 : decode cX0_fitsPlain 111 = .ok (.ireturn, 1) := dz_172 (k_X0_fitsPlain 1 47 rfl)
theorem dX0_fitsPlain_112 : decode cX0_fitsPlain 112 = .ok (.aload_n 0, 1) := dz_42 (k_X0_fitsPlain 1 48 rfl)
theorem dX0_fitsPlain_113 : decode cX0_fitsPlain 113 = .ok (.getfield 9, 3) := dz_180 (k_X0_fitsPlain 1 49 rfl) (k_X0_fitsPlain 1 50 rfl) (k_X0_fitsPlain 1 51 rfl) rfl
theorem dX0_fitsPlain_116 : decode cX0_fitsPlain 116 = .ok (.iload_n 2, 1) := dz_28 (k_X0_fitsPlain 1 52 rfl)
theorem dX0_fitsPlain_117 : decode cX0_fitsPlain 117 = .ok (.invokevirtual 103, 3) := dz_182 (k_X0_fitsPlain 1 53 rfl) (k_X0_fitsPlain 1 54 rfl) (k_X0_fitsPlain 1 55 rfl) rfl
theorem dX0_fitsPlain_120 : decode cX0_fitsPlain 120 = .ok (.iconst 2, 1) := dz_5 (k_X0_fitsPlain 1 56 rfl)
theorem dX0_fitsPlain_121 : decode cX0_fitsPlain 121 = .ok (.if_icmp .ne 20, 3) := dz_160 (k_X0_fitsPlain 1 57 rfl) (k_X0_fitsPlain 1 58 rfl) (k_X0_fitsPlain 1 59 rfl) rfl
theorem dX0_fitsPlain_124 : decode cX0_fitsPlain 124 = .ok (.aload_n 0, 1) := dz_42 (k_X0_fitsPlain 1 60 rfl)
theorem dX0_fitsPlain_125 : decode cX0_fitsPlain 125 = .ok (.getfield 9, 3) := dz_180 (k_X0_fitsPlain 1 61 rfl) (k_X0_fitsPlain 1 62 rfl) (k_X0_fitsPlain 1 63 rfl) rfl
theorem dX0_fitsPlain_128 : decode cX0_fitsPlain 128 = .ok (.iload_n 2, 1) := dz_28 (k_X0_fitsPlain 2 0 rfl)
theorem dX0_fitsPlain_129 : decode cX0_fitsPlain 129 = .ok (.invokevirtual 118, 3) := dz_182 (k_X0_fitsPlain 2 1 rfl) (k_X0_fitsPlain 2 2 rfl) (k_X0_fitsPlain 2 3 rfl) rfl
theorem dX0_fitsPlain_132 : decode cX0_fitsPlain 132 = .ok (.iload 4, 2) := dz_21 (k_X0_fitsPlain 2 4 rfl) (k_X0_fitsPlain 2 5 rfl)
theorem dX0_fitsPlain_134 : decode cX0_fitsPlain 134 = .ok (.if_icmp .ne 7, 3) := dz_160 (k_X0_fitsPlain 2 6 rfl) (k_X0_fitsPlain 2 7 rfl) (k_X0_fitsPlain 2 8 rfl) rfl
theorem dX0_fitsPlain_137 : decode cX0_fitsPlain 137 = .ok (.iconst 1, 1) := dz_4 (k_X0_fitsPlain 2 9 rfl)
theorem dX0_fitsPlain_138 : decode cX0_fitsPlain 138 = .ok (.goto 4, 3) := dz_167 (k_X0_fitsPlain 2 10 rfl) (k_X0_fitsPlain 2 11 rfl) (k_X0_fitsPlain 2 12 rfl) rfl
theorem dX0_fitsPlain_141 : decode cX0_fitsPlain 141 = .ok (.iconst 0, 1) := dz_3 (k_X0_fitsPlain 2 13 rfl)
theorem dX0_fitsPlain_142 : decode cX0_fitsPlain 142 = .ok (.ireturn, 1) := dz_172 (k_X0_fitsPlain 2 14 rfl)
theorem dX0_fitsPlain_143 : decode cX0_fitsPlain 143 = .ok (.aload_n 0, 1) := dz_42 (k_X0_fitsPlain 2 15 rfl)
theorem dX0_fitsPlain_144 : decode cX0_fitsPlain 144 = .ok (.getfield 9, 3) := dz_180 (k_X0_fitsPlain 2 16 rfl) (k_X0_fitsPlain 2 17 rfl) (k_X0_fitsPlain 2 18 rfl) rfl
theorem dX0_fitsPlain_147 : decode cX0_fitsPlain 147 = .ok (.iload 4, 2) := dz_21 (k_X0_fitsPlain 2 19 rfl) (k_X0_fitsPlain 2 20 rfl)
theorem dX0_fitsPlain_149 : decode cX0_fitsPlain 149 = .ok (.invokevirtual 103, 3) := dz_182 (k_X0_fitsPlain 2 21 rfl) (k_X0_fitsPlain 2 22 rfl) (k_X0_fitsPlain 2 23 rfl) rfl
theorem dX0_fitsPlain_152 : decode cX0_fitsPlain 152 = .ok (.iconst 3, 1) := dz_6 (k_X0_fitsPlain 2 24 rfl)
theorem dX0_fitsPlain_153 : decode cX0_fitsPlain 153 = .ok (.if_icmp .ne 20, 3) := dz_160 (k_X0_fitsPlain 2 25 rfl) (k_X0_fitsPlain 2 26 rfl) (k_X0_fitsPlain 2 27 rfl) rfl
theorem dX0_fitsPlain_156 : decode cX0_fitsPlain 156 = .ok (.aload_n 0, 1) := dz_42 (k_X0_fitsPlain 2 28 rfl)
theorem dX0_fitsPlain_157 : decode cX0_fitsPlain 157 = .ok (.getfield 9, 3) := dz_180 (k_X0_fitsPlain 2 29 rfl) (k_X0_fitsPlain 2 30 rfl) (k_X0_fitsPlain 2 31 rfl) rfl
theorem dX0_fitsPlain_160 : decode cX0_fitsPlain 160 = .ok (.iload 4, 2) := dz_21 (k_X0_fitsPlain 2 32 rfl) (k_X0_fitsPlain 2 33 rfl)
theorem dX0_fitsPlain_162 : decode cX0_fitsPlain 162 = .ok (.invokevirtual 115, 3) := dz_182 (k_X0_fitsPlain 2 34 rfl) (k_X0_fitsPlain 2 35 rfl) (k_X0_fitsPlain 2 36 rfl) rfl
theorem dX0_fitsPlain_165 : decode cX0_fitsPlain 165 = .ok (.iload_n 2, 1) := dz_28 (k_X0_fitsPlain 2 37 rfl)
theorem dX0_fitsPlain_166 : decode cX0_fitsPlain 166 = .ok (.if_icmp .ne 7, 3) := dz_160 (k_X0_fitsPlain 2 38 rfl) (k_X0_fitsPlain 2 39 rfl) (k_X0_fitsPlain 2 40 rfl) rfl
theorem dX0_fitsPlain_169 : decode cX0_fitsPlain 169 = .ok (.iconst 1, 1) := dz_4 (k_X0_fitsPlain 2 41 rfl)
theorem dX0_fitsPlain_170 : decode cX0_fitsPlain 170 = .ok (.goto 4, 3) := dz_167 (k_X0_fitsPlain 2 42 rfl) (k_X0_fitsPlain 2 43 rfl) (k_X0_fitsPlain 2 44 rfl) rfl
theorem dX0_fitsPlain_173 : decode cX0_fitsPlain 173 = .ok (.iconst 0, 1) := dz_3 (k_X0_fitsPlain 2 45 rfl)
theorem dX0_fitsPlain_174 : decode cX0_fitsPlain 174 = .ok (.ireturn, 1) := dz_172 (k_X0_fitsPlain 2 46 rfl)
theorem dX0_fitsPlain_175 : decode cX0_fitsPlain 175 = .ok (.aload_n 0, 1) := dz_42 (k_X0_fitsPlain 2 47 rfl)
theorem dX0_fitsPlain_176 : decode cX0_fitsPlain 176 = .ok (.getfield 9, 3) := dz_180 (k_X0_fitsPlain 2 48 rfl) (k_X0_fitsPlain 2 49 rfl) (k_X0_fitsPlain 2 50 rfl) rfl
theorem dX0_fitsPlain_179 : decode cX0_fitsPlain 179 = .ok (.iload 4, 2) := dz_21 (k_X0_fitsPlain 2 51 rfl) (k_X0_fitsPlain 2 52 rfl)
theorem dX0_fitsPlain_181 : decode cX0_fitsPlain 181 = .ok (.invokevirtual 103, 3) := dz_182 (k_X0_fitsPlain 2 53 rfl) (k_X0_fitsPlain 2 54 rfl) (k_X0_fitsPlain 2 55 rfl) rfl
theorem dX0_fitsPlain_184 : decode cX0_fitsPlain 184 = .ok (.iconst 3, 1) := dz_6 (k_X0_fitsPlain 2 56 rfl)
theorem dX0_fitsPlain_185 : decode cX0_fitsPlain 185 = .ok (.if_icmp .ne 20, 3) := dz_160 (k_X0_fitsPlain 2 57 rfl) (k_X0_fitsPlain 2 58 rfl) (k_X0_fitsPlain 2 59 rfl) rfl
theorem dX0_fitsPlain_188 : decode cX0_fitsPlain 188 = .ok (.aload_n 0, 1) := dz_42 (k_X0_fitsPlain 2 60 rfl)
theorem dX0_fitsPlain_189 : decode cX0_fitsPlain 189 = .ok (.getfield 9, 3) := dz_180 (k_X0_fitsPlain 2 61 rfl) (k_X0_fitsPlain 2 62 rfl) (k_X0_fitsPlain 2 63 rfl) rfl
theorem dX0_fitsPlain_192 : decode cX0_fitsPlain 192 = .ok (.iload 4, 2) := dz_21 (k_X0_fitsPlain 3 0 rfl) (k_X0_fitsPlain 3 1 rfl)
theorem dX0_fitsPlain_194 : decode cX0_fitsPlain 194 = .ok (.invokevirtual 118, 3) := dz_182 (k_X0_fitsPlain 3 2 rfl) (k_X0_fitsPlain 3 3 rfl) (k_X0_fitsPlain 3 4 rfl) rfl
theorem dX0_fitsPlain_197 : decode cX0_fitsPlain 197 = .ok (.iload_n 2, 1) := dz_28 (k_X0_fitsPlain 3 5 rfl)
theorem dX0_fitsPlain_198 : decode cX0_fitsPlain 198 = .ok (.if_icmp .ne 7, 3) := dz_160 (k_X0_fitsPlain 3 6 rfl) (k_X0_fitsPlain 3 7 rfl) (k_X0_fitsPlain 3 8 rfl) rfl
theorem dX0_fitsPlain_201 : decode cX0_fitsPlain 201 = .ok (.iconst 1, 1) := dz_4 (k_X0_fitsPlain 3 9 rfl)
theorem dX0_fitsPlain_202 : decode cX0_fitsPlain 202 = .ok (.goto 4, 3) := dz_167 (k_X0_fitsPlain 3 10 rfl) (k_X0_fitsPlain 3 11 rfl) (k_X0_fitsPlain 3 12 rfl) rfl
theorem dX0_fitsPlain_205 : decode cX0_fitsPlain 205 = .ok (.iconst 0, 1) := dz_3 (k_X0_fitsPlain 3 13 rfl)
theorem dX0_fitsPlain_206 : decode cX0_fitsPlain 206 = .ok (.ireturn, 1) := dz_172 (k_X0_fitsPlain 3 14 rfl)
theorem dX0_fitsPlain_207 : decode cX0_fitsPlain 207 = .ok (.aload_n 0, 1) := dz_42 (k_X0_fitsPlain 3 15 rfl)
theorem dX0_fitsPlain_208 : decode cX0_fitsPlain 208 = .ok (.getfield 9, 3) := dz_180 (k_X0_fitsPlain 3 16 rfl) (k_X0_fitsPlain 3 17 rfl) (k_X0_fitsPlain 3 18 rfl) rfl
theorem dX0_fitsPlain_211 : decode cX0_fitsPlain 211 = .ok (.iload_n 3, 1) := dz_29 (k_X0_fitsPlain 3 19 rfl)
theorem dX0_fitsPlain_212 : decode cX0_fitsPlain 212 = .ok (.iconst 4, 1) := dz_7 (k_X0_fitsPlain 3 20 rfl)
theorem dX0_fitsPlain_213 : decode cX0_fitsPlain 213 = .ok (.iload_n 2, 1) := dz_28 (k_X0_fitsPlain 3 21 rfl)
theorem dX0_fitsPlain_214 : decode cX0_fitsPlain 214 = .ok (.iload 4, 2) := dz_21 (k_X0_fitsPlain 3 22 rfl) (k_X0_fitsPlain 3 23 rfl)
theorem dX0_fitsPlain_216 : decode cX0_fitsPlain 216 = .ok (.invokevirtual 100, 3) := dz_182 (k_X0_fitsPlain 3 24 rfl) (k_X0_fitsPlain 3 25 rfl) (k_X0_fitsPlain 3 26 rfl) rfl
theorem dX0_fitsPlain_219 : decode cX0_fitsPlain 219 = .ok (.ireturn, 1) := dz_172 (k_X0_fitsPlain 3 27 rfl)
theorem dX0_fitsPlain_220 : decode cX0_fitsPlain 220 = .ok (.aload_n 0, 1) := dz_42 (k_X0_fitsPlain 3 28 rfl)
theorem dX0_fitsPlain_221 : decode cX0_fitsPlain 221 = .ok (.getfield 9, 3) := dz_180 (k_X0_fitsPlain 3 29 rfl) (k_X0_fitsPlain 3 30 rfl) (k_X0_fitsPlain 3 31 rfl) rfl
theorem dX0_fitsPlain_224 : decode cX0_fitsPlain 224 = .ok (.iload_n 2, 1) := dz_28 (k_X0_fitsPlain 3 32 rfl)
theorem dX0_fitsPlain_225 : decode cX0_fitsPlain 225 = .ok (.invokevirtual 103, 3) := dz_182 (k_X0_fitsPlain 3 33 rfl) (k_X0_fitsPlain 3 34 rfl) (k_X0_fitsPlain 3 35 rfl) rfl
theorem dX0_fitsPlain_228 : decode cX0_fitsPlain 228 = .ok (.iconst 1, 1) := dz_4 (k_X0_fitsPlain 3 36 rfl)
theorem dX0_fitsPlain_229 : decode cX0_fitsPlain 229 = .ok (.if_icmp .ne 29, 3) := dz_160 (k_X0_fitsPlain 3 37 rfl) (k_X0_fitsPlain 3 38 rfl) (k_X0_fitsPlain 3 39 rfl) rfl
theorem dX0_fitsPlain_232 : decode cX0_fitsPlain 232 = .ok (.aload_n 0, 1) := dz_42 (k_X0_fitsPlain 3 40 rfl)
theorem dX0_fitsPlain_233 : decode cX0_fitsPlain 233 = .ok (.getfield 9, 3) := dz_180 (k_X0_fitsPlain 3 41 rfl) (k_X0_fitsPlain 3 42 rfl) (k_X0_fitsPlain 3 43 rfl) rfl
theorem dX0_fitsPlain_236 : decode cX0_fitsPlain 236 = .ok (.aload_n 0, 1) := dz_42 (k_X0_fitsPlain 3 44 rfl)
theorem dX0_fitsPlain_237 : decode cX0_fitsPlain 237 = .ok (.getfield 9, 3) := dz_180 (k_X0_fitsPlain 3 45 rfl) (k_X0_fitsPlain 3 46 rfl) (k_X0_fitsPlain 3 47 rfl) rfl
theorem dX0_fitsPlain_240 : decode cX0_fitsPlain 240 = .ok (.iload_n 2, 1) := dz_28 (k_X0_fitsPlain 3 48 rfl)
theorem dX0_fitsPlain_241 : decode cX0_fitsPlain 241 = .ok (.invokevirtual 115, 3) := dz_182 (k_X0_fitsPlain 3 49 rfl) (k_X0_fitsPlain 3 50 rfl) (k_X0_fitsPlain 3 51 rfl) rfl
theorem dX0_fitsPlain_244 : decode cX0_fitsPlain 244 = .ok (.iconst 1, 1) := dz_4 (k_X0_fitsPlain 3 52 rfl)
theorem dX0_fitsPlain_245 : decode cX0_fitsPlain 245 = .ok (.iload 4, 2) := dz_21 (k_X0_fitsPlain 3 53 rfl) (k_X0_fitsPlain 3 54 rfl)
theorem dX0_fitsPlain_247 : decode cX0_fitsPlain 247 = .ok (.iconst (-1), 1) := dz_2 (k_X0_fitsPlain 3 55 rfl)
theorem dX0_fitsPlain_248 : decode cX0_fitsPlain 248 = .ok (.invokevirtual 100, 3) := dz_182 (k_X0_fitsPlain 3 56 rfl) (k_X0_fitsPlain 3 57 rfl) (k_X0_fitsPlain 3 58 rfl) rfl
theorem dX0_fitsPlain_251 : decode cX0_fitsPlain 251 = .ok (.ifCond .eq 7, 3) := dz_153 (k_X0_fitsPlain 3 59 rfl) (k_X0_fitsPlain 3 60 rfl) (k_X0_fitsPlain 3 61 rfl) rfl
theorem dX0_fitsPlain_254 : decode cX0_fitsPlain 254 = .ok (.iconst 1, 1) := dz_4 (k_X0_fitsPlain 3 62 rfl)
theorem dX0_fitsPlain_255 : decode cX0_fitsPlain 255 = .ok (.goto 4, 3) := dz_167 (k_X0_fitsPlain 3 63 rfl) (k_X0_fitsPlain 4 0 rfl) (k_X0_fitsPlain 4 1 rfl) rfl
theorem dX0_fitsPlain_258 : decode cX0_fitsPlain 258 = .ok (.iconst 0, 1) := dz_3 (k_X0_fitsPlain 4 2 rfl)
theorem dX0_fitsPlain_259 : decode cX0_fitsPlain 259 = .ok (.ireturn, 1) := dz_172 (k_X0_fitsPlain 4 3 rfl)
theorem dX0_fitsPlain_260 : decode cX0_fitsPlain 260 = .ok (.aload_n 0, 1) := dz_42 (k_X0_fitsPlain 4 4 rfl)
theorem dX0_fitsPlain_261 : decode cX0_fitsPlain 261 = .ok (.getfield 9, 3) := dz_180 (k_X0_fitsPlain 4 5 rfl) (k_X0_fitsPlain 4 6 rfl) (k_X0_fitsPlain 4 7 rfl) rfl
theorem dX0_fitsPlain_264 : decode cX0_fitsPlain 264 = .ok (.iload_n 3, 1) := dz_29 (k_X0_fitsPlain 4 8 rfl)
theorem dX0_fitsPlain_265 : decode cX0_fitsPlain 265 = .ok (.iconst 1, 1) := dz_4 (k_X0_fitsPlain 4 9 rfl)
theorem dX0_fitsPlain_266 : decode cX0_fitsPlain 266 = .ok (.iload_n 2, 1) := dz_28 (k_X0_fitsPlain 4 10 rfl)
theorem dX0_fitsPlain_267 : decode cX0_fitsPlain 267 = .ok (.iconst (-1), 1) := dz_2 (k_X0_fitsPlain 4 11 rfl)
theorem dX0_fitsPlain_268 : decode cX0_fitsPlain 268 = .ok (.invokevirtual 100, 3) := dz_182 (k_X0_fitsPlain 4 12 rfl) (k_X0_fitsPlain 4 13 rfl) (k_X0_fitsPlain 4 14 rfl) rfl
theorem dX0_fitsPlain_271 : decode cX0_fitsPlain 271 = .ok (.ireturn, 1) := dz_172 (k_X0_fitsPlain 4 15 rfl)
theorem dX0_fitsPlain_272 : decode cX0_fitsPlain 272 = .ok (.iconst 0, 1) := dz_3 (k_X0_fitsPlain 4 16 rfl)
theorem dX0_fitsPlain_273 : decode cX0_fitsPlain 273 = .ok (.ireturn, 1) := dz_172 (k_X0_fitsPlain 4 17 rfl)
def B_X0_init : List (List Nat) := [[42, 183, 0, 3, 42, 43, 181, 0, 9, 42, 44, 181, 0, 15, 177]]
theorem k_X0_init (j i : Nat) {b : Nat} (h : (B_X0_init[j]?.bind fun c => c[i]?) = some b) : s_by cX0_init (64 * j + i) b := s_byC (L := B_X0_init) (by decide +kernel) (by decide +kernel) j i h
theorem dX0_init_0 : decode cX0_init 0 = .ok (.aload_n 0, 1) := dz_42 (k_X0_init 0 0 rfl)
theorem dX0_init_1 : decode cX0_init 1 = .ok (.invokespecial 3, 3) := dz_183 (k_X0_init 0 1 rfl) (k_X0_init 0 2 rfl) (k_X0_init 0 3 rfl) rfl
theorem dX0_init_4 : decode cX0_init 4 = .ok (.aload_n 0, 1) := dz_42 (k_X0_init 0 4 rfl)
theorem dX0_init_5 : decode cX0_init 5 = .ok (.aload_n 1, 1) := dz_43 (k_X0_init 0 5 rfl)
theorem dX0_init_6 : decode cX0_init 6 = .ok (.putfield 9, 3) := dz_181 (k_X0_init 0 6 rfl) (k_X0_init 0 7 rfl) (k_X0_init 0 8 rfl) rfl
theorem dX0_init_9 : decode cX0_init 9 = .ok (.aload_n 0, 1) := dz_42 (k_X0_init 0 9 rfl)
theorem dX0_init_10 : decode cX0_init 10 = .ok (.aload_n 2, 1) := dz_44 (k_X0_init 0 10 rfl)
theorem dX0_init_11 : decode cX0_init 11 = .ok (.putfield 15, 3) := dz_181 (k_X0_init 0 11 rfl) (k_X0_init 0 12 rfl) (k_X0_init 0 13 rfl) rfl
theorem dX0_init_14 : decode cX0_init 14 = .ok (.return_, 1) := dz_177 (k_X0_init 0 14 rfl)
def B_X0_isHonest : List (List Nat) := [[42, 180, 0, 15, 27, 5, 182, 0, 57, 61, 42, 180, 0, 15, 42, 180, 0, 15, 27, 3, 182, 0, 57, 28, 182, 0, 75, 153, 0, 29, 42, 27, 182, 0, 78, 42, 28, 182, 0, 81, 160, 0, 16, 42, 27, 28, 182, 0, 84, 153, 0, 7, 4, 167, 0, 4, 3, 172]]
theorem k_X0_isHonest (j i : Nat) {b : Nat} (h : (B_X0_isHonest[j]?.bind fun c => c[i]?) = some b) : s_by cX0_isHonest (64 * j + i) b := s_byC (L := B_X0_isHonest) (by decide +kernel) (by decide +kernel) j i h
theorem dX0_isHonest_0 : decode cX0_isHonest 0 = .ok (.aload_n 0, 1) := dz_42 (k_X0_isHonest 0 0 rfl)
theorem dX0_isHonest_1 : decode cX0_isHonest 1 = .ok (.getfield 15, 3) := dz_180 (k_X0_isHonest 0 1 rfl) (k_X0_isHonest 0 2 rfl) (k_X0_isHonest 0 3 rfl) rfl
theorem dX0_isHonest_4 : decode cX0_isHonest 4 = .ok (.iload_n 1, 1) := dz_27 (k_X0_isHonest 0 4 rfl)
theorem dX0_isHonest_5 : decode cX0_isHonest 5 = .ok (.iconst 2, 1) := dz_5 (k_X0_isHonest 0 5 rfl)
theorem dX0_isHonest_6 : decode cX0_isHonest 6 = .ok (.invokevirtual 57, 3) := dz_182 (k_X0_isHonest 0 6 rfl) (k_X0_isHonest 0 7 rfl) (k_X0_isHonest 0 8 rfl) rfl
theorem dX0_isHonest_9 : decode cX0_isHonest 9 = .ok (.istore_n 2, 1) := dz_61 (k_X0_isHonest 0 9 rfl)
theorem dX0_isHonest_10 : decode cX0_isHonest 10 = .ok (.aload_n 0, 1) := dz_42 (k_X0_isHonest 0 10 rfl)
theorem dX0_isHonest_11 : decode cX0_isHonest 11 = .ok (.getfield 15, 3) := dz_180 (k_X0_isHonest 0 11 rfl) (k_X0_isHonest 0 12 rfl) (k_X0_isHonest 0 13 rfl) rfl
theorem dX0_isHonest_14 : decode cX0_isHonest 14 = .ok (.aload_n 0, 1) := dz_42 (k_X0_isHonest 0 14 rfl)
theorem dX0_isHonest_15 : decode cX0_isHonest 15 = .ok (.getfield 15, 3) := dz_180 (k_X0_isHonest 0 15 rfl) (k_X0_isHonest 0 16 rfl) (k_X0_isHonest 0 17 rfl) rfl
theorem dX0_isHonest_18 : decode cX0_isHonest 18 = .ok (.iload_n 1, 1) := dz_27 (k_X0_isHonest 0 18 rfl)
theorem dX0_isHonest_19 : decode cX0_isHonest 19 = .ok (.iconst 0, 1) := dz_3 (k_X0_isHonest 0 19 rfl)
theorem dX0_isHonest_20 : decode cX0_isHonest 20 = .ok (.invokevirtual 57, 3) := dz_182 (k_X0_isHonest 0 20 rfl) (k_X0_isHonest 0 21 rfl) (k_X0_isHonest 0 22 rfl) rfl
theorem dX0_isHonest_23 : decode cX0_isHonest 23 = .ok (.iload_n 2, 1) := dz_28 (k_X0_isHonest 0 23 rfl)
theorem dX0_isHonest_24 : decode cX0_isHonest 24 = .ok (.invokevirtual 75, 3) := dz_182 (k_X0_isHonest 0 24 rfl) (k_X0_isHonest 0 25 rfl) (k_X0_isHonest 0 26 rfl) rfl
theorem dX0_isHonest_27 : decode cX0_isHonest 27 = .ok (.ifCond .eq 29, 3) := dz_153 (k_X0_isHonest 0 27 rfl) (k_X0_isHonest 0 28 rfl) (k_X0_isHonest 0 29 rfl) rfl
theorem dX0_isHonest_30 : decode cX0_isHonest 30 = .ok (.aload_n 0, 1) := dz_42 (k_X0_isHonest 0 30 rfl)
theorem dX0_isHonest_31 : decode cX0_isHonest 31 = .ok (.iload_n 1, 1) := dz_27 (k_X0_isHonest 0 31 rfl)
theorem dX0_isHonest_32 : decode cX0_isHonest 32 = .ok (.invokevirtual 78, 3) := dz_182 (k_X0_isHonest 0 32 rfl) (k_X0_isHonest 0 33 rfl) (k_X0_isHonest 0 34 rfl) rfl
theorem dX0_isHonest_35 : decode cX0_isHonest 35 = .ok (.aload_n 0, 1) := dz_42 (k_X0_isHonest 0 35 rfl)
theorem dX0_isHonest_36 : decode cX0_isHonest 36 = .ok (.iload_n 2, 1) := dz_28 (k_X0_isHonest 0 36 rfl)
theorem dX0_isHonest_37 : decode cX0_isHonest 37 = .ok (.invokevirtual 81, 3) := dz_182 (k_X0_isHonest 0 37 rfl) (k_X0_isHonest 0 38 rfl) (k_X0_isHonest 0 39 rfl) rfl
theorem dX0_isHonest_40 : decode cX0_isHonest 40 = .ok (.if_icmp .ne 16, 3) := dz_160 (k_X0_isHonest 0 40 rfl) (k_X0_isHonest 0 41 rfl) (k_X0_isHonest 0 42 rfl) rfl
theorem dX0_isHonest_43 : decode cX0_isHonest 43 = .ok (.aload_n 0, 1) := dz_42 (k_X0_isHonest 0 43 rfl)
theorem dX0_isHonest_44 : decode cX0_isHonest 44 = .ok (.iload_n 1, 1) := dz_27 (k_X0_isHonest 0 44 rfl)
theorem dX0_isHonest_45 : decode cX0_isHonest 45 = .ok (.iload_n 2, 1) := dz_28 (k_X0_isHonest 0 45 rfl)
theorem dX0_isHonest_46 : decode cX0_isHonest 46 = .ok (.invokevirtual 84, 3) := dz_182 (k_X0_isHonest 0 46 rfl) (k_X0_isHonest 0 47 rfl) (k_X0_isHonest 0 48 rfl) rfl
theorem dX0_isHonest_49 : decode cX0_isHonest 49 = .ok (.ifCond .eq 7, 3) := dz_153 (k_X0_isHonest 0 49 rfl) (k_X0_isHonest 0 50 rfl) (k_X0_isHonest 0 51 rfl) rfl
theorem dX0_isHonest_52 : decode cX0_isHonest 52 = .ok (.iconst 1, 1) := dz_4 (k_X0_isHonest 0 52 rfl)
theorem dX0_isHonest_53 : decode cX0_isHonest 53 = .ok (.goto 4, 3) := dz_167 (k_X0_isHonest 0 53 rfl) (k_X0_isHonest 0 54 rfl) (k_X0_isHonest 0 55 rfl) rfl
theorem dX0_isHonest_56 : decode cX0_isHonest 56 = .ok (.iconst 0, 1) := dz_3 (k_X0_isHonest 0 56 rfl)
theorem dX0_isHonest_57 : decode cX0_isHonest 57 = .ok (.ireturn, 1) := dz_172 (k_X0_isHonest 0 57 rfl)
def B_X0_isPlaced : List (List Nat) := [[3, 62, 29, 42, 180, 0, 15, 180, 0, 87, 162, 0, 24, 42, 180, 0, 9, 27, 29, 182, 0, 121, 28, 160, 0, 5, 4, 172, 132, 3, 1, 167, 255, 227, 3, 172]]
theorem k_X0_isPlaced (j i : Nat) {b : Nat} (h : (B_X0_isPlaced[j]?.bind fun c => c[i]?) = some b) : s_by cX0_isPlaced (64 * j + i) b := s_byC (L := B_X0_isPlaced) (by decide +kernel) (by decide +kernel) j i h
theorem dX0_isPlaced_0 : decode cX0_isPlaced 0 = .ok (.iconst 0, 1) := dz_3 (k_X0_isPlaced 0 0 rfl)
theorem dX0_isPlaced_1 : decode cX0_isPlaced 1 = .ok (.istore_n 3, 1) := dz_62 (k_X0_isPlaced 0 1 rfl)
theorem dX0_isPlaced_2 : decode cX0_isPlaced 2 = .ok (.iload_n 3, 1) := dz_29 (k_X0_isPlaced 0 2 rfl)
theorem dX0_isPlaced_3 : decode cX0_isPlaced 3 = .ok (.aload_n 0, 1) := dz_42 (k_X0_isPlaced 0 3 rfl)
theorem dX0_isPlaced_4 : decode cX0_isPlaced 4 = .ok (.getfield 15, 3) := dz_180 (k_X0_isPlaced 0 4 rfl) (k_X0_isPlaced 0 5 rfl) (k_X0_isPlaced 0 6 rfl) rfl
theorem dX0_isPlaced_7 : decode cX0_isPlaced 7 = .ok (.getfield 87, 3) := dz_180 (k_X0_isPlaced 0 7 rfl) (k_X0_isPlaced 0 8 rfl) (k_X0_isPlaced 0 9 rfl) rfl
theorem dX0_isPlaced_10 : decode cX0_isPlaced 10 = .ok (.if_icmp .ge 24, 3) := dz_162 (k_X0_isPlaced 0 10 rfl) (k_X0_isPlaced 0 11 rfl) (k_X0_isPlaced 0 12 rfl) rfl
theorem dX0_isPlaced_13 : decode cX0_isPlaced 13 = .ok (.aload_n 0, 1) := dz_42 (k_X0_isPlaced 0 13 rfl)
theorem dX0_isPlaced_14 : decode cX0_isPlaced 14 = .ok (.getfield 9, 3) := dz_180 (k_X0_isPlaced 0 14 rfl) (k_X0_isPlaced 0 15 rfl) (k_X0_isPlaced 0 16 rfl) rfl
theorem dX0_isPlaced_17 : decode cX0_isPlaced 17 = .ok (.iload_n 1, 1) := dz_27 (k_X0_isPlaced 0 17 rfl)
theorem dX0_isPlaced_18 : decode cX0_isPlaced 18 = .ok (.iload_n 3, 1) := dz_29 (k_X0_isPlaced 0 18 rfl)
theorem dX0_isPlaced_19 : decode cX0_isPlaced 19 = .ok (.invokevirtual 121, 3) := dz_182 (k_X0_isPlaced 0 19 rfl) (k_X0_isPlaced 0 20 rfl) (k_X0_isPlaced 0 21 rfl) rfl
theorem dX0_isPlaced_22 : decode cX0_isPlaced 22 = .ok (.iload_n 2, 1) := dz_28 (k_X0_isPlaced 0 22 rfl)
theorem dX0_isPlaced_23 : decode cX0_isPlaced 23 = .ok (.if_icmp .ne 5, 3) := dz_160 (k_X0_isPlaced 0 23 rfl) (k_X0_isPlaced 0 24 rfl) (k_X0_isPlaced 0 25 rfl) rfl
theorem dX0_isPlaced_26 : decode cX0_isPlaced 26 = .ok (.iconst 1, 1) := dz_4 (k_X0_isPlaced 0 26 rfl)
theorem dX0_isPlaced_27 : decode cX0_isPlaced 27 = .ok (.ireturn, 1) := dz_172 (k_X0_isPlaced 0 27 rfl)
theorem dX0_isPlaced_28 : decode cX0_isPlaced 28 = .ok (.iinc 3 1, 3) := dz_132 (k_X0_isPlaced 0 28 rfl) (k_X0_isPlaced 0 29 rfl) (k_X0_isPlaced 0 30 rfl) rfl
theorem dX0_isPlaced_31 : decode cX0_isPlaced 31 = .ok (.goto (-29), 3) := dz_167 (k_X0_isPlaced 0 31 rfl) (k_X0_isPlaced 0 32 rfl) (k_X0_isPlaced 0 33 rfl) rfl
theorem dX0_isPlaced_34 : decode cX0_isPlaced 34 = .ok (.iconst 0, 1) := dz_3 (k_X0_isPlaced 0 34 rfl)
theorem dX0_isPlaced_35 : decode cX0_isPlaced 35 = .ok (.ireturn, 1) := dz_172 (k_X0_isPlaced 0 35 rfl)
def B_X0_isSaved : List (List Nat) := [[42, 180, 0, 23, 42, 180, 0, 26, 20, 0, 127, 131, 127, 42, 180, 0, 33, 20, 0, 127, 131, 127, 65, 3, 54, 4, 21, 4, 42, 180, 0, 15, 180, 0, 40, 162, 0, 42, 32, 21, 4, 125, 10, 127, 9, 148, 153, 0, 25, 42, 180, 0, 15, 21, 4, 182, 0, 65, 42, 180, 0, 15, 27, 182], [0, 65, 160, 0, 5, 4, 172, 132, 4, 1, 167, 255, 208, 3, 172]]
theorem k_X0_isSaved (j i : Nat) {b : Nat} (h : (B_X0_isSaved[j]?.bind fun c => c[i]?) = some b) : s_by cX0_isSaved (64 * j + i) b := s_byC (L := B_X0_isSaved) (by decide +kernel) (by decide +kernel) j i h
theorem dX0_isSaved_0 : decode cX0_isSaved 0 = .ok (.aload_n 0, 1) := dz_42 (k_X0_isSaved 0 0 rfl)
theorem dX0_isSaved_1 : decode cX0_isSaved 1 = .ok (.getfield 23, 3) := dz_180 (k_X0_isSaved 0 1 rfl) (k_X0_isSaved 0 2 rfl) (k_X0_isSaved 0 3 rfl) rfl
theorem dX0_isSaved_4 : decode cX0_isSaved 4 = .ok (.aload_n 0, 1) := dz_42 (k_X0_isSaved 0 4 rfl)
theorem dX0_isSaved_5 : decode cX0_isSaved 5 = .ok (.getfield 26, 3) := dz_180 (k_X0_isSaved 0 5 rfl) (k_X0_isSaved 0 6 rfl) (k_X0_isSaved 0 7 rfl) rfl
theorem dX0_isSaved_8 : decode cX0_isSaved 8 = .ok (.ldc2_w 127, 3) := dz_20 (k_X0_isSaved 0 8 rfl) (k_X0_isSaved 0 9 rfl) (k_X0_isSaved 0 10 rfl) rfl
theorem dX0_isSaved_11 : decode cX0_isSaved 11 = .ok (.lxor, 1) := dz_131 (k_X0_isSaved 0 11 rfl)
theorem dX0_isSaved_12 : decode cX0_isSaved 12 = .ok (.land, 1) := dz_127 (k_X0_isSaved 0 12 rfl)
theorem dX0_isSaved_13 : decode cX0_isSaved 13 = .ok (.aload_n 0, 1) := dz_42 (k_X0_isSaved 0 13 rfl)
theorem dX0_isSaved_14 : decode cX0_isSaved 14 = .ok (.getfield 33, 3) := dz_180 (k_X0_isSaved 0 14 rfl) (k_X0_isSaved 0 15 rfl) (k_X0_isSaved 0 16 rfl) rfl
theorem dX0_isSaved_17 : decode cX0_isSaved 17 = .ok (.ldc2_w 127, 3) := dz_20 (k_X0_isSaved 0 17 rfl) (k_X0_isSaved 0 18 rfl) (k_X0_isSaved 0 19 rfl) rfl
theorem dX0_isSaved_20 : decode cX0_isSaved 20 = .ok (.lxor, 1) := dz_131 (k_X0_isSaved 0 20 rfl)
theorem dX0_isSaved_21 : decode cX0_isSaved 21 = .ok (.land, 1) := dz_127 (k_X0_isSaved 0 21 rfl)
theorem dX0_isSaved_22 : decode cX0_isSaved 22 = .ok (.lstore_n 2, 1) := dz_65 (k_X0_isSaved 0 22 rfl)
theorem dX0_isSaved_23 : decode cX0_isSaved 23 = .ok (.iconst 0, 1) := dz_3 (k_X0_isSaved 0 23 rfl)
theorem dX0_isSaved_24 : decode cX0_isSaved 24 = .ok (.istore 4, 2) := dz_54 (k_X0_isSaved 0 24 rfl) (k_X0_isSaved 0 25 rfl)
theorem dX0_isSaved_26 : decode cX0_isSaved 26 = .ok (.iload 4, 2) := dz_21 (k_X0_isSaved 0 26 rfl) (k_X0_isSaved 0 27 rfl)
theorem dX0_isSaved_28 : decode cX0_isSaved 28 = .ok (.aload_n 0, 1) := dz_42 (k_X0_isSaved 0 28 rfl)
theorem dX0_isSaved_29 : decode cX0_isSaved 29 = .ok (.getfield 15, 3) := dz_180 (k_X0_isSaved 0 29 rfl) (k_X0_isSaved 0 30 rfl) (k_X0_isSaved 0 31 rfl) rfl
theorem dX0_isSaved_32 : decode cX0_isSaved 32 = .ok (.getfield 40, 3) := dz_180 (k_X0_isSaved 0 32 rfl) (k_X0_isSaved 0 33 rfl) (k_X0_isSaved 0 34 rfl) rfl
theorem dX0_isSaved_35 : decode cX0_isSaved 35 = .ok (.if_icmp .ge 42, 3) := dz_162 (k_X0_isSaved 0 35 rfl) (k_X0_isSaved 0 36 rfl) (k_X0_isSaved 0 37 rfl) rfl
theorem dX0_isSaved_38 : decode cX0_isSaved 38 = .ok (.lload_n 2, 1) := dz_32 (k_X0_isSaved 0 38 rfl)
theorem dX0_isSaved_39 : decode cX0_isSaved 39 = .ok (.iload 4, 2) := dz_21 (k_X0_isSaved 0 39 rfl) (k_X0_isSaved 0 40 rfl)
theorem dX0_isSaved_41 : decode cX0_isSaved 41 = .ok (.lushr, 1) := dz_125 (k_X0_isSaved 0 41 rfl)
theorem dX0_isSaved_42 : decode cX0_isSaved 42 = .ok (.lconst 1, 1) := dz_10 (k_X0_isSaved 0 42 rfl)
theorem dX0_isSaved_43 : decode cX0_isSaved 43 = .ok (.land, 1) := dz_127 (k_X0_isSaved 0 43 rfl)
theorem dX0_isSaved_44 : decode cX0_isSaved 44 = .ok (.lconst 0, 1) := dz_9 (k_X0_isSaved 0 44 rfl)
theorem dX0_isSaved_45 : decode cX0_isSaved 45 = .ok (.lcmp, 1) := dz_148 (k_X0_isSaved 0 45 rfl)
theorem dX0_isSaved_46 : decode cX0_isSaved 46 = .ok (.ifCond .eq 25, 3) := dz_153 (k_X0_isSaved 0 46 rfl) (k_X0_isSaved 0 47 rfl) (k_X0_isSaved 0 48 rfl) rfl
theorem dX0_isSaved_49 : decode cX0_isSaved 49 = .ok (.aload_n 0, 1) := dz_42 (k_X0_isSaved 0 49 rfl)
theorem dX0_isSaved_50 : decode cX0_isSaved 50 = .ok (.getfield 15, 3) := dz_180 (k_X0_isSaved 0 50 rfl) (k_X0_isSaved 0 51 rfl) (k_X0_isSaved 0 52 rfl) rfl
theorem dX0_isSaved_53 : decode cX0_isSaved 53 = .ok (.iload 4, 2) := dz_21 (k_X0_isSaved 0 53 rfl) (k_X0_isSaved 0 54 rfl)
theorem dX0_isSaved_55 : decode cX0_isSaved 55 = .ok (.invokevirtual 65, 3) := dz_182 (k_X0_isSaved 0 55 rfl) (k_X0_isSaved 0 56 rfl) (k_X0_isSaved 0 57 rfl) rfl
theorem dX0_isSaved_58 : decode cX0_isSaved 58 = .ok (.aload_n 0, 1) := dz_42 (k_X0_isSaved 0 58 rfl)
theorem dX0_isSaved_59 : decode cX0_isSaved 59 = .ok (.getfield 15, 3) := dz_180 (k_X0_isSaved 0 59 rfl) (k_X0_isSaved 0 60 rfl) (k_X0_isSaved 0 61 rfl) rfl
theorem dX0_isSaved_62 : decode cX0_isSaved 62 = .ok (.iload_n 1, 1) := dz_27 (k_X0_isSaved 0 62 rfl)
theorem dX0_isSaved_63 : decode cX0_isSaved 63 = .ok (.invokevirtual 65, 3) := dz_182 (k_X0_isSaved 0 63 rfl) (k_X0_isSaved 1 0 rfl) (k_X0_isSaved 1 1 rfl) rfl
theorem dX0_isSaved_66 : decode cX0_isSaved 66 = .ok (.if_icmp .ne 5, 3) := dz_160 (k_X0_isSaved 1 2 rfl) (k_X0_isSaved 1 3 rfl) (k_X0_isSaved 1 4 rfl) rfl
theorem dX0_isSaved_69 : decode cX0_isSaved 69 = .ok (.iconst 1, 1) := dz_4 (k_X0_isSaved 1 5 rfl)
theorem dX0_isSaved_70 : decode cX0_isSaved 70 = .ok (.ireturn, 1) := dz_172 (k_X0_isSaved 1 6 rfl)
theorem dX0_isSaved_71 : decode cX0_isSaved 71 = .ok (.iinc 4 1, 3) := dz_132 (k_X0_isSaved 1 7 rfl) (k_X0_isSaved 1 8 rfl) (k_X0_isSaved 1 9 rfl) rfl
theorem dX0_isSaved_74 : decode cX0_isSaved 74 = .ok (.goto (-48), 3) := dz_167 (k_X0_isSaved 1 10 rfl) (k_X0_isSaved 1 11 rfl) (k_X0_isSaved 1 12 rfl) rfl
theorem dX0_isSaved_77 : decode cX0_isSaved 77 = .ok (.iconst 0, 1) := dz_3 (k_X0_isSaved 1 13 rfl)
theorem dX0_isSaved_78 : decode cX0_isSaved 78 = .ok (.ireturn, 1) := dz_172 (k_X0_isSaved 1 14 rfl)
def B_X0_linesOf : List (List Nat) := [[9, 65, 3, 54, 4, 21, 4, 42, 180, 0, 15, 180, 0, 40, 162, 0, 30, 42, 180, 0, 15, 21, 4, 5, 182, 0, 57, 27, 160, 0, 10, 32, 10, 21, 4, 121, 129, 65, 132, 4, 1, 167, 255, 220, 32, 173]]
theorem k_X0_linesOf (j i : Nat) {b : Nat} (h : (B_X0_linesOf[j]?.bind fun c => c[i]?) = some b) : s_by cX0_linesOf (64 * j + i) b := s_byC (L := B_X0_linesOf) (by decide +kernel) (by decide +kernel) j i h
theorem dX0_linesOf_0 : decode cX0_linesOf 0 = .ok (.lconst 0, 1) := dz_9 (k_X0_linesOf 0 0 rfl)
theorem dX0_linesOf_1 : decode cX0_linesOf 1 = .ok (.lstore_n 2, 1) := dz_65 (k_X0_linesOf 0 1 rfl)
theorem dX0_linesOf_2 : decode cX0_linesOf 2 = .ok (.iconst 0, 1) := dz_3 (k_X0_linesOf 0 2 rfl)
theorem dX0_linesOf_3 : decode cX0_linesOf 3 = .ok (.istore 4, 2) := dz_54 (k_X0_linesOf 0 3 rfl) (k_X0_linesOf 0 4 rfl)
theorem dX0_linesOf_5 : decode cX0_linesOf 5 = .ok (.iload 4, 2) := dz_21 (k_X0_linesOf 0 5 rfl) (k_X0_linesOf 0 6 rfl)
theorem dX0_linesOf_7 : decode cX0_linesOf 7 = .ok (.aload_n 0, 1) := dz_42 (k_X0_linesOf 0 7 rfl)
theorem dX0_linesOf_8 : decode cX0_linesOf 8 = .ok (.getfield 15, 3) := dz_180 (k_X0_linesOf 0 8 rfl) (k_X0_linesOf 0 9 rfl) (k_X0_linesOf 0 10 rfl) rfl
theorem dX0_linesOf_11 : decode cX0_linesOf 11 = .ok (.getfield 40, 3) := dz_180 (k_X0_linesOf 0 11 rfl) (k_X0_linesOf 0 12 rfl) (k_X0_linesOf 0 13 rfl) rfl
theorem dX0_linesOf_14 : decode cX0_linesOf 14 = .ok (.if_icmp .ge 30, 3) := dz_162 (k_X0_linesOf 0 14 rfl) (k_X0_linesOf 0 15 rfl) (k_X0_linesOf 0 16 rfl) rfl
theorem dX0_linesOf_17 : decode cX0_linesOf 17 = .ok (.aload_n 0, 1) := dz_42 (k_X0_linesOf 0 17 rfl)
theorem dX0_linesOf_18 : decode cX0_linesOf 18 = .ok (.getfield 15, 3) := dz_180 (k_X0_linesOf 0 18 rfl) (k_X0_linesOf 0 19 rfl) (k_X0_linesOf 0 20 rfl) rfl
theorem dX0_linesOf_21 : decode cX0_linesOf 21 = .ok (.iload 4, 2) := dz_21 (k_X0_linesOf 0 21 rfl) (k_X0_linesOf 0 22 rfl)
theorem dX0_linesOf_23 : decode cX0_linesOf 23 = .ok (.iconst 2, 1) := dz_5 (k_X0_linesOf 0 23 rfl)
theorem dX0_linesOf_24 : decode cX0_linesOf 24 = .ok (.invokevirtual 57, 3) := dz_182 (k_X0_linesOf 0 24 rfl) (k_X0_linesOf 0 25 rfl) (k_X0_linesOf 0 26 rfl) rfl
theorem dX0_linesOf_27 : decode cX0_linesOf 27 = .ok (.iload_n 1, 1) := dz_27 (k_X0_linesOf 0 27 rfl)
theorem dX0_linesOf_28 : decode cX0_linesOf 28 = .ok (.if_icmp .ne 10, 3) := dz_160 (k_X0_linesOf 0 28 rfl) (k_X0_linesOf 0 29 rfl) (k_X0_linesOf 0 30 rfl) rfl
theorem dX0_linesOf_31 : decode cX0_linesOf 31 = .ok (.lload_n 2, 1) := dz_32 (k_X0_linesOf 0 31 rfl)
theorem dX0_linesOf_32 : decode cX0_linesOf 32 = .ok (.lconst 1, 1) := dz_10 (k_X0_linesOf 0 32 rfl)
theorem dX0_linesOf_33 : decode cX0_linesOf 33 = .ok (.iload 4, 2) := dz_21 (k_X0_linesOf 0 33 rfl) (k_X0_linesOf 0 34 rfl)
theorem dX0_linesOf_35 : decode cX0_linesOf 35 = .ok (.lshl, 1) := dz_121 (k_X0_linesOf 0 35 rfl)
theorem dX0_linesOf_36 : decode cX0_linesOf 36 = .ok (.lor, 1) := dz_129 (k_X0_linesOf 0 36 rfl)
theorem dX0_linesOf_37 : decode cX0_linesOf 37 = .ok (.lstore_n 2, 1) := dz_65 (k_X0_linesOf 0 37 rfl)
theorem dX0_linesOf_38 : decode cX0_linesOf 38 = .ok (.iinc 4 1, 3) := dz_132 (k_X0_linesOf 0 38 rfl) (k_X0_linesOf 0 39 rfl) (k_X0_linesOf 0 40 rfl) rfl
theorem dX0_linesOf_41 : decode cX0_linesOf 41 = .ok (.goto (-36), 3) := dz_167 (k_X0_linesOf 0 41 rfl) (k_X0_linesOf 0 42 rfl) (k_X0_linesOf 0 43 rfl) rfl
theorem dX0_linesOf_44 : decode cX0_linesOf 44 = .ok (.lload_n 2, 1) := dz_32 (k_X0_linesOf 0 44 rfl)
theorem dX0_linesOf_45 : decode cX0_linesOf 45 = .ok (.lreturn, 1) := dz_173 (k_X0_linesOf 0 45 rfl)
def B_X0_premisesOf : List (List Nat) := [[3, 61, 3, 62, 29, 6, 162, 0, 25, 42, 180, 0, 15, 27, 29, 182, 0, 72, 2, 159, 0, 6, 132, 2, 1, 132, 3, 1, 167, 255, 232, 28, 172]]
theorem k_X0_premisesOf (j i : Nat) {b : Nat} (h : (B_X0_premisesOf[j]?.bind fun c => c[i]?) = some b) : s_by cX0_premisesOf (64 * j + i) b := s_byC (L := B_X0_premisesOf) (by decide +kernel) (by decide +kernel) j i h
theorem dX0_premisesOf_0 : decode cX0_premisesOf 0 = .ok (.iconst 0, 1) := dz_3 (k_X0_premisesOf 0 0 rfl)
theorem dX0_premisesOf_1 : decode cX0_premisesOf 1 = .ok (.istore_n 2, 1) := dz_61 (k_X0_premisesOf 0 1 rfl)
theorem dX0_premisesOf_2 : decode cX0_premisesOf 2 = .ok (.iconst 0, 1) := dz_3 (k_X0_premisesOf 0 2 rfl)
theorem dX0_premisesOf_3 : decode cX0_premisesOf 3 = .ok (.istore_n 3, 1) := dz_62 (k_X0_premisesOf 0 3 rfl)
theorem dX0_premisesOf_4 : decode cX0_premisesOf 4 = .ok (.iload_n 3, 1) := dz_29 (k_X0_premisesOf 0 4 rfl)
theorem dX0_premisesOf_5 : decode cX0_premisesOf 5 = .ok (.iconst 3, 1) := dz_6 (k_X0_premisesOf 0 5 rfl)
theorem dX0_premisesOf_6 : decode cX0_premisesOf 6 = .ok (.if_icmp .ge 25, 3) := dz_162 (k_X0_premisesOf 0 6 rfl) (k_X0_premisesOf 0 7 rfl) (k_X0_premisesOf 0 8 rfl) rfl
theorem dX0_premisesOf_9 : decode cX0_premisesOf 9 = .ok (.aload_n 0, 1) := dz_42 (k_X0_premisesOf 0 9 rfl)
theorem dX0_premisesOf_10 : decode cX0_premisesOf 10 = .ok (.getfield 15, 3) := dz_180 (k_X0_premisesOf 0 10 rfl) (k_X0_premisesOf 0 11 rfl) (k_X0_premisesOf 0 12 rfl) rfl
theorem dX0_premisesOf_13 : decode cX0_premisesOf 13 = .ok (.iload_n 1, 1) := dz_27 (k_X0_premisesOf 0 13 rfl)
theorem dX0_premisesOf_14 : decode cX0_premisesOf 14 = .ok (.iload_n 3, 1) := dz_29 (k_X0_premisesOf 0 14 rfl)
theorem dX0_premisesOf_15 : decode cX0_premisesOf 15 = .ok (.invokevirtual 72, 3) := dz_182 (k_X0_premisesOf 0 15 rfl) (k_X0_premisesOf 0 16 rfl) (k_X0_premisesOf 0 17 rfl) rfl
theorem dX0_premisesOf_18 : decode cX0_premisesOf 18 = .ok (.iconst (-1), 1) := dz_2 (k_X0_premisesOf 0 18 rfl)
theorem dX0_premisesOf_19 : decode cX0_premisesOf 19 = .ok (.if_icmp .eq 6, 3) := dz_159 (k_X0_premisesOf 0 19 rfl) (k_X0_premisesOf 0 20 rfl) (k_X0_premisesOf 0 21 rfl) rfl
theorem dX0_premisesOf_22 : decode cX0_premisesOf 22 = .ok (.iinc 2 1, 3) := dz_132 (k_X0_premisesOf 0 22 rfl) (k_X0_premisesOf 0 23 rfl) (k_X0_premisesOf 0 24 rfl) rfl
theorem dX0_premisesOf_25 : decode cX0_premisesOf 25 = .ok (.iinc 3 1, 3) := dz_132 (k_X0_premisesOf 0 25 rfl) (k_X0_premisesOf 0 26 rfl) (k_X0_premisesOf 0 27 rfl) rfl
theorem dX0_premisesOf_28 : decode cX0_premisesOf 28 = .ok (.goto (-24), 3) := dz_167 (k_X0_premisesOf 0 28 rfl) (k_X0_premisesOf 0 29 rfl) (k_X0_premisesOf 0 30 rfl) rfl
theorem dX0_premisesOf_31 : decode cX0_premisesOf 31 = .ok (.iload_n 2, 1) := dz_28 (k_X0_premisesOf 0 31 rfl)
theorem dX0_premisesOf_32 : decode cX0_premisesOf 32 = .ok (.ireturn, 1) := dz_172 (k_X0_premisesOf 0 32 rfl)
def B_X0_staleIf : List (List Nat) := [[9, 66, 3, 54, 5, 21, 5, 42, 180, 0, 15, 180, 0, 40, 162, 0, 95, 42, 180, 0, 15, 21, 5, 6, 182, 0, 57, 54, 6, 21, 6, 27, 160, 0, 7, 28, 167, 0, 12, 42, 180, 0, 15, 21, 6, 182, 0, 61, 54, 7, 42, 180, 0, 15, 21, 5, 5, 182, 0, 57, 154, 0, 7, 4], [167, 0, 4, 3, 54, 8, 21, 8, 153, 0, 31, 42, 180, 0, 15, 21, 7, 42, 180, 0, 15, 21, 5, 182, 0, 65, 182, 0, 68, 154, 0, 10, 33, 10, 21, 5, 121, 129, 66, 132, 5, 1, 167, 255, 155, 9, 55, 5, 3, 54, 7, 21, 7, 42, 180, 0, 15, 180, 0, 40, 162, 0, 35, 42], [180, 0, 15, 180, 0, 53, 21, 7, 47, 33, 127, 9, 148, 153, 0, 12, 22, 5, 10, 21, 7, 121, 129, 55, 5, 132, 7, 1, 167, 255, 215, 22, 5, 173]]
theorem k_X0_staleIf (j i : Nat) {b : Nat} (h : (B_X0_staleIf[j]?.bind fun c => c[i]?) = some b) : s_by cX0_staleIf (64 * j + i) b := s_byC (L := B_X0_staleIf) (by decide +kernel) (by decide +kernel) j i h
theorem dX0_staleIf_0 : decode cX0_staleIf 0 = .ok (.lconst 0, 1) := dz_9 (k_X0_staleIf 0 0 rfl)
theorem dX0_staleIf_1 : decode cX0_staleIf 1 = .ok (.lstore_n 3, 1) := dz_66 (k_X0_staleIf 0 1 rfl)
theorem dX0_staleIf_2 : decode cX0_staleIf 2 = .ok (.iconst 0, 1) := dz_3 (k_X0_staleIf 0 2 rfl)
theorem dX0_staleIf_3 : decode cX0_staleIf 3 = .ok (.istore 5, 2) := dz_54 (k_X0_staleIf 0 3 rfl) (k_X0_staleIf 0 4 rfl)
theorem dX0_staleIf_5 : decode cX0_staleIf 5 = .ok (.iload 5, 2) := dz_21 (k_X0_staleIf 0 5 rfl) (k_X0_staleIf 0 6 rfl)
theorem dX0_staleIf_7 : decode cX0_staleIf 7 = .ok (.aload_n 0, 1) := dz_42 (k_X0_staleIf 0 7 rfl)
theorem dX0_staleIf_8 : decode cX0_staleIf 8 = .ok (.getfield 15, 3) := dz_180 (k_X0_staleIf 0 8 rfl) (k_X0_staleIf 0 9 rfl) (k_X0_staleIf 0 10 rfl) rfl
theorem dX0_staleIf_11 : decode cX0_staleIf 11 = .ok (.getfield 40, 3) := dz_180 (k_X0_staleIf 0 11 rfl) (k_X0_staleIf 0 12 rfl) (k_X0_staleIf 0 13 rfl) rfl
theorem dX0_staleIf_14 : decode cX0_staleIf 14 = .ok (.if_icmp .ge 95, 3) := dz_162 (k_X0_staleIf 0 14 rfl) (k_X0_staleIf 0 15 rfl) (k_X0_staleIf 0 16 rfl) rfl
theorem dX0_staleIf_17 : decode cX0_staleIf 17 = .ok (.aload_n 0, 1) := dz_42 (k_X0_staleIf 0 17 rfl)
theorem dX0_staleIf_18 : decode cX0_staleIf 18 = .ok (.getfield 15, 3) := dz_180 (k_X0_staleIf 0 18 rfl) (k_X0_staleIf 0 19 rfl) (k_X0_staleIf 0 20 rfl) rfl
theorem dX0_staleIf_21 : decode cX0_staleIf 21 = .ok (.iload 5, 2) := dz_21 (k_X0_staleIf 0 21 rfl) (k_X0_staleIf 0 22 rfl)
theorem dX0_staleIf_23 : decode cX0_staleIf 23 = .ok (.iconst 3, 1) := dz_6 (k_X0_staleIf 0 23 rfl)
theorem dX0_staleIf_24 : decode cX0_staleIf 24 = .ok (.invokevirtual 57, 3) := dz_182 (k_X0_staleIf 0 24 rfl) (k_X0_staleIf 0 25 rfl) (k_X0_staleIf 0 26 rfl) rfl
theorem dX0_staleIf_27 : decode cX0_staleIf 27 = .ok (.istore 6, 2) := dz_54 (k_X0_staleIf 0 27 rfl) (k_X0_staleIf 0 28 rfl)
theorem dX0_staleIf_29 : decode cX0_staleIf 29 = .ok (.iload 6, 2) := dz_21 (k_X0_staleIf 0 29 rfl) (k_X0_staleIf 0 30 rfl)
theorem dX0_staleIf_31 : decode cX0_staleIf 31 = .ok (.iload_n 1, 1) := dz_27 (k_X0_staleIf 0 31 rfl)
theorem dX0_staleIf_32 : decode cX0_staleIf 32 = .ok (.if_icmp .ne 7, 3) := dz_160 (k_X0_staleIf 0 32 rfl) (k_X0_staleIf 0 33 rfl) (k_X0_staleIf 0 34 rfl) rfl
theorem dX0_staleIf_35 : decode cX0_staleIf 35 = .ok (.iload_n 2, 1) := dz_28 (k_X0_staleIf 0 35 rfl)
theorem dX0_staleIf_36 : decode cX0_staleIf 36 = .ok (.goto 12, 3) := dz_167 (k_X0_staleIf 0 36 rfl) (k_X0_staleIf 0 37 rfl) (k_X0_staleIf 0 38 rfl) rfl
theorem dX0_staleIf_39 : decode cX0_staleIf 39 = .ok (.aload_n 0, 1) := dz_42 (k_X0_staleIf 0 39 rfl)
theorem dX0_staleIf_40 : decode cX0_staleIf 40 = .ok (.getfield 15, 3) := dz_180 (k_X0_staleIf 0 40 rfl) (k_X0_staleIf 0 41 rfl) (k_X0_staleIf 0 42 rfl) rfl
theorem dX0_staleIf_43 : decode cX0_staleIf 43 = .ok (.iload 6, 2) := dz_21 (k_X0_staleIf 0 43 rfl) (k_X0_staleIf 0 44 rfl)
theorem dX0_staleIf_45 : decode cX0_staleIf 45 = .ok (.invokevirtual 61, 3) := dz_182 (k_X0_staleIf 0 45 rfl) (k_X0_staleIf 0 46 rfl) (k_X0_staleIf 0 47 rfl) rfl
theorem dX0_staleIf_48 : decode cX0_staleIf 48 = .ok (.istore 7, 2) := dz_54 (k_X0_staleIf 0 48 rfl) (k_X0_staleIf 0 49 rfl)
theorem dX0_staleIf_50 : decode cX0_staleIf 50 = .ok (.aload_n 0, 1) := dz_42 (k_X0_staleIf 0 50 rfl)
theorem dX0_staleIf_51 : decode cX0_staleIf 51 = .ok (.getfield 15, 3) := dz_180 (k_X0_staleIf 0 51 rfl) (k_X0_staleIf 0 52 rfl) (k_X0_staleIf 0 53 rfl) rfl
theorem dX0_staleIf_54 : decode cX0_staleIf 54 = .ok (.iload 5, 2) := dz_21 (k_X0_staleIf 0 54 rfl) (k_X0_staleIf 0 55 rfl)
theorem dX0_staleIf_56 : decode cX0_staleIf 56 = .ok (.iconst 2, 1) := dz_5 (k_X0_staleIf 0 56 rfl)
theorem dX0_staleIf_57 : decode cX0_staleIf 57 = .ok (.invokevirtual 57, 3) := dz_182 (k_X0_staleIf 0 57 rfl) (k_X0_staleIf 0 58 rfl) (k_X0_staleIf 0 59 rfl) rfl
theorem dX0_staleIf_60 : decode cX0_staleIf 60 = .ok (.ifCond .ne 7, 3) := dz_154 (k_X0_staleIf 0 60 rfl) (k_X0_staleIf 0 61 rfl) (k_X0_staleIf 0 62 rfl) rfl
theorem dX0_staleIf_63 : decode cX0_staleIf 63 = .ok (.iconst 1, 1) := dz_4 (k_X0_staleIf 0 63 rfl)
theorem dX0_staleIf_64 : decode cX0_staleIf 64 = .ok (.goto 4, 3) := dz_167 (k_X0_staleIf 1 0 rfl) (k_X0_staleIf 1 1 rfl) (k_X0_staleIf 1 2 rfl) rfl
theorem dX0_staleIf_67 : decode cX0_staleIf 67 = .ok (.iconst 0, 1) := dz_3 (k_X0_staleIf 1 3 rfl)
theorem dX0_staleIf_68 : decode cX0_staleIf 68 = .ok (.istore 8, 2) := dz_54 (k_X0_staleIf 1 4 rfl) (k_X0_staleIf 1 5 rfl)
theorem dX0_staleIf_70 : decode cX0_staleIf 70 = .ok (.iload 8, 2) := dz_21 (k_X0_staleIf 1 6 rfl) (k_X0_staleIf 1 7 rfl)
theorem dX0_staleIf_72 : decode cX0_staleIf 72 = .ok (.ifCond .eq 31, 3) := dz_153 (k_X0_staleIf 1 8 rfl) (k_X0_staleIf 1 9 rfl) (k_X0_staleIf 1 10 rfl) rfl
theorem dX0_staleIf_75 : decode cX0_staleIf 75 = .ok (.aload_n 0, 1) := dz_42 (k_X0_staleIf 1 11 rfl)
theorem dX0_staleIf_76 : decode cX0_staleIf 76 = .ok (.getfield 15, 3) := dz_180 (k_X0_staleIf 1 12 rfl) (k_X0_staleIf 1 13 rfl) (k_X0_staleIf 1 14 rfl) rfl
theorem dX0_staleIf_79 : decode cX0_staleIf 79 = .ok (.iload 7, 2) := dz_21 (k_X0_staleIf 1 15 rfl) (k_X0_staleIf 1 16 rfl)
theorem dX0_staleIf_81 : decode cX0_staleIf 81 = .ok (.aload_n 0, 1) := dz_42 (k_X0_staleIf 1 17 rfl)
theorem dX0_staleIf_82 : decode cX0_staleIf 82 = .ok (.getfield 15, 3) := dz_180 (k_X0_staleIf 1 18 rfl) (k_X0_staleIf 1 19 rfl) (k_X0_staleIf 1 20 rfl) rfl
theorem dX0_staleIf_85 : decode cX0_staleIf 85 = .ok (.iload 5, 2) := dz_21 (k_X0_staleIf 1 21 rfl) (k_X0_staleIf 1 22 rfl)
theorem dX0_staleIf_87 : decode cX0_staleIf 87 = .ok (.invokevirtual 65, 3) := dz_182 (k_X0_staleIf 1 23 rfl) (k_X0_staleIf 1 24 rfl) (k_X0_staleIf 1 25 rfl) rfl
theorem dX0_staleIf_90 : decode cX0_staleIf 90 = .ok (.invokevirtual 68, 3) := dz_182 (k_X0_staleIf 1 26 rfl) (k_X0_staleIf 1 27 rfl) (k_X0_staleIf 1 28 rfl) rfl
theorem dX0_staleIf_93 : decode cX0_staleIf 93 = .ok (.ifCond .ne 10, 3) := dz_154 (k_X0_staleIf 1 29 rfl) (k_X0_staleIf 1 30 rfl) (k_X0_staleIf 1 31 rfl) rfl
theorem dX0_staleIf_96 : decode cX0_staleIf 96 = .ok (.lload_n 3, 1) := dz_33 (k_X0_staleIf 1 32 rfl)
theorem dX0_staleIf_97 : decode cX0_staleIf 97 = .ok (.lconst 1, 1) := dz_10 (k_X0_staleIf 1 33 rfl)
theorem dX0_staleIf_98 : decode cX0_staleIf 98 = .ok (.iload 5, 2) := dz_21 (k_X0_staleIf 1 34 rfl) (k_X0_staleIf 1 35 rfl)
theorem dX0_staleIf_100 : decode cX0_staleIf 100 = .ok (.lshl, 1) := dz_121 (k_X0_staleIf 1 36 rfl)
theorem dX0_staleIf_101 : decode cX0_staleIf 101 = .ok (.lor, 1) := dz_129 (k_X0_staleIf 1 37 rfl)
theorem dX0_staleIf_102 : decode cX0_staleIf 102 = .ok (.lstore_n 3, 1) := dz_66 (k_X0_staleIf 1 38 rfl)
theorem dX0_staleIf_103 : decode cX0_staleIf 103 = .ok (.iinc 5 1, 3) := dz_132 (k_X0_staleIf 1 39 rfl) (k_X0_staleIf 1 40 rfl) (k_X0_staleIf 1 41 rfl) rfl
theorem dX0_staleIf_106 : decode cX0_staleIf 106 = .ok (.goto (-101), 3) := dz_167 (k_X0_staleIf 1 42 rfl) (k_X0_staleIf 1 43 rfl) (k_X0_staleIf 1 44 rfl) rfl
theorem dX0_staleIf_109 : decode cX0_staleIf 109 = .ok (.lconst 0, 1) := dz_9 (k_X0_staleIf 1 45 rfl)
theorem dX0_staleIf_110 : decode cX0_staleIf 110 = .ok (.lstore 5, 2) := dz_55 (k_X0_staleIf 1 46 rfl) (k_X0_staleIf 1 47 rfl)
theorem dX0_staleIf_112 : decode cX0_staleIf 112 = .ok (.iconst 0, 1) := dz_3 (k_X0_staleIf 1 48 rfl)
theorem dX0_staleIf_113 : decode cX0_staleIf 113 = .ok (.istore 7, 2) := dz_54 (k_X0_staleIf 1 49 rfl) (k_X0_staleIf 1 50 rfl)
theorem dX0_staleIf_115 : decode cX0_staleIf 115 = .ok (.iload 7, 2) := dz_21 (k_X0_staleIf 1 51 rfl) (k_X0_staleIf 1 52 rfl)
theorem dX0_staleIf_117 : decode cX0_staleIf 117 = .ok (.aload_n 0, 1) := dz_42 (k_X0_staleIf 1 53 rfl)
theorem dX0_staleIf_118 : decode cX0_staleIf 118 = .ok (.getfield 15, 3) := dz_180 (k_X0_staleIf 1 54 rfl) (k_X0_staleIf 1 55 rfl) (k_X0_staleIf 1 56 rfl) rfl
theorem dX0_staleIf_121 : decode cX0_staleIf 121 = .ok (.getfield 40, 3) := dz_180 (k_X0_staleIf 1 57 rfl) (k_X0_staleIf 1 58 rfl) (k_X0_staleIf 1 59 rfl) rfl
theorem dX0_staleIf_124 : decode cX0_staleIf 124 = .ok (.if_icmp .ge 35, 3) := dz_162 (k_X0_staleIf 1 60 rfl) (k_X0_staleIf 1 61 rfl) (k_X0_staleIf 1 62 rfl) rfl
theorem dX0_staleIf_127 : decode cX0_staleIf 127 = .ok (.aload_n 0, 1) := dz_42 (k_X0_staleIf 1 63 rfl)
theorem dX0_staleIf_128 : decode cX0_staleIf 128 = .ok (.getfield 15, 3) := dz_180 (k_X0_staleIf 2 0 rfl) (k_X0_staleIf 2 1 rfl) (k_X0_staleIf 2 2 rfl) rfl
theorem dX0_staleIf_131 : decode cX0_staleIf 131 = .ok (.getfield 53, 3) := dz_180 (k_X0_staleIf 2 3 rfl) (k_X0_staleIf 2 4 rfl) (k_X0_staleIf 2 5 rfl) rfl
theorem dX0_staleIf_134 : decode cX0_staleIf 134 = .ok (.iload 7, 2) := dz_21 (k_X0_staleIf 2 6 rfl) (k_X0_staleIf 2 7 rfl)
theorem dX0_staleIf_136 : decode cX0_staleIf 136 = .ok (.laload, 1) := dz_47 (k_X0_staleIf 2 8 rfl)
theorem dX0_staleIf_137 : decode cX0_staleIf 137 = .ok (.lload_n 3, 1) := dz_33 (k_X0_staleIf 2 9 rfl)
theorem dX0_staleIf_138 : decode cX0_staleIf 138 = .ok (.land, 1) := dz_127 (k_X0_staleIf 2 10 rfl)
theorem dX0_staleIf_139 : decode cX0_staleIf 139 = .ok (.lconst 0, 1) := dz_9 (k_X0_staleIf 2 11 rfl)
theorem dX0_staleIf_140 : decode cX0_staleIf 140 = .ok (.lcmp, 1) := dz_148 (k_X0_staleIf 2 12 rfl)
theorem dX0_staleIf_141 : decode cX0_staleIf 141 = .ok (.ifCond .eq 12, 3) := dz_153 (k_X0_staleIf 2 13 rfl) (k_X0_staleIf 2 14 rfl) (k_X0_staleIf 2 15 rfl) rfl
theorem dX0_staleIf_144 : decode cX0_staleIf 144 = .ok (.lload 5, 2) := dz_22 (k_X0_staleIf 2 16 rfl) (k_X0_staleIf 2 17 rfl)
theorem dX0_staleIf_146 : decode cX0_staleIf 146 = .ok (.lconst 1, 1) := dz_10 (k_X0_staleIf 2 18 rfl)
theorem dX0_staleIf_147 : decode cX0_staleIf 147 = .ok (.iload 7, 2) := dz_21 (k_X0_staleIf 2 19 rfl) (k_X0_staleIf 2 20 rfl)
theorem dX0_staleIf_149 : decode cX0_staleIf 149 = .ok (.lshl, 1) := dz_121 (k_X0_staleIf 2 21 rfl)
theorem dX0_staleIf_150 : decode cX0_staleIf 150 = .ok (.lor, 1) := dz_129 (k_X0_staleIf 2 22 rfl)
theorem dX0_staleIf_151 : decode cX0_staleIf 151 = .ok (.lstore 5, 2) := dz_55 (k_X0_staleIf 2 23 rfl) (k_X0_staleIf 2 24 rfl)
theorem dX0_staleIf_153 : decode cX0_staleIf 153 = .ok (.iinc 7 1, 3) := dz_132 (k_X0_staleIf 2 25 rfl) (k_X0_staleIf 2 26 rfl) (k_X0_staleIf 2 27 rfl) rfl
theorem dX0_staleIf_156 : decode cX0_staleIf 156 = .ok (.goto (-41), 3) := dz_167 (k_X0_staleIf 2 28 rfl) (k_X0_staleIf 2 29 rfl) (k_X0_staleIf 2 30 rfl) rfl
theorem dX0_staleIf_159 : decode cX0_staleIf 159 = .ok (.lload 5, 2) := dz_22 (k_X0_staleIf 2 31 rfl) (k_X0_staleIf 2 32 rfl)
theorem dX0_staleIf_161 : decode cX0_staleIf 161 = .ok (.lreturn, 1) := dz_173 (k_X0_staleIf 2 33 rfl)
def B_X0_standsOnSound : List (List Nat) := [[3, 61, 28, 6, 162, 0, 39, 42, 180, 0, 15, 27, 28, 182, 0, 72, 62, 29, 2, 159, 0, 18, 42, 180, 0, 23, 29, 125, 10, 127, 9, 148, 154, 0, 5, 3, 172, 132, 2, 1, 167, 255, 218, 4, 172]]
theorem k_X0_standsOnSound (j i : Nat) {b : Nat} (h : (B_X0_standsOnSound[j]?.bind fun c => c[i]?) = some b) : s_by cX0_standsOnSound (64 * j + i) b := s_byC (L := B_X0_standsOnSound) (by decide +kernel) (by decide +kernel) j i h
theorem dX0_standsOnSound_0 : decode cX0_standsOnSound 0 = .ok (.iconst 0, 1) := dz_3 (k_X0_standsOnSound 0 0 rfl)
theorem dX0_standsOnSound_1 : decode cX0_standsOnSound 1 = .ok (.istore_n 2, 1) := dz_61 (k_X0_standsOnSound 0 1 rfl)
theorem dX0_standsOnSound_2 : decode cX0_standsOnSound 2 = .ok (.iload_n 2, 1) := dz_28 (k_X0_standsOnSound 0 2 rfl)
theorem dX0_standsOnSound_3 : decode cX0_standsOnSound 3 = .ok (.iconst 3, 1) := dz_6 (k_X0_standsOnSound 0 3 rfl)
theorem dX0_standsOnSound_4 : decode cX0_standsOnSound 4 = .ok (.if_icmp .ge 39, 3) := dz_162 (k_X0_standsOnSound 0 4 rfl) (k_X0_standsOnSound 0 5 rfl) (k_X0_standsOnSound 0 6 rfl) rfl
theorem dX0_standsOnSound_7 : decode cX0_standsOnSound 7 = .ok (.aload_n 0, 1) := dz_42 (k_X0_standsOnSound 0 7 rfl)
theorem dX0_standsOnSound_8 : decode cX0_standsOnSound 8 = .ok (.getfield 15, 3) := dz_180 (k_X0_standsOnSound 0 8 rfl) (k_X0_standsOnSound 0 9 rfl) (k_X0_standsOnSound 0 10 rfl) rfl
theorem dX0_standsOnSound_11 : decode cX0_standsOnSound 11 = .ok (.iload_n 1, 1) := dz_27 (k_X0_standsOnSound 0 11 rfl)
theorem dX0_standsOnSound_12 : decode cX0_standsOnSound 12 = .ok (.iload_n 2, 1) := dz_28 (k_X0_standsOnSound 0 12 rfl)
theorem dX0_standsOnSound_13 : decode cX0_standsOnSound 13 = .ok (.invokevirtual 72, 3) := dz_182 (k_X0_standsOnSound 0 13 rfl) (k_X0_standsOnSound 0 14 rfl) (k_X0_standsOnSound 0 15 rfl) rfl
theorem dX0_standsOnSound_16 : decode cX0_standsOnSound 16 = .ok (.istore_n 3, 1) := dz_62 (k_X0_standsOnSound 0 16 rfl)
theorem dX0_standsOnSound_17 : decode cX0_standsOnSound 17 = .ok (.iload_n 3, 1) := dz_29 (k_X0_standsOnSound 0 17 rfl)
theorem dX0_standsOnSound_18 : decode cX0_standsOnSound 18 = .ok (.iconst (-1), 1) := dz_2 (k_X0_standsOnSound 0 18 rfl)
theorem dX0_standsOnSound_19 : decode cX0_standsOnSound 19 = .ok (.if_icmp .eq 18, 3) := dz_159 (k_X0_standsOnSound 0 19 rfl) (k_X0_standsOnSound 0 20 rfl) (k_X0_standsOnSound 0 21 rfl) rfl
theorem dX0_standsOnSound_22 : decode cX0_standsOnSound 22 = .ok (.aload_n 0, 1) := dz_42 (k_X0_standsOnSound 0 22 rfl)
theorem dX0_standsOnSound_23 : decode cX0_standsOnSound 23 = .ok (.getfield 23, 3) := dz_180 (k_X0_standsOnSound 0 23 rfl) (k_X0_standsOnSound 0 24 rfl) (k_X0_standsOnSound 0 25 rfl) rfl
theorem dX0_standsOnSound_26 : decode cX0_standsOnSound 26 = .ok (.iload_n 3, 1) := dz_29 (k_X0_standsOnSound 0 26 rfl)
theorem dX0_standsOnSound_27 : decode cX0_standsOnSound 27 = .ok (.lushr, 1) := dz_125 (k_X0_standsOnSound 0 27 rfl)
theorem dX0_standsOnSound_28 : decode cX0_standsOnSound 28 = .ok (.lconst 1, 1) := dz_10 (k_X0_standsOnSound 0 28 rfl)
theorem dX0_standsOnSound_29 : decode cX0_standsOnSound 29 = .ok (.land, 1) := dz_127 (k_X0_standsOnSound 0 29 rfl)
theorem dX0_standsOnSound_30 : decode cX0_standsOnSound 30 = .ok (.lconst 0, 1) := dz_9 (k_X0_standsOnSound 0 30 rfl)
theorem dX0_standsOnSound_31 : decode cX0_standsOnSound 31 = .ok (.lcmp, 1) := dz_148 (k_X0_standsOnSound 0 31 rfl)
theorem dX0_standsOnSound_32 : decode cX0_standsOnSound 32 = .ok (.ifCond .ne 5, 3) := dz_154 (k_X0_standsOnSound 0 32 rfl) (k_X0_standsOnSound 0 33 rfl) (k_X0_standsOnSound 0 34 rfl) rfl
theorem dX0_standsOnSound_35 : decode cX0_standsOnSound 35 = .ok (.iconst 0, 1) := dz_3 (k_X0_standsOnSound 0 35 rfl)
theorem dX0_standsOnSound_36 : decode cX0_standsOnSound 36 = .ok (.ireturn, 1) := dz_172 (k_X0_standsOnSound 0 36 rfl)
theorem dX0_standsOnSound_37 : decode cX0_standsOnSound 37 = .ok (.iinc 2 1, 3) := dz_132 (k_X0_standsOnSound 0 37 rfl) (k_X0_standsOnSound 0 38 rfl) (k_X0_standsOnSound 0 39 rfl) rfl
theorem dX0_standsOnSound_40 : decode cX0_standsOnSound 40 = .ok (.goto (-38), 3) := dz_167 (k_X0_standsOnSound 0 40 rfl) (k_X0_standsOnSound 0 41 rfl) (k_X0_standsOnSound 0 42 rfl) rfl
theorem dX0_standsOnSound_43 : decode cX0_standsOnSound 43 = .ok (.iconst 1, 1) := dz_4 (k_X0_standsOnSound 0 43 rfl)
theorem dX0_standsOnSound_44 : decode cX0_standsOnSound 44 = .ok (.ireturn, 1) := dz_172 (k_X0_standsOnSound 0 44 rfl)
def B_X0_tells : List (List Nat) := [[28, 170, 0, 0, 0, 0, 0, 107, 0, 0, 0, 0, 0, 0, 0, 3, 0, 0, 0, 31, 0, 0, 0, 50, 0, 0, 0, 69, 0, 0, 0, 88, 42, 180, 0, 19, 27, 125, 10, 127, 9, 148, 153, 0, 7, 4, 167, 0, 4, 3, 172, 42, 180, 0, 23, 27, 125, 10, 127, 9, 148, 153, 0, 7], [4, 167, 0, 4, 3, 172, 42, 180, 0, 26, 27, 125, 10, 127, 9, 148, 153, 0, 7, 4, 167, 0, 4, 3, 172, 42, 180, 0, 33, 27, 125, 10, 127, 9, 148, 153, 0, 7, 4, 167, 0, 4, 3, 172, 42, 180, 0, 33, 27, 125, 10, 127, 9, 148, 153, 0, 15, 42, 27, 182, 0, 124, 153, 0], [7, 4, 167, 0, 4, 3, 172]]
theorem k_X0_tells (j i : Nat) {b : Nat} (h : (B_X0_tells[j]?.bind fun c => c[i]?) = some b) : s_by cX0_tells (64 * j + i) b := s_byC (L := B_X0_tells) (by decide +kernel) (by decide +kernel) j i h
theorem dX0_tells_0 : decode cX0_tells 0 = .ok (.iload_n 2, 1) := dz_28 (k_X0_tells 0 0 rfl)
theorem dX0_tells_1 : decode cX0_tells 1 = .ok (.tableswitch 107 0 3 #[31, 50, 69, 88], 31) := by decide +kernel
theorem dX0_tells_32 : decode cX0_tells 32 = .ok (.aload_n 0, 1) := dz_42 (k_X0_tells 0 32 rfl)
theorem dX0_tells_33 : decode cX0_tells 33 = .ok (.getfield 19, 3) := dz_180 (k_X0_tells 0 33 rfl) (k_X0_tells 0 34 rfl) (k_X0_tells 0 35 rfl) rfl
theorem dX0_tells_36 : decode cX0_tells 36 = .ok (.iload_n 1, 1) := dz_27 (k_X0_tells 0 36 rfl)
theorem dX0_tells_37 : decode cX0_tells 37 = .ok (.lushr, 1) := dz_125 (k_X0_tells 0 37 rfl)
theorem dX0_tells_38 : decode cX0_tells 38 = .ok (.lconst 1, 1) := dz_10 (k_X0_tells 0 38 rfl)
theorem dX0_tells_39 : decode cX0_tells 39 = .ok (.land, 1) := dz_127 (k_X0_tells 0 39 rfl)
theorem dX0_tells_40 : decode cX0_tells 40 = .ok (.lconst 0, 1) := dz_9 (k_X0_tells 0 40 rfl)
theorem dX0_tells_41 : decode cX0_tells 41 = .ok (.lcmp, 1) := dz_148 (k_X0_tells 0 41 rfl)
theorem dX0_tells_42 : decode cX0_tells 42 = .ok (.ifCond .eq 7, 3) := dz_153 (k_X0_tells 0 42 rfl) (k_X0_tells 0 43 rfl) (k_X0_tells 0 44 rfl) rfl
theorem dX0_tells_45 : decode cX0_tells 45 = .ok (.iconst 1, 1) := dz_4 (k_X0_tells 0 45 rfl)
theorem dX0_tells_46 : decode cX0_tells 46 = .ok (.goto 4, 3) := dz_167 (k_X0_tells 0 46 rfl) (k_X0_tells 0 47 rfl) (k_X0_tells 0 48 rfl) rfl
theorem dX0_tells_49 : decode cX0_tells 49 = .ok (.iconst 0, 1) := dz_3 (k_X0_tells 0 49 rfl)
theorem dX0_tells_50 : decode cX0_tells 50 = .ok (.ireturn, 1) := dz_172 (k_X0_tells 0 50 rfl)
theorem dX0_tells_51 : decode cX0_tells 51 = .ok (.aload_n 0, 1) := dz_42 (k_X0_tells 0 51 rfl)
theorem dX0_tells_52 : decode cX0_tells 52 = .ok (.getfield 23, 3) := dz_180 (k_X0_tells 0 52 rfl) (k_X0_tells 0 53 rfl) (k_X0_tells 0 54 rfl) rfl
theorem dX0_tells_55 : decode cX0_tells 55 = .ok (.iload_n 1, 1) := dz_27 (k_X0_tells 0 55 rfl)
theorem dX0_tells_56 : decode cX0_tells 56 = .ok (.lushr, 1) := dz_125 (k_X0_tells 0 56 rfl)
theorem dX0_tells_57 : decode cX0_tells 57 = .ok (.lconst 1, 1) := dz_10 (k_X0_tells 0 57 rfl)
theorem dX0_tells_58 : decode cX0_tells 58 = .ok (.land, 1) := dz_127 (k_X0_tells 0 58 rfl)
theorem dX0_tells_59 : decode cX0_tells 59 = .ok (.lconst 0, 1) := dz_9 (k_X0_tells 0 59 rfl)
theorem dX0_tells_60 : decode cX0_tells 60 = .ok (.lcmp, 1) := dz_148 (k_X0_tells 0 60 rfl)
theorem dX0_tells_61 : decode cX0_tells 61 = .ok (.ifCond .eq 7, 3) := dz_153 (k_X0_tells 0 61 rfl) (k_X0_tells 0 62 rfl) (k_X0_tells 0 63 rfl) rfl
theorem dX0_tells_64 : decode cX0_tells 64 = .ok (.iconst 1, 1) := dz_4 (k_X0_tells 1 0 rfl)
theorem dX0_tells_65 : decode cX0_tells 65 = .ok (.goto 4, 3) := dz_167 (k_X0_tells 1 1 rfl) (k_X0_tells 1 2 rfl) (k_X0_tells 1 3 rfl) rfl
theorem dX0_tells_68 : decode cX0_tells 68 = .ok (.iconst 0, 1) := dz_3 (k_X0_tells 1 4 rfl)
theorem dX0_tells_69 : decode cX0_tells 69 = .ok (.ireturn, 1) := dz_172 (k_X0_tells 1 5 rfl)
theorem dX0_tells_70 : decode cX0_tells 70 = .ok (.aload_n 0, 1) := dz_42 (k_X0_tells 1 6 rfl)
theorem dX0_tells_71 : decode cX0_tells 71 = .ok (.getfield 26, 3) := dz_180 (k_X0_tells 1 7 rfl) (k_X0_tells 1 8 rfl) (k_X0_tells 1 9 rfl) rfl
theorem dX0_tells_74 : decode cX0_tells 74 = .ok (.iload_n 1, 1) := dz_27 (k_X0_tells 1 10 rfl)
theorem dX0_tells_75 : decode cX0_tells 75 = .ok (.lushr, 1) := dz_125 (k_X0_tells 1 11 rfl)
theorem dX0_tells_76 : decode cX0_tells 76 = .ok (.lconst 1, 1) := dz_10 (k_X0_tells 1 12 rfl)
theorem dX0_tells_77 : decode cX0_tells 77 = .ok (.land, 1) := dz_127 (k_X0_tells 1 13 rfl)
theorem dX0_tells_78 : decode cX0_tells 78 = .ok (.lconst 0, 1) := dz_9 (k_X0_tells 1 14 rfl)
theorem dX0_tells_79 : decode cX0_tells 79 = .ok (.lcmp, 1) := dz_148 (k_X0_tells 1 15 rfl)
theorem dX0_tells_80 : decode cX0_tells 80 = .ok (.ifCond .eq 7, 3) := dz_153 (k_X0_tells 1 16 rfl) (k_X0_tells 1 17 rfl) (k_X0_tells 1 18 rfl) rfl
theorem dX0_tells_83 : decode cX0_tells 83 = .ok (.iconst 1, 1) := dz_4 (k_X0_tells 1 19 rfl)
theorem dX0_tells_84 : decode cX0_tells 84 = .ok (.goto 4, 3) := dz_167 (k_X0_tells 1 20 rfl) (k_X0_tells 1 21 rfl) (k_X0_tells 1 22 rfl) rfl
theorem dX0_tells_87 : decode cX0_tells 87 = .ok (.iconst 0, 1) := dz_3 (k_X0_tells 1 23 rfl)
theorem dX0_tells_88 : decode cX0_tells 88 = .ok (.ireturn, 1) := dz_172 (k_X0_tells 1 24 rfl)
theorem dX0_tells_89 : decode cX0_tells 89 = .ok (.aload_n 0, 1) := dz_42 (k_X0_tells 1 25 rfl)
theorem dX0_tells_90 : decode cX0_tells 90 = .ok (.getfield 33, 3) := dz_180 (k_X0_tells 1 26 rfl) (k_X0_tells 1 27 rfl) (k_X0_tells 1 28 rfl) rfl
theorem dX0_tells_93 : decode cX0_tells 93 = .ok (.iload_n 1, 1) := dz_27 (k_X0_tells 1 29 rfl)
theorem dX0_tells_94 : decode cX0_tells 94 = .ok (.lushr, 1) := dz_125 (k_X0_tells 1 30 rfl)
theorem dX0_tells_95 : decode cX0_tells 95 = .ok (.lconst 1, 1) := dz_10 (k_X0_tells 1 31 rfl)
theorem dX0_tells_96 : decode cX0_tells 96 = .ok (.land, 1) := dz_127 (k_X0_tells 1 32 rfl)
theorem dX0_tells_97 : decode cX0_tells 97 = .ok (.lconst 0, 1) := dz_9 (k_X0_tells 1 33 rfl)
theorem dX0_tells_98 : decode cX0_tells 98 = .ok (.lcmp, 1) := dz_148 (k_X0_tells 1 34 rfl)
theorem dX0_tells_99 : decode cX0_tells 99 = .ok (.ifCond .eq 7, 3) := dz_153 (k_X0_tells 1 35 rfl) (k_X0_tells 1 36 rfl) (k_X0_tells 1 37 rfl) rfl
theorem dX0_tells_102 : decode cX0_tells 102 = .ok (.iconst 1, 1) := dz_4 (k_X0_tells 1 38 rfl)
theorem dX0_tells_103 : decode cX0_tells 103 = .ok (.goto 4, 3) := dz_167 (k_X0_tells 1 39 rfl) (k_X0_tells 1 40 rfl) (k_X0_tells 1 41 rfl) rfl
theorem dX0_tells_106 : decode cX0_tells 106 = .ok (.iconst 0, 1) := dz_3 (k_X0_tells 1 42 rfl)
theorem dX0_tells_107 : decode cX0_tells 107 = .ok (.ireturn, 1) := dz_172 (k_X0_tells 1 43 rfl)
theorem dX0_tells_108 : decode cX0_tells 108 = .ok (.aload_n 0, 1) := dz_42 (k_X0_tells 1 44 rfl)
theorem dX0_tells_109 : decode cX0_tells 109 = .ok (.getfield 33, 3) := dz_180 (k_X0_tells 1 45 rfl) (k_X0_tells 1 46 rfl) (k_X0_tells 1 47 rfl) rfl
theorem dX0_tells_112 : decode cX0_tells 112 = .ok (.iload_n 1, 1) := dz_27 (k_X0_tells 1 48 rfl)
theorem dX0_tells_113 : decode cX0_tells 113 = .ok (.lushr, 1) := dz_125 (k_X0_tells 1 49 rfl)
theorem dX0_tells_114 : decode cX0_tells 114 = .ok (.lconst 1, 1) := dz_10 (k_X0_tells 1 50 rfl)
theorem dX0_tells_115 : decode cX0_tells 115 = .ok (.land, 1) := dz_127 (k_X0_tells 1 51 rfl)
theorem dX0_tells_116 : decode cX0_tells 116 = .ok (.lconst 0, 1) := dz_9 (k_X0_tells 1 52 rfl)
theorem dX0_tells_117 : decode cX0_tells 117 = .ok (.lcmp, 1) := dz_148 (k_X0_tells 1 53 rfl)
theorem dX0_tells_118 : decode cX0_tells 118 = .ok (.ifCond .eq 15, 3) := dz_153 (k_X0_tells 1 54 rfl) (k_X0_tells 1 55 rfl) (k_X0_tells 1 56 rfl) rfl
theorem dX0_tells_121 : decode cX0_tells 121 = .ok (.aload_n 0, 1) := dz_42 (k_X0_tells 1 57 rfl)
theorem dX0_tells_122 : decode cX0_tells 122 = .ok (.iload_n 1, 1) := dz_27 (k_X0_tells 1 58 rfl)
theorem dX0_tells_123 : decode cX0_tells 123 = .ok (.invokevirtual 124, 3) := dz_182 (k_X0_tells 1 59 rfl) (k_X0_tells 1 60 rfl) (k_X0_tells 1 61 rfl) rfl
theorem dX0_tells_126 : decode cX0_tells 126 = .ok (.ifCond .eq 7, 3) := dz_153 (k_X0_tells 1 62 rfl) (k_X0_tells 1 63 rfl) (k_X0_tells 2 0 rfl) rfl
theorem dX0_tells_129 : decode cX0_tells 129 = .ok (.iconst 1, 1) := dz_4 (k_X0_tells 2 1 rfl)
theorem dX0_tells_130 : decode cX0_tells 130 = .ok (.goto 4, 3) := dz_167 (k_X0_tells 2 2 rfl) (k_X0_tells 2 3 rfl) (k_X0_tells 2 4 rfl) rfl
theorem dX0_tells_133 : decode cX0_tells 133 = .ok (.iconst 0, 1) := dz_3 (k_X0_tells 2 5 rfl)
theorem dX0_tells_134 : decode cX0_tells 134 = .ok (.ireturn, 1) := dz_172 (k_X0_tells 2 6 rfl)
def B_X1_addFormula : List (List Nat) := [[42, 180, 0, 48, 16, 30, 161, 0, 5, 2, 172, 42, 180, 0, 32, 42, 180, 0, 48, 27, 79, 3, 62, 29, 42, 182, 0, 70, 162, 0, 33, 42, 180, 0, 15, 42, 180, 0, 48, 16, 16, 104, 29, 96, 44, 27, 29, 42, 180, 0, 9, 182, 0, 73, 80, 132, 3, 1, 167, 255, 221, 42, 89, 180], [0, 48, 90, 4, 96, 181, 0, 48, 172]]
theorem k_X1_addFormula (j i : Nat) {b : Nat} (h : (B_X1_addFormula[j]?.bind fun c => c[i]?) = some b) : s_by cX1_addFormula (64 * j + i) b := s_byC (L := B_X1_addFormula) (by decide +kernel) (by decide +kernel) j i h
theorem dX1_addFormula_0 : decode cX1_addFormula 0 = .ok (.aload_n 0, 1) := dz_42 (k_X1_addFormula 0 0 rfl)
theorem dX1_addFormula_1 : decode cX1_addFormula 1 = .ok (.getfield 48, 3) := dz_180 (k_X1_addFormula 0 1 rfl) (k_X1_addFormula 0 2 rfl) (k_X1_addFormula 0 3 rfl) rfl
theorem dX1_addFormula_4 : decode cX1_addFormula 4 = .ok (.bipush 30, 2) := dz_16 (k_X1_addFormula 0 4 rfl) (k_X1_addFormula 0 5 rfl) rfl
theorem dX1_addFormula_6 : decode cX1_addFormula 6 = .ok (.if_icmp .lt 5, 3) := dz_161 (k_X1_addFormula 0 6 rfl) (k_X1_addFormula 0 7 rfl) (k_X1_addFormula 0 8 rfl) rfl
theorem dX1_addFormula_9 : decode cX1_addFormula 9 = .ok (.iconst (-1), 1) := dz_2 (k_X1_addFormula 0 9 rfl)
theorem dX1_addFormula_10 : decode cX1_addFormula 10 = .ok (.ireturn, 1) := dz_172 (k_X1_addFormula 0 10 rfl)
theorem dX1_addFormula_11 : decode cX1_addFormula 11 = .ok (.aload_n 0, 1) := dz_42 (k_X1_addFormula 0 11 rfl)
theorem dX1_addFormula_12 : decode cX1_addFormula 12 = .ok (.getfield 32, 3) := dz_180 (k_X1_addFormula 0 12 rfl) (k_X1_addFormula 0 13 rfl) (k_X1_addFormula 0 14 rfl) rfl
theorem dX1_addFormula_15 : decode cX1_addFormula 15 = .ok (.aload_n 0, 1) := dz_42 (k_X1_addFormula 0 15 rfl)
theorem dX1_addFormula_16 : decode cX1_addFormula 16 = .ok (.getfield 48, 3) := dz_180 (k_X1_addFormula 0 16 rfl) (k_X1_addFormula 0 17 rfl) (k_X1_addFormula 0 18 rfl) rfl
theorem dX1_addFormula_19 : decode cX1_addFormula 19 = .ok (.iload_n 1, 1) := dz_27 (k_X1_addFormula 0 19 rfl)
theorem dX1_addFormula_20 : decode cX1_addFormula 20 = .ok (.iastore, 1) := dz_79 (k_X1_addFormula 0 20 rfl)
theorem dX1_addFormula_21 : decode cX1_addFormula 21 = .ok (.iconst 0, 1) := dz_3 (k_X1_addFormula 0 21 rfl)
theorem dX1_addFormula_22 : decode cX1_addFormula 22 = .ok (.istore_n 3, 1) := dz_62 (k_X1_addFormula 0 22 rfl)
theorem dX1_addFormula_23 : decode cX1_addFormula 23 = .ok (.iload_n 3, 1) := dz_29 (k_X1_addFormula 0 23 rfl)
theorem dX1_addFormula_24 : decode cX1_addFormula 24 = .ok (.aload_n 0, 1) := dz_42 (k_X1_addFormula 0 24 rfl)
theorem dX1_addFormula_25 : decode cX1_addFormula 25 = .ok (.invokevirtual 70, 3) := dz_182 (k_X1_addFormula 0 25 rfl) (k_X1_addFormula 0 26 rfl) (k_X1_addFormula 0 27 rfl) rfl
theorem dX1_addFormula_28 : decode cX1_addFormula 28 = .ok (.if_icmp .ge 33, 3) := dz_162 (k_X1_addFormula 0 28 rfl) (k_X1_addFormula 0 29 rfl) (k_X1_addFormula 0 30 rfl) rfl
theorem dX1_addFormula_31 : decode cX1_addFormula 31 = .ok (.aload_n 0, 1) := dz_42 (k_X1_addFormula 0 31 rfl)
theorem dX1_addFormula_32 : decode cX1_addFormula 32 = .ok (.getfield 15, 3) := dz_180 (k_X1_addFormula 0 32 rfl) (k_X1_addFormula 0 33 rfl) (k_X1_addFormula 0 34 rfl) rfl
theorem dX1_addFormula_35 : decode cX1_addFormula 35 = .ok (.aload_n 0, 1) := dz_42 (k_X1_addFormula 0 35 rfl)
theorem dX1_addFormula_36 : decode cX1_addFormula 36 = .ok (.getfield 48, 3) := dz_180 (k_X1_addFormula 0 36 rfl) (k_X1_addFormula 0 37 rfl) (k_X1_addFormula 0 38 rfl) rfl
theorem dX1_addFormula_39 : decode cX1_addFormula 39 = .ok (.bipush 16, 2) := dz_16 (k_X1_addFormula 0 39 rfl) (k_X1_addFormula 0 40 rfl) rfl
theorem dX1_addFormula_41 : decode cX1_addFormula 41 = .ok (.imul, 1) := dz_104 (k_X1_addFormula 0 41 rfl)
theorem dX1_addFormula_42 : decode cX1_addFormula 42 = .ok (.iload_n 3, 1) := dz_29 (k_X1_addFormula 0 42 rfl)
theorem dX1_addFormula_43 : decode cX1_addFormula 43 = .ok (.iadd, 1) := dz_96 (k_X1_addFormula 0 43 rfl)
theorem dX1_addFormula_44 : decode cX1_addFormula 44 = .ok (.aload_n 2, 1) := dz_44 (k_X1_addFormula 0 44 rfl)
theorem dX1_addFormula_45 : decode cX1_addFormula 45 = .ok (.iload_n 1, 1) := dz_27 (k_X1_addFormula 0 45 rfl)
theorem dX1_addFormula_46 : decode cX1_addFormula 46 = .ok (.iload_n 3, 1) := dz_29 (k_X1_addFormula 0 46 rfl)
theorem dX1_addFormula_47 : decode cX1_addFormula 47 = .ok (.aload_n 0, 1) := dz_42 (k_X1_addFormula 0 47 rfl)
theorem dX1_addFormula_48 : decode cX1_addFormula 48 = .ok (.getfield 9, 3) := dz_180 (k_X1_addFormula 0 48 rfl) (k_X1_addFormula 0 49 rfl) (k_X1_addFormula 0 50 rfl) rfl
theorem dX1_addFormula_51 : decode cX1_addFormula 51 = .ok (.invokevirtual 73, 3) := dz_182 (k_X1_addFormula 0 51 rfl) (k_X1_addFormula 0 52 rfl) (k_X1_addFormula 0 53 rfl) rfl
theorem dX1_addFormula_54 : decode cX1_addFormula 54 = .ok (.lastore, 1) := dz_80 (k_X1_addFormula 0 54 rfl)
theorem dX1_addFormula_55 : decode cX1_addFormula 55 = .ok (.iinc 3 1, 3) := dz_132 (k_X1_addFormula 0 55 rfl) (k_X1_addFormula 0 56 rfl) (k_X1_addFormula 0 57 rfl) rfl
theorem dX1_addFormula_58 : decode cX1_addFormula 58 = .ok (.goto (-35), 3) := dz_167 (k_X1_addFormula 0 58 rfl) (k_X1_addFormula 0 59 rfl) (k_X1_addFormula 0 60 rfl) rfl
theorem dX1_addFormula_61 : decode cX1_addFormula 61 = .ok (.aload_n 0, 1) := dz_42 (k_X1_addFormula 0 61 rfl)
theorem dX1_addFormula_62 : decode cX1_addFormula 62 = .ok (.dup, 1) := dz_89 (k_X1_addFormula 0 62 rfl)
theorem dX1_addFormula_63 : decode cX1_addFormula 63 = .ok (.getfield 48, 3) := dz_180 (k_X1_addFormula 0 63 rfl) (k_X1_addFormula 1 0 rfl) (k_X1_addFormula 1 1 rfl) rfl
theorem dX1_addFormula_66 : decode cX1_addFormula 66 = .ok (.dup_x1, 1) := dz_90 (k_X1_addFormula 1 2 rfl)
theorem dX1_addFormula_67 : decode cX1_addFormula 67 = .ok (.iconst 1, 1) := dz_4 (k_X1_addFormula 1 3 rfl)
theorem dX1_addFormula_68 : decode cX1_addFormula 68 = .ok (.iadd, 1) := dz_96 (k_X1_addFormula 1 4 rfl)
theorem dX1_addFormula_69 : decode cX1_addFormula 69 = .ok (.putfield 48, 3) := dz_181 (k_X1_addFormula 1 5 rfl) (k_X1_addFormula 1 6 rfl) (k_X1_addFormula 1 7 rfl) rfl
theorem dX1_addFormula_72 : decode cX1_addFormula 72 = .ok (.ireturn, 1) := dz_172 (k_X1_addFormula 1 8 rfl)
def B_X1_addLine : List (List Nat) := [[42, 180, 0, 51, 16, 40, 161, 0, 5, 2, 172, 42, 180, 0, 51, 16, 6, 104, 54, 7, 42, 180, 0, 38, 21, 7, 3, 96, 27, 79, 42, 180, 0, 38, 21, 7, 4, 96, 28, 79, 42, 180, 0, 38, 21, 7, 5, 96, 29, 79, 42, 180, 0, 38, 21, 7, 6, 96, 21, 4, 79, 42, 180, 0], [38, 21, 7, 6, 96, 4, 96, 21, 5, 79, 42, 180, 0, 38, 21, 7, 6, 96, 5, 96, 21, 6, 79, 42, 89, 180, 0, 51, 4, 96, 181, 0, 51, 42, 42, 180, 0, 51, 4, 100, 182, 0, 86, 42, 180, 0, 51, 4, 100, 172]]
theorem k_X1_addLine (j i : Nat) {b : Nat} (h : (B_X1_addLine[j]?.bind fun c => c[i]?) = some b) : s_by cX1_addLine (64 * j + i) b := s_byC (L := B_X1_addLine) (by decide +kernel) (by decide +kernel) j i h
theorem dX1_addLine_0 : decode cX1_addLine 0 = .ok (.aload_n 0, 1) := dz_42 (k_X1_addLine 0 0 rfl)
theorem dX1_addLine_1 : decode cX1_addLine 1 = .ok (.getfield 51, 3) := dz_180 (k_X1_addLine 0 1 rfl) (k_X1_addLine 0 2 rfl) (k_X1_addLine 0 3 rfl) rfl
theorem dX1_addLine_4 : decode cX1_addLine 4 = .ok (.bipush 40, 2) := dz_16 (k_X1_addLine 0 4 rfl) (k_X1_addLine 0 5 rfl) rfl
theorem dX1_addLine_6 : decode cX1_addLine 6 = .ok (.if_icmp .lt 5, 3) := dz_161 (k_X1_addLine 0 6 rfl) (k_X1_addLine 0 7 rfl) (k_X1_addLine 0 8 rfl) rfl
theorem dX1_addLine_9 : decode cX1_addLine 9 = .ok (.iconst (-1), 1) := dz_2 (k_X1_addLine 0 9 rfl)
theorem dX1_addLine_10 : decode cX1_addLine 10 = .ok (.ireturn, 1) := dz_172 (k_X1_addLine 0 10 rfl)
theorem dX1_addLine_11 : decode cX1_addLine 11 = .ok (.aload_n 0, 1) := dz_42 (k_X1_addLine 0 11 rfl)
theorem dX1_addLine_12 : decode cX1_addLine 12 = .ok (.getfield 51, 3) := dz_180 (k_X1_addLine 0 12 rfl) (k_X1_addLine 0 13 rfl) (k_X1_addLine 0 14 rfl) rfl
theorem dX1_addLine_15 : decode cX1_addLine 15 = .ok (.bipush 6, 2) := dz_16 (k_X1_addLine 0 15 rfl) (k_X1_addLine 0 16 rfl) rfl
theorem dX1_addLine_17 : decode cX1_addLine 17 = .ok (.imul, 1) := dz_104 (k_X1_addLine 0 17 rfl)
theorem dX1_addLine_18 : decode cX1_addLine 18 = .ok (.istore 7, 2) := dz_54 (k_X1_addLine 0 18 rfl) (k_X1_addLine 0 19 rfl)
theorem dX1_addLine_20 : decode cX1_addLine 20 = .ok (.aload_n 0, 1) := dz_42 (k_X1_addLine 0 20 rfl)
theorem dX1_addLine_21 : decode cX1_addLine 21 = .ok (.getfield 38, 3) := dz_180 (k_X1_addLine 0 21 rfl) (k_X1_addLine 0 22 rfl) (k_X1_addLine 0 23 rfl) rfl
theorem dX1_addLine_24 : decode cX1_addLine 24 = .ok (.iload 7, 2) := dz_21 (k_X1_addLine 0 24 rfl) (k_X1_addLine 0 25 rfl)
theorem dX1_addLine_26 : decode cX1_addLine 26 = .ok (.iconst 0, 1) := dz_3 (k_X1_addLine 0 26 rfl)
theorem dX1_addLine_27 : decode cX1_addLine 27 = .ok (.iadd, 1) := dz_96 (k_X1_addLine 0 27 rfl)
theorem dX1_addLine_28 : decode cX1_addLine 28 = .ok (.iload_n 1, 1) := dz_27 (k_X1_addLine 0 28 rfl)
theorem dX1_addLine_29 : decode cX1_addLine 29 = .ok (.iastore, 1) := dz_79 (k_X1_addLine 0 29 rfl)
theorem dX1_addLine_30 : decode cX1_addLine 30 = .ok (.aload_n 0, 1) := dz_42 (k_X1_addLine 0 30 rfl)
theorem dX1_addLine_31 : decode cX1_addLine 31 = .ok (.getfield 38, 3) := dz_180 (k_X1_addLine 0 31 rfl) (k_X1_addLine 0 32 rfl) (k_X1_addLine 0 33 rfl) rfl
theorem dX1_addLine_34 : decode cX1_addLine 34 = .ok (.iload 7, 2) := dz_21 (k_X1_addLine 0 34 rfl) (k_X1_addLine 0 35 rfl)
theorem dX1_addLine_36 : decode cX1_addLine 36 = .ok (.iconst 1, 1) := dz_4 (k_X1_addLine 0 36 rfl)
theorem dX1_addLine_37 : decode cX1_addLine 37 = .ok (.iadd, 1) := dz_96 (k_X1_addLine 0 37 rfl)
theorem dX1_addLine_38 : decode cX1_addLine 38 = .ok (.iload_n 2, 1) := dz_28 (k_X1_addLine 0 38 rfl)
theorem dX1_addLine_39 : decode cX1_addLine 39 = .ok (.iastore, 1) := dz_79 (k_X1_addLine 0 39 rfl)
theorem dX1_addLine_40 : decode cX1_addLine 40 = .ok (.aload_n 0, 1) := dz_42 (k_X1_addLine 0 40 rfl)
theorem dX1_addLine_41 : decode cX1_addLine 41 = .ok (.getfield 38, 3) := dz_180 (k_X1_addLine 0 41 rfl) (k_X1_addLine 0 42 rfl) (k_X1_addLine 0 43 rfl) rfl
theorem dX1_addLine_44 : decode cX1_addLine 44 = .ok (.iload 7, 2) := dz_21 (k_X1_addLine 0 44 rfl) (k_X1_addLine 0 45 rfl)
theorem dX1_addLine_46 : decode cX1_addLine 46 = .ok (.iconst 2, 1) := dz_5 (k_X1_addLine 0 46 rfl)
theorem dX1_addLine_47 : decode cX1_addLine 47 = .ok (.iadd, 1) := dz_96 (k_X1_addLine 0 47 rfl)
theorem dX1_addLine_48 : decode cX1_addLine 48 = .ok (.iload_n 3, 1) := dz_29 (k_X1_addLine 0 48 rfl)
theorem dX1_addLine_49 : decode cX1_addLine 49 = .ok (.iastore, 1) := dz_79 (k_X1_addLine 0 49 rfl)
theorem dX1_addLine_50 : decode cX1_addLine 50 = .ok (.aload_n 0, 1) := dz_42 (k_X1_addLine 0 50 rfl)
theorem dX1_addLine_51 : decode cX1_addLine 51 = .ok (.getfield 38, 3) := dz_180 (k_X1_addLine 0 51 rfl) (k_X1_addLine 0 52 rfl) (k_X1_addLine 0 53 rfl) rfl
theorem dX1_addLine_54 : decode cX1_addLine 54 = .ok (.iload 7, 2) := dz_21 (k_X1_addLine 0 54 rfl) (k_X1_addLine 0 55 rfl)
theorem dX1_addLine_56 : decode cX1_addLine 56 = .ok (.iconst 3, 1) := dz_6 (k_X1_addLine 0 56 rfl)
theorem dX1_addLine_57 : decode cX1_addLine 57 = .ok (.iadd, 1) := dz_96 (k_X1_addLine 0 57 rfl)
theorem dX1_addLine_58 : decode cX1_addLine 58 = .ok (.iload 4, 2) := dz_21 (k_X1_addLine 0 58 rfl) (k_X1_addLine 0 59 rfl)
theorem dX1_addLine_60 : decode cX1_addLine 60 = .ok (.iastore, 1) := dz_79 (k_X1_addLine 0 60 rfl)
theorem dX1_addLine_61 : decode cX1_addLine 61 = .ok (.aload_n 0, 1) := dz_42 (k_X1_addLine 0 61 rfl)
theorem dX1_addLine_62 : decode cX1_addLine 62 = .ok (.getfield 38, 3) := dz_180 (k_X1_addLine 0 62 rfl) (k_X1_addLine 0 63 rfl) (k_X1_addLine 1 0 rfl) rfl
theorem dX1_addLine_65 : decode cX1_addLine 65 = .ok (.iload 7, 2) := dz_21 (k_X1_addLine 1 1 rfl) (k_X1_addLine 1 2 rfl)
theorem dX1_addLine_67 : decode cX1_addLine 67 = .ok (.iconst 3, 1) := dz_6 (k_X1_addLine 1 3 rfl)
theorem dX1_addLine_68 : decode cX1_addLine 68 = .ok (.iadd, 1) := dz_96 (k_X1_addLine 1 4 rfl)
theorem dX1_addLine_69 : decode cX1_addLine 69 = .ok (.iconst 1, 1) := dz_4 (k_X1_addLine 1 5 rfl)
theorem dX1_addLine_70 : decode cX1_addLine 70 = .ok (.iadd, 1) := dz_96 (k_X1_addLine 1 6 rfl)
theorem dX1_addLine_71 : decode cX1_addLine 71 = .ok (.iload 5, 2) := dz_21 (k_X1_addLine 1 7 rfl) (k_X1_addLine 1 8 rfl)
theorem dX1_addLine_73 : decode cX1_addLine 73 = .ok (.iastore, 1) := dz_79 (k_X1_addLine 1 9 rfl)
theorem dX1_addLine_74 : decode cX1_addLine 74 = .ok (.aload_n 0, 1) := dz_42 (k_X1_addLine 1 10 rfl)
theorem dX1_addLine_75 : decode cX1_addLine 75 = .ok (.getfield 38, 3) := dz_180 (k_X1_addLine 1 11 rfl) (k_X1_addLine 1 12 rfl) (k_X1_addLine 1 13 rfl) rfl
theorem dX1_addLine_78 : decode cX1_addLine 78 = .ok (.iload 7, 2) := dz_21 (k_X1_addLine 1 14 rfl) (k_X1_addLine 1 15 rfl)
theorem dX1_addLine_80 : decode cX1_addLine 80 = .ok (.iconst 3, 1) := dz_6 (k_X1_addLine 1 16 rfl)
theorem dX1_addLine_81 : decode cX1_addLine 81 = .ok (.iadd, 1) := dz_96 (k_X1_addLine 1 17 rfl)
theorem dX1_addLine_82 : decode cX1_addLine 82 = .ok (.iconst 2, 1) := dz_5 (k_X1_addLine 1 18 rfl)
theorem dX1_addLine_83 : decode cX1_addLine 83 = .ok (.iadd, 1) := dz_96 (k_X1_addLine 1 19 rfl)
theorem dX1_addLine_84 : decode cX1_addLine 84 = .ok (.iload 6, 2) := dz_21 (k_X1_addLine 1 20 rfl) (k_X1_addLine 1 21 rfl)
theorem dX1_addLine_86 : decode cX1_addLine 86 = .ok (.iastore, 1) := dz_79 (k_X1_addLine 1 22 rfl)
theorem dX1_addLine_87 : decode cX1_addLine 87 = .ok (.aload_n 0, 1) := dz_42 (k_X1_addLine 1 23 rfl)
theorem dX1_addLine_88 : decode cX1_addLine 88 = .ok (.dup, 1) := dz_89 (k_X1_addLine 1 24 rfl)
theorem dX1_addLine_89 : decode cX1_addLine 89 = .ok (.getfield 51, 3) := dz_180 (k_X1_addLine 1 25 rfl) (k_X1_addLine 1 26 rfl) (k_X1_addLine 1 27 rfl) rfl
theorem dX1_addLine_92 : decode cX1_addLine 92 = .ok (.iconst 1, 1) := dz_4 (k_X1_addLine 1 28 rfl)
theorem dX1_addLine_93 : decode cX1_addLine 93 = .ok (.iadd, 1) := dz_96 (k_X1_addLine 1 29 rfl)
theorem dX1_addLine_94 : decode cX1_addLine 94 = .ok (.putfield 51, 3) := dz_181 (k_X1_addLine 1 30 rfl) (k_X1_addLine 1 31 rfl) (k_X1_addLine 1 32 rfl) rfl
theorem dX1_addLine_97 : decode cX1_addLine 97 = .ok (.aload_n 0, 1) := dz_42 (k_X1_addLine 1 33 rfl)
theorem dX1_addLine_98 : decode cX1_addLine 98 = .ok (.aload_n 0, 1) := dz_42 (k_X1_addLine 1 34 rfl)
theorem dX1_addLine_99 : decode cX1_addLine 99 = .ok (.getfield 51, 3) := dz_180 (k_X1_addLine 1 35 rfl) (k_X1_addLine 1 36 rfl) (k_X1_addLine 1 37 rfl) rfl
theorem dX1_addLine_102 : decode cX1_addLine 102 = .ok (.iconst 1, 1) := dz_4 (k_X1_addLine 1 38 rfl)
theorem dX1_addLine_103 : decode cX1_addLine 103 = .ok (.isub, 1) := dz_100 (k_X1_addLine 1 39 rfl)
theorem dX1_addLine_104 : decode cX1_addLine 104 = .ok (.invokevirtual 86, 3) := dz_182 (k_X1_addLine 1 40 rfl) (k_X1_addLine 1 41 rfl) (k_X1_addLine 1 42 rfl) rfl
theorem dX1_addLine_107 : decode cX1_addLine 107 = .ok (.aload_n 0, 1) := dz_42 (k_X1_addLine 1 43 rfl)
theorem dX1_addLine_108 : decode cX1_addLine 108 = .ok (.getfield 51, 3) := dz_180 (k_X1_addLine 1 44 rfl) (k_X1_addLine 1 45 rfl) (k_X1_addLine 1 46 rfl) rfl
theorem dX1_addLine_111 : decode cX1_addLine 111 = .ok (.iconst 1, 1) := dz_4 (k_X1_addLine 1 47 rfl)
theorem dX1_addLine_112 : decode cX1_addLine 112 = .ok (.isub, 1) := dz_100 (k_X1_addLine 1 48 rfl)
theorem dX1_addLine_113 : decode cX1_addLine 113 = .ok (.ireturn, 1) := dz_172 (k_X1_addLine 1 49 rfl)
def B_X1_addReceipt : List (List Nat) := [[42, 180, 0, 54, 16, 30, 161, 0, 5, 2, 172, 42, 180, 0, 54, 7, 104, 54, 5, 42, 180, 0, 41, 21, 5, 3, 96, 27, 79, 42, 180, 0, 41, 21, 5, 4, 96, 28, 79, 42, 180, 0, 41, 21, 5, 5, 96, 29, 79, 42, 180, 0, 41, 21, 5, 6, 96, 21, 4, 79, 42, 89, 180, 0], [54, 90, 4, 96, 181, 0, 54, 172]]
theorem k_X1_addReceipt (j i : Nat) {b : Nat} (h : (B_X1_addReceipt[j]?.bind fun c => c[i]?) = some b) : s_by cX1_addReceipt (64 * j + i) b := s_byC (L := B_X1_addReceipt) (by decide +kernel) (by decide +kernel) j i h
theorem dX1_addReceipt_0 : decode cX1_addReceipt 0 = .ok (.aload_n 0, 1) := dz_42 (k_X1_addReceipt 0 0 rfl)
theorem dX1_addReceipt_1 : decode cX1_addReceipt 1 = .ok (.getfield 54, 3) := dz_180 (k_X1_addReceipt 0 1 rfl) (k_X1_addReceipt 0 2 rfl) (k_X1_addReceipt 0 3 rfl) rfl
theorem dX1_addReceipt_4 : decode cX1_addReceipt 4 = .ok (.bipush 30, 2) := dz_16 (k_X1_addReceipt 0 4 rfl) (k_X1_addReceipt 0 5 rfl) rfl
theorem dX1_addReceipt_6 : decode cX1_addReceipt 6 = .ok (.if_icmp .lt 5, 3) := dz_161 (k_X1_addReceipt 0 6 rfl) (k_X1_addReceipt 0 7 rfl) (k_X1_addReceipt 0 8 rfl) rfl
theorem dX1_addReceipt_9 : decode cX1_addReceipt 9 = .ok (.iconst (-1), 1) := dz_2 (k_X1_addReceipt 0 9 rfl)
theorem dX1_addReceipt_10 : decode cX1_addReceipt 10 = .ok (.ireturn, 1) := dz_172 (k_X1_addReceipt 0 10 rfl)
theorem dX1_addReceipt_11 : decode cX1_addReceipt 11 = .ok (.aload_n 0, 1) := dz_42 (k_X1_addReceipt 0 11 rfl)
theorem dX1_addReceipt_12 : decode cX1_addReceipt 12 = .ok (.getfield 54, 3) := dz_180 (k_X1_addReceipt 0 12 rfl) (k_X1_addReceipt 0 13 rfl) (k_X1_addReceipt 0 14 rfl) rfl
theorem dX1_addReceipt_15 : decode cX1_addReceipt 15 = .ok (.iconst 4, 1) := dz_7 (k_X1_addReceipt 0 15 rfl)
theorem dX1_addReceipt_16 : decode cX1_addReceipt 16 = .ok (.imul, 1) := dz_104 (k_X1_addReceipt 0 16 rfl)
theorem dX1_addReceipt_17 : decode cX1_addReceipt 17 = .ok (.istore 5, 2) := dz_54 (k_X1_addReceipt 0 17 rfl) (k_X1_addReceipt 0 18 rfl)
theorem dX1_addReceipt_19 : decode cX1_addReceipt 19 = .ok (.aload_n 0, 1) := dz_42 (k_X1_addReceipt 0 19 rfl)
theorem dX1_addReceipt_20 : decode cX1_addReceipt 20 = .ok (.getfield 41, 3) := dz_180 (k_X1_addReceipt 0 20 rfl) (k_X1_addReceipt 0 21 rfl) (k_X1_addReceipt 0 22 rfl) rfl
theorem dX1_addReceipt_23 : decode cX1_addReceipt 23 = .ok (.iload 5, 2) := dz_21 (k_X1_addReceipt 0 23 rfl) (k_X1_addReceipt 0 24 rfl)
theorem dX1_addReceipt_25 : decode cX1_addReceipt 25 = .ok (.iconst 0, 1) := dz_3 (k_X1_addReceipt 0 25 rfl)
theorem dX1_addReceipt_26 : decode cX1_addReceipt 26 = .ok (.iadd, 1) := dz_96 (k_X1_addReceipt 0 26 rfl)
theorem dX1_addReceipt_27 : decode cX1_addReceipt 27 = .ok (.iload_n 1, 1) := dz_27 (k_X1_addReceipt 0 27 rfl)
theorem dX1_addReceipt_28 : decode cX1_addReceipt 28 = .ok (.iastore, 1) := dz_79 (k_X1_addReceipt 0 28 rfl)
theorem dX1_addReceipt_29 : decode cX1_addReceipt 29 = .ok (.aload_n 0, 1) := dz_42 (k_X1_addReceipt 0 29 rfl)
theorem dX1_addReceipt_30 : decode cX1_addReceipt 30 = .ok (.getfield 41, 3) := dz_180 (k_X1_addReceipt 0 30 rfl) (k_X1_addReceipt 0 31 rfl) (k_X1_addReceipt 0 32 rfl) rfl
theorem dX1_addReceipt_33 : decode cX1_addReceipt 33 = .ok (.iload 5, 2) := dz_21 (k_X1_addReceipt 0 33 rfl) (k_X1_addReceipt 0 34 rfl)
theorem dX1_addReceipt_35 : decode cX1_addReceipt 35 = .ok (.iconst 1, 1) := dz_4 (k_X1_addReceipt 0 35 rfl)
theorem dX1_addReceipt_36 : decode cX1_addReceipt 36 = .ok (.iadd, 1) := dz_96 (k_X1_addReceipt 0 36 rfl)
theorem dX1_addReceipt_37 : decode cX1_addReceipt 37 = .ok (.iload_n 2, 1) := dz_28 (k_X1_addReceipt 0 37 rfl)
theorem dX1_addReceipt_38 : decode cX1_addReceipt 38 = .ok (.iastore, 1) := dz_79 (k_X1_addReceipt 0 38 rfl)
theorem dX1_addReceipt_39 : decode cX1_addReceipt 39 = .ok (.aload_n 0, 1) := dz_42 (k_X1_addReceipt 0 39 rfl)
theorem dX1_addReceipt_40 : decode cX1_addReceipt 40 = .ok (.getfield 41, 3) := dz_180 (k_X1_addReceipt 0 40 rfl) (k_X1_addReceipt 0 41 rfl) (k_X1_addReceipt 0 42 rfl) rfl
theorem dX1_addReceipt_43 : decode cX1_addReceipt 43 = .ok (.iload 5, 2) := dz_21 (k_X1_addReceipt 0 43 rfl) (k_X1_addReceipt 0 44 rfl)
theorem dX1_addReceipt_45 : decode cX1_addReceipt 45 = .ok (.iconst 2, 1) := dz_5 (k_X1_addReceipt 0 45 rfl)
theorem dX1_addReceipt_46 : decode cX1_addReceipt 46 = .ok (.iadd, 1) := dz_96 (k_X1_addReceipt 0 46 rfl)
theorem dX1_addReceipt_47 : decode cX1_addReceipt 47 = .ok (.iload_n 3, 1) := dz_29 (k_X1_addReceipt 0 47 rfl)
theorem dX1_addReceipt_48 : decode cX1_addReceipt 48 = .ok (.iastore, 1) := dz_79 (k_X1_addReceipt 0 48 rfl)
theorem dX1_addReceipt_49 : decode cX1_addReceipt 49 = .ok (.aload_n 0, 1) := dz_42 (k_X1_addReceipt 0 49 rfl)
theorem dX1_addReceipt_50 : decode cX1_addReceipt 50 = .ok (.getfield 41, 3) := dz_180 (k_X1_addReceipt 0 50 rfl) (k_X1_addReceipt 0 51 rfl) (k_X1_addReceipt 0 52 rfl) rfl
theorem dX1_addReceipt_53 : decode cX1_addReceipt 53 = .ok (.iload 5, 2) := dz_21 (k_X1_addReceipt 0 53 rfl) (k_X1_addReceipt 0 54 rfl)
theorem dX1_addReceipt_55 : decode cX1_addReceipt 55 = .ok (.iconst 3, 1) := dz_6 (k_X1_addReceipt 0 55 rfl)
theorem dX1_addReceipt_56 : decode cX1_addReceipt 56 = .ok (.iadd, 1) := dz_96 (k_X1_addReceipt 0 56 rfl)
theorem dX1_addReceipt_57 : decode cX1_addReceipt 57 = .ok (.iload 4, 2) := dz_21 (k_X1_addReceipt 0 57 rfl) (k_X1_addReceipt 0 58 rfl)
theorem dX1_addReceipt_59 : decode cX1_addReceipt 59 = .ok (.iastore, 1) := dz_79 (k_X1_addReceipt 0 59 rfl)
theorem dX1_addReceipt_60 : decode cX1_addReceipt 60 = .ok (.aload_n 0, 1) := dz_42 (k_X1_addReceipt 0 60 rfl)
theorem dX1_addReceipt_61 : decode cX1_addReceipt 61 = .ok (.dup, 1) := dz_89 (k_X1_addReceipt 0 61 rfl)
theorem dX1_addReceipt_62 : decode cX1_addReceipt 62 = .ok (.getfield 54, 3) := dz_180 (k_X1_addReceipt 0 62 rfl) (k_X1_addReceipt 0 63 rfl) (k_X1_addReceipt 1 0 rfl) rfl
theorem dX1_addReceipt_65 : decode cX1_addReceipt 65 = .ok (.dup_x1, 1) := dz_90 (k_X1_addReceipt 1 1 rfl)
theorem dX1_addReceipt_66 : decode cX1_addReceipt 66 = .ok (.iconst 1, 1) := dz_4 (k_X1_addReceipt 1 2 rfl)
theorem dX1_addReceipt_67 : decode cX1_addReceipt 67 = .ok (.iadd, 1) := dz_96 (k_X1_addReceipt 1 3 rfl)
theorem dX1_addReceipt_68 : decode cX1_addReceipt 68 = .ok (.putfield 54, 3) := dz_181 (k_X1_addReceipt 1 4 rfl) (k_X1_addReceipt 1 5 rfl) (k_X1_addReceipt 1 6 rfl) rfl
theorem dX1_addReceipt_71 : decode cX1_addReceipt 71 = .ok (.ireturn, 1) := dz_172 (k_X1_addReceipt 1 7 rfl)
def B_X1_costOf : List (List Nat) := [[42, 27, 28, 182, 0, 82, 29, 42, 27, 16, 16, 182, 0, 82, 104, 96, 172]]
theorem k_X1_costOf (j i : Nat) {b : Nat} (h : (B_X1_costOf[j]?.bind fun c => c[i]?) = some b) : s_by cX1_costOf (64 * j + i) b := s_byC (L := B_X1_costOf) (by decide +kernel) (by decide +kernel) j i h
theorem dX1_costOf_0 : decode cX1_costOf 0 = .ok (.aload_n 0, 1) := dz_42 (k_X1_costOf 0 0 rfl)
theorem dX1_costOf_1 : decode cX1_costOf 1 = .ok (.iload_n 1, 1) := dz_27 (k_X1_costOf 0 1 rfl)
theorem dX1_costOf_2 : decode cX1_costOf 2 = .ok (.iload_n 2, 1) := dz_28 (k_X1_costOf 0 2 rfl)
theorem dX1_costOf_3 : decode cX1_costOf 3 = .ok (.invokevirtual 82, 3) := dz_182 (k_X1_costOf 0 3 rfl) (k_X1_costOf 0 4 rfl) (k_X1_costOf 0 5 rfl) rfl
theorem dX1_costOf_6 : decode cX1_costOf 6 = .ok (.iload_n 3, 1) := dz_29 (k_X1_costOf 0 6 rfl)
theorem dX1_costOf_7 : decode cX1_costOf 7 = .ok (.aload_n 0, 1) := dz_42 (k_X1_costOf 0 7 rfl)
theorem dX1_costOf_8 : decode cX1_costOf 8 = .ok (.iload_n 1, 1) := dz_27 (k_X1_costOf 0 8 rfl)
theorem dX1_costOf_9 : decode cX1_costOf 9 = .ok (.bipush 16, 2) := dz_16 (k_X1_costOf 0 9 rfl) (k_X1_costOf 0 10 rfl) rfl
theorem dX1_costOf_11 : decode cX1_costOf 11 = .ok (.invokevirtual 82, 3) := dz_182 (k_X1_costOf 0 11 rfl) (k_X1_costOf 0 12 rfl) (k_X1_costOf 0 13 rfl) rfl
theorem dX1_costOf_14 : decode cX1_costOf 14 = .ok (.imul, 1) := dz_104 (k_X1_costOf 0 14 rfl)
theorem dX1_costOf_15 : decode cX1_costOf 15 = .ok (.iadd, 1) := dz_96 (k_X1_costOf 0 15 rfl)
theorem dX1_costOf_16 : decode cX1_costOf 16 = .ok (.ireturn, 1) := dz_172 (k_X1_costOf 0 16 rfl)
def B_X1_hasRule : List (List Nat) := [[27, 155, 0, 25, 27, 6, 162, 0, 20, 42, 180, 0, 19, 27, 46, 28, 122, 4, 126, 153, 0, 7, 4, 167, 0, 4, 3, 172]]
theorem k_X1_hasRule (j i : Nat) {b : Nat} (h : (B_X1_hasRule[j]?.bind fun c => c[i]?) = some b) : s_by cX1_hasRule (64 * j + i) b := s_byC (L := B_X1_hasRule) (by decide +kernel) (by decide +kernel) j i h
theorem dX1_hasRule_0 : decode cX1_hasRule 0 = .ok (.iload_n 1, 1) := dz_27 (k_X1_hasRule 0 0 rfl)
theorem dX1_hasRule_1 : decode cX1_hasRule 1 = .ok (.ifCond .lt 25, 3) := dz_155 (k_X1_hasRule 0 1 rfl) (k_X1_hasRule 0 2 rfl) (k_X1_hasRule 0 3 rfl) rfl
theorem dX1_hasRule_4 : decode cX1_hasRule 4 = .ok (.iload_n 1, 1) := dz_27 (k_X1_hasRule 0 4 rfl)
theorem dX1_hasRule_5 : decode cX1_hasRule 5 = .ok (.iconst 3, 1) := dz_6 (k_X1_hasRule 0 5 rfl)
theorem dX1_hasRule_6 : decode cX1_hasRule 6 = .ok (.if_icmp .ge 20, 3) := dz_162 (k_X1_hasRule 0 6 rfl) (k_X1_hasRule 0 7 rfl) (k_X1_hasRule 0 8 rfl) rfl
theorem dX1_hasRule_9 : decode cX1_hasRule 9 = .ok (.aload_n 0, 1) := dz_42 (k_X1_hasRule 0 9 rfl)
theorem dX1_hasRule_10 : decode cX1_hasRule 10 = .ok (.getfield 19, 3) := dz_180 (k_X1_hasRule 0 10 rfl) (k_X1_hasRule 0 11 rfl) (k_X1_hasRule 0 12 rfl) rfl
theorem dX1_hasRule_13 : decode cX1_hasRule 13 = .ok (.iload_n 1, 1) := dz_27 (k_X1_hasRule 0 13 rfl)
theorem dX1_hasRule_14 : decode cX1_hasRule 14 = .ok (.iaload, 1) := dz_46 (k_X1_hasRule 0 14 rfl)
theorem dX1_hasRule_15 : decode cX1_hasRule 15 = .ok (.iload_n 2, 1) := dz_28 (k_X1_hasRule 0 15 rfl)
theorem dX1_hasRule_16 : decode cX1_hasRule 16 = .ok (.ishr, 1) := dz_122 (k_X1_hasRule 0 16 rfl)
theorem dX1_hasRule_17 : decode cX1_hasRule 17 = .ok (.iconst 1, 1) := dz_4 (k_X1_hasRule 0 17 rfl)
theorem dX1_hasRule_18 : decode cX1_hasRule 18 = .ok (.iand, 1) := dz_126 (k_X1_hasRule 0 18 rfl)
theorem dX1_hasRule_19 : decode cX1_hasRule 19 = .ok (.ifCond .eq 7, 3) := dz_153 (k_X1_hasRule 0 19 rfl) (k_X1_hasRule 0 20 rfl) (k_X1_hasRule 0 21 rfl) rfl
theorem dX1_hasRule_22 : decode cX1_hasRule 22 = .ok (.iconst 1, 1) := dz_4 (k_X1_hasRule 0 22 rfl)
theorem dX1_hasRule_23 : decode cX1_hasRule 23 = .ok (.goto 4, 3) := dz_167 (k_X1_hasRule 0 23 rfl) (k_X1_hasRule 0 24 rfl) (k_X1_hasRule 0 25 rfl) rfl
theorem dX1_hasRule_26 : decode cX1_hasRule 26 = .ok (.iconst 0, 1) := dz_3 (k_X1_hasRule 0 26 rfl)
theorem dX1_hasRule_27 : decode cX1_hasRule 27 = .ok (.ireturn, 1) := dz_172 (k_X1_hasRule 0 27 rfl)
def B_X1_init : List (List Nat) := [[42, 183, 0, 3, 42, 5, 181, 0, 9, 42, 17, 1, 224, 188, 11, 181, 0, 15, 42, 6, 188, 10, 181, 0, 19, 42, 7, 188, 10, 181, 0, 23, 42, 16, 40, 188, 11, 181, 0, 26, 42, 16, 40, 188, 11, 181, 0, 29, 42, 16, 30, 188, 10, 181, 0, 32, 42, 16, 51, 188, 10, 181, 0, 35], [42, 17, 0, 240, 188, 10, 181, 0, 38, 42, 16, 120, 188, 10, 181, 0, 41, 3, 60, 27, 6, 162, 0, 54, 42, 180, 0, 19, 27, 18, 44, 79, 3, 61, 28, 16, 17, 162, 0, 32, 42, 180, 0, 35, 27, 16, 17, 104, 28, 96, 28, 16, 16, 160, 0, 7, 4, 167, 0, 5, 16, 10, 79, 132], [2, 1, 167, 255, 224, 132, 1, 1, 167, 255, 203, 177]]
theorem k_X1_init (j i : Nat) {b : Nat} (h : (B_X1_init[j]?.bind fun c => c[i]?) = some b) : s_by cX1_init (64 * j + i) b := s_byC (L := B_X1_init) (by decide +kernel) (by decide +kernel) j i h
theorem dX1_init_0 : decode cX1_init 0 = .ok (.aload_n 0, 1) := dz_42 (k_X1_init 0 0 rfl)
theorem dX1_init_1 : decode cX1_init 1 = .ok (.invokespecial 3, 3) := dz_183 (k_X1_init 0 1 rfl) (k_X1_init 0 2 rfl) (k_X1_init 0 3 rfl) rfl
theorem dX1_init_4 : decode cX1_init 4 = .ok (.aload_n 0, 1) := dz_42 (k_X1_init 0 4 rfl)
theorem dX1_init_5 : decode cX1_init 5 = .ok (.iconst 2, 1) := dz_5 (k_X1_init 0 5 rfl)
theorem dX1_init_6 : decode cX1_init 6 = .ok (.putfield 9, 3) := dz_181 (k_X1_init 0 6 rfl) (k_X1_init 0 7 rfl) (k_X1_init 0 8 rfl) rfl
theorem dX1_init_9 : decode cX1_init 9 = .ok (.aload_n 0, 1) := dz_42 (k_X1_init 0 9 rfl)
theorem dX1_init_10 : decode cX1_init 10 = .ok (.sipush 480, 3) := dz_17 (k_X1_init 0 10 rfl) (k_X1_init 0 11 rfl) (k_X1_init 0 12 rfl) rfl
theorem dX1_init_13 : decode cX1_init 13 = .ok (.newarray .long, 2) := by decide +kernel
theorem dX1_init_15 : decode cX1_init 15 = .ok (.putfield 15, 3) := dz_181 (k_X1_init 0 15 rfl) (k_X1_init 0 16 rfl) (k_X1_init 0 17 rfl) rfl
theorem dX1_init_18 : decode cX1_init 18 = .ok (.aload_n 0, 1) := dz_42 (k_X1_init 0 18 rfl)
theorem dX1_init_19 : decode cX1_init 19 = .ok (.iconst 3, 1) := dz_6 (k_X1_init 0 19 rfl)
theorem dX1_init_20 : decode cX1_init 20 = .ok (.newarray .int, 2) := by decide +kernel
theorem dX1_init_22 : decode cX1_init 22 = .ok (.putfield 19, 3) := dz_181 (k_X1_init 0 22 rfl) (k_X1_init 0 23 rfl) (k_X1_init 0 24 rfl) rfl
theorem dX1_init_25 : decode cX1_init 25 = .ok (.aload_n 0, 1) := dz_42 (k_X1_init 0 25 rfl)
theorem dX1_init_26 : decode cX1_init 26 = .ok (.iconst 4, 1) := dz_7 (k_X1_init 0 26 rfl)
theorem dX1_init_27 : decode cX1_init 27 = .ok (.newarray .int, 2) := by decide +kernel
theorem dX1_init_29 : decode cX1_init 29 = .ok (.putfield 23, 3) := dz_181 (k_X1_init 0 29 rfl) (k_X1_init 0 30 rfl) (k_X1_init 0 31 rfl) rfl
theorem dX1_init_32 : decode cX1_init 32 = .ok (.aload_n 0, 1) := dz_42 (k_X1_init 0 32 rfl)
theorem dX1_init_33 : decode cX1_init 33 = .ok (.bipush 40, 2) := dz_16 (k_X1_init 0 33 rfl) (k_X1_init 0 34 rfl) rfl
theorem dX1_init_35 : decode cX1_init 35 = .ok (.newarray .long, 2) := by decide +kernel
theorem dX1_init_37 : decode cX1_init 37 = .ok (.putfield 26, 3) := dz_181 (k_X1_init 0 37 rfl) (k_X1_init 0 38 rfl) (k_X1_init 0 39 rfl) rfl
theorem dX1_init_40 : decode cX1_init 40 = .ok (.aload_n 0, 1) := dz_42 (k_X1_init 0 40 rfl)
theorem dX1_init_41 : decode cX1_init 41 = .ok (.bipush 40, 2) := dz_16 (k_X1_init 0 41 rfl) (k_X1_init 0 42 rfl) rfl
theorem dX1_init_43 : decode cX1_init 43 = .ok (.newarray .long, 2) := by decide +kernel
theorem dX1_init_45 : decode cX1_init 45 = .ok (.putfield 29, 3) := dz_181 (k_X1_init 0 45 rfl) (k_X1_init 0 46 rfl) (k_X1_init 0 47 rfl) rfl
theorem dX1_init_48 : decode cX1_init 48 = .ok (.aload_n 0, 1) := dz_42 (k_X1_init 0 48 rfl)
theorem dX1_init_49 : decode cX1_init 49 = .ok (.bipush 30, 2) := dz_16 (k_X1_init 0 49 rfl) (k_X1_init 0 50 rfl) rfl
theorem dX1_init_51 : decode cX1_init 51 = .ok (.newarray .int, 2) := by decide +kernel
theorem dX1_init_53 : decode cX1_init 53 = .ok (.putfield 32, 3) := dz_181 (k_X1_init 0 53 rfl) (k_X1_init 0 54 rfl) (k_X1_init 0 55 rfl) rfl
theorem dX1_init_56 : decode cX1_init 56 = .ok (.aload_n 0, 1) := dz_42 (k_X1_init 0 56 rfl)
theorem dX1_init_57 : decode cX1_init 57 = .ok (.bipush 51, 2) := dz_16 (k_X1_init 0 57 rfl) (k_X1_init 0 58 rfl) rfl
theorem dX1_init_59 : decode cX1_init 59 = .ok (.newarray .int, 2) := by decide +kernel
theorem dX1_init_61 : decode cX1_init 61 = .ok (.putfield 35, 3) := dz_181 (k_X1_init 0 61 rfl) (k_X1_init 0 62 rfl) (k_X1_init 0 63 rfl) rfl
theorem dX1_init_64 : decode cX1_init 64 = .ok (.aload_n 0, 1) := dz_42 (k_X1_init 1 0 rfl)
theorem dX1_init_65 : decode cX1_init 65 = .ok (.sipush 240, 3) := dz_17 (k_X1_init 1 1 rfl) (k_X1_init 1 2 rfl) (k_X1_init 1 3 rfl) rfl
theorem dX1_init_68 : decode cX1_init 68 = .ok (.newarray .int, 2) := by decide +kernel
theorem dX1_init_70 : decode cX1_init 70 = .ok (.putfield 38, 3) := dz_181 (k_X1_init 1 6 rfl) (k_X1_init 1 7 rfl) (k_X1_init 1 8 rfl) rfl
theorem dX1_init_73 : decode cX1_init 73 = .ok (.aload_n 0, 1) := dz_42 (k_X1_init 1 9 rfl)
theorem dX1_init_74 : decode cX1_init 74 = .ok (.bipush 120, 2) := dz_16 (k_X1_init 1 10 rfl) (k_X1_init 1 11 rfl) rfl
theorem dX1_init_76 : decode cX1_init 76 = .ok (.newarray .int, 2) := by decide +kernel
theorem dX1_init_78 : decode cX1_init 78 = .ok (.putfield 41, 3) := dz_181 (k_X1_init 1 14 rfl) (k_X1_init 1 15 rfl) (k_X1_init 1 16 rfl) rfl
theorem dX1_init_81 : decode cX1_init 81 = .ok (.iconst 0, 1) := dz_3 (k_X1_init 1 17 rfl)
theorem dX1_init_82 : decode cX1_init 82 = .ok (.istore_n 1, 1) := dz_60 (k_X1_init 1 18 rfl)
theorem dX1_init_83 : decode cX1_init 83 = .ok (.iload_n 1, 1) := dz_27 (k_X1_init 1 19 rfl)
theorem dX1_init_84 : decode cX1_init 84 = .ok (.iconst 3, 1) := dz_6 (k_X1_init 1 20 rfl)
theorem dX1_init_85 : decode cX1_init 85 = .ok (.if_icmp .ge 54, 3) := dz_162 (k_X1_init 1 21 rfl) (k_X1_init 1 22 rfl) (k_X1_init 1 23 rfl) rfl
theorem dX1_init_88 : decode cX1_init 88 = .ok (.aload_n 0, 1) := dz_42 (k_X1_init 1 24 rfl)
theorem dX1_init_89 : decode cX1_init 89 = .ok (.getfield 19, 3) := dz_180 (k_X1_init 1 25 rfl) (k_X1_init 1 26 rfl) (k_X1_init 1 27 rfl) rfl
theorem dX1_init_92 : decode cX1_init 92 = .ok (.iload_n 1, 1) := dz_27 (k_X1_init 1 28 rfl)
theorem dX1_init_93 : decode cX1_init 93 = .ok (.ldc 44, 2) := dz_18 (k_X1_init 1 29 rfl) (k_X1_init 1 30 rfl)
theorem dX1_init_95 : decode cX1_init 95 = .ok (.iastore, 1) := dz_79 (k_X1_init 1 31 rfl)
theorem dX1_init_96 : decode cX1_init 96 = .ok (.iconst 0, 1) := dz_3 (k_X1_init 1 32 rfl)
theorem dX1_init_97 : decode cX1_init 97 = .ok (.istore_n 2, 1) := dz_61 (k_X1_init 1 33 rfl)
theorem dX1_init_98 : decode cX1_init 98 = .ok (.iload_n 2, 1) := dz_28 (k_X1_init 1 34 rfl)
theorem dX1_init_99 : decode cX1_init 99 = .ok (.bipush 17, 2) := dz_16 (k_X1_init 1 35 rfl) (k_X1_init 1 36 rfl) rfl
theorem dX1_init_101 : decode cX1_init 101 = .ok (.if_icmp .ge 32, 3) := dz_162 (k_X1_init 1 37 rfl) (k_X1_init 1 38 rfl) (k_X1_init 1 39 rfl) rfl
theorem dX1_init_104 : decode cX1_init 104 = .ok (.aload_n 0, 1) := dz_42 (k_X1_init 1 40 rfl)
theorem dX1_init_105 : decode cX1_init 105 = .ok (.getfield 35, 3) := dz_180 (k_X1_init 1 41 rfl) (k_X1_init 1 42 rfl) (k_X1_init 1 43 rfl) rfl
theorem dX1_init_108 : decode cX1_init 108 = .ok (.iload_n 1, 1) := dz_27 (k_X1_init 1 44 rfl)
theorem dX1_init_109 : decode cX1_init 109 = .ok (.bipush 17, 2) := dz_16 (k_X1_init 1 45 rfl) (k_X1_init 1 46 rfl) rfl
theorem dX1_init_111 : decode cX1_init 111 = .ok (.imul, 1) := dz_104 (k_X1_init 1 47 rfl)
theorem dX1_init_112 : decode cX1_init 112 = .ok (.iload_n 2, 1) := dz_28 (k_X1_init 1 48 rfl)
theorem dX1_init_113 : decode cX1_init 113 = .ok (.iadd, 1) := dz_96 (k_X1_init 1 49 rfl)
theorem dX1_init_114 : decode cX1_init 114 = .ok (.iload_n 2, 1) := dz_28 (k_X1_init 1 50 rfl)
theorem dX1_init_115 : decode cX1_init 115 = .ok (.bipush 16, 2) := dz_16 (k_X1_init 1 51 rfl) (k_X1_init 1 52 rfl) rfl
theorem dX1_init_117 : decode cX1_init 117 = .ok (.if_icmp .ne 7, 3) := dz_160 (k_X1_init 1 53 rfl) (k_X1_init 1 54 rfl) (k_X1_init 1 55 rfl) rfl
theorem dX1_init_120 : decode cX1_init 120 = .ok (.iconst 1, 1) := dz_4 (k_X1_init 1 56 rfl)
theorem dX1_init_121 : decode cX1_init 121 = .ok (.goto 5, 3) := dz_167 (k_X1_init 1 57 rfl) (k_X1_init 1 58 rfl) (k_X1_init 1 59 rfl) rfl
theorem dX1_init_124 : decode cX1_init 124 = .ok (.bipush 10, 2) := dz_16 (k_X1_init 1 60 rfl) (k_X1_init 1 61 rfl) rfl
theorem dX1_init_126 : decode cX1_init 126 = .ok (.iastore, 1) := dz_79 (k_X1_init 1 62 rfl)
theorem dX1_init_127 : decode cX1_init 127 = .ok (.iinc 2 1, 3) := dz_132 (k_X1_init 1 63 rfl) (k_X1_init 2 0 rfl) (k_X1_init 2 1 rfl) rfl
theorem dX1_init_130 : decode cX1_init 130 = .ok (.goto (-32), 3) := dz_167 (k_X1_init 2 2 rfl) (k_X1_init 2 3 rfl) (k_X1_init 2 4 rfl) rfl
theorem dX1_init_133 : decode cX1_init 133 = .ok (.iinc 1 1, 3) := dz_132 (k_X1_init 2 5 rfl) (k_X1_init 2 6 rfl) (k_X1_init 2 7 rfl) rfl
theorem dX1_init_136 : decode cX1_init 136 = .ok (.goto (-53), 3) := dz_167 (k_X1_init 2 8 rfl) (k_X1_init 2 9 rfl) (k_X1_init 2 10 rfl) rfl
theorem dX1_init_139 : decode cX1_init 139 = .ok (.return_, 1) := dz_177 (k_X1_init 2 11 rfl)
