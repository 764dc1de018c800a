def B_X7_agree : List (List Nat) := [[42, 27, 182, 0, 171, 42, 28, 182, 0, 171, 42, 180, 0, 40, 42, 180, 0, 19, 180, 0, 174, 27, 46, 42, 180, 0, 19, 180, 0, 174, 28, 46, 128, 182, 1, 5, 172]]
theorem k_X7_agree (j i : Nat) {b : Nat} (h : (B_X7_agree[j]?.bind fun c => c[i]?) = some b) : s_by cX7_agree (64 * j + i) b := s_byC (L := B_X7_agree) (by decide +kernel) (by decide +kernel) j i h
theorem dX7_agree_0 : decode cX7_agree 0 = .ok (.aload_n 0, 1) := dz_42 (k_X7_agree 0 0 rfl)
theorem dX7_agree_1 : decode cX7_agree 1 = .ok (.iload_n 1, 1) := dz_27 (k_X7_agree 0 1 rfl)
theorem dX7_agree_2 : decode cX7_agree 2 = .ok (.invokevirtual 171, 3) := dz_182 (k_X7_agree 0 2 rfl) (k_X7_agree 0 3 rfl) (k_X7_agree 0 4 rfl) rfl
theorem dX7_agree_5 : decode cX7_agree 5 = .ok (.aload_n 0, 1) := dz_42 (k_X7_agree 0 5 rfl)
theorem dX7_agree_6 : decode cX7_agree 6 = .ok (.iload_n 2, 1) := dz_28 (k_X7_agree 0 6 rfl)
theorem dX7_agree_7 : decode cX7_agree 7 = .ok (.invokevirtual 171, 3) := dz_182 (k_X7_agree 0 7 rfl) (k_X7_agree 0 8 rfl) (k_X7_agree 0 9 rfl) rfl
theorem dX7_agree_10 : decode cX7_agree 10 = .ok (.aload_n 0, 1) := dz_42 (k_X7_agree 0 10 rfl)
theorem dX7_agree_11 : decode cX7_agree 11 = .ok (.getfield 40, 3) := dz_180 (k_X7_agree 0 11 rfl) (k_X7_agree 0 12 rfl) (k_X7_agree 0 13 rfl) rfl
theorem dX7_agree_14 : decode cX7_agree 14 = .ok (.aload_n 0, 1) := dz_42 (k_X7_agree 0 14 rfl)
theorem dX7_agree_15 : decode cX7_agree 15 = .ok (.getfield 19, 3) := dz_180 (k_X7_agree 0 15 rfl) (k_X7_agree 0 16 rfl) (k_X7_agree 0 17 rfl) rfl
theorem dX7_agree_18 : decode cX7_agree 18 = .ok (.getfield 174, 3) := dz_180 (k_X7_agree 0 18 rfl) (k_X7_agree 0 19 rfl) (k_X7_agree 0 20 rfl) rfl
theorem dX7_agree_21 : decode cX7_agree 21 = .ok (.iload_n 1, 1) := dz_27 (k_X7_agree 0 21 rfl)
theorem dX7_agree_22 : decode cX7_agree 22 = .ok (.iaload, 1) := dz_46 (k_X7_agree 0 22 rfl)
theorem dX7_agree_23 : decode cX7_agree 23 = .ok (.aload_n 0, 1) := dz_42 (k_X7_agree 0 23 rfl)
theorem dX7_agree_24 : decode cX7_agree 24 = .ok (.getfield 19, 3) := dz_180 (k_X7_agree 0 24 rfl) (k_X7_agree 0 25 rfl) (k_X7_agree 0 26 rfl) rfl
theorem dX7_agree_27 : decode cX7_agree 27 = .ok (.getfield 174, 3) := dz_180 (k_X7_agree 0 27 rfl) (k_X7_agree 0 28 rfl) (k_X7_agree 0 29 rfl) rfl
theorem dX7_agree_30 : decode cX7_agree 30 = .ok (.iload_n 2, 1) := dz_28 (k_X7_agree 0 30 rfl)
theorem dX7_agree_31 : decode cX7_agree 31 = .ok (.iaload, 1) := dz_46 (k_X7_agree 0 31 rfl)
theorem dX7_agree_32 : decode cX7_agree 32 = .ok (.ior, 1) := dz_128 (k_X7_agree 0 32 rfl)
theorem dX7_agree_33 : decode cX7_agree 33 = .ok (.invokevirtual 261, 3) := dz_182 (k_X7_agree 0 33 rfl) (k_X7_agree 0 34 rfl) (k_X7_agree 0 35 rfl) rfl
theorem dX7_agree_36 : decode cX7_agree 36 = .ok (.ireturn, 1) := dz_172 (k_X7_agree 0 36 rfl)
def B_X7_alike : List (List Nat) := [[42, 27, 182, 0, 128, 42, 180, 0, 40, 27, 182, 1, 17, 172]]
theorem k_X7_alike (j i : Nat) {b : Nat} (h : (B_X7_alike[j]?.bind fun c => c[i]?) = some b) : s_by cX7_alike (64 * j + i) b := s_byC (L := B_X7_alike) (by decide +kernel) (by decide +kernel) j i h
theorem dX7_alike_0 : decode cX7_alike 0 = .ok (.aload_n 0, 1) := dz_42 (k_X7_alike 0 0 rfl)
theorem dX7_alike_1 : decode cX7_alike 1 = .ok (.iload_n 1, 1) := dz_27 (k_X7_alike 0 1 rfl)
theorem dX7_alike_2 : decode cX7_alike 2 = .ok (.invokevirtual 128, 3) := dz_182 (k_X7_alike 0 2 rfl) (k_X7_alike 0 3 rfl) (k_X7_alike 0 4 rfl) rfl
theorem dX7_alike_5 : decode cX7_alike 5 = .ok (.aload_n 0, 1) := dz_42 (k_X7_alike 0 5 rfl)
theorem dX7_alike_6 : decode cX7_alike 6 = .ok (.getfield 40, 3) := dz_180 (k_X7_alike 0 6 rfl) (k_X7_alike 0 7 rfl) (k_X7_alike 0 8 rfl) rfl
theorem dX7_alike_9 : decode cX7_alike 9 = .ok (.iload_n 1, 1) := dz_27 (k_X7_alike 0 9 rfl)
theorem dX7_alike_10 : decode cX7_alike 10 = .ok (.invokevirtual 273, 3) := dz_182 (k_X7_alike 0 10 rfl) (k_X7_alike 0 11 rfl) (k_X7_alike 0 12 rfl) rfl
theorem dX7_alike_13 : decode cX7_alike 13 = .ok (.ireturn, 1) := dz_172 (k_X7_alike 0 13 rfl)
def B_X7_areInOrder : List (List Nat) := [[26, 154, 0, 19, 28, 2, 160, 0, 12, 29, 2, 160, 0, 7, 4, 167, 0, 4, 3, 172, 27, 2, 160, 0, 8, 28, 2, 160, 0, 17, 28, 2, 160, 0, 8, 29, 2, 160, 0, 7, 4, 167, 0, 4, 3, 172]]
theorem k_X7_areInOrder (j i : Nat) {b : Nat} (h : (B_X7_areInOrder[j]?.bind fun c => c[i]?) = some b) : s_by cX7_areInOrder (64 * j + i) b := s_byC (L := B_X7_areInOrder) (by decide +kernel) (by decide +kernel) j i h
theorem dX7_areInOrder_0 : decode cX7_areInOrder 0 = .ok (.iload_n 0, 1) := dz_26 (k_X7_areInOrder 0 0 rfl)
theorem dX7_areInOrder_1 : decode cX7_areInOrder 1 = .ok (.ifCond .ne 19, 3) := dz_154 (k_X7_areInOrder 0 1 rfl) (k_X7_areInOrder 0 2 rfl) (k_X7_areInOrder 0 3 rfl) rfl
theorem dX7_areInOrder_4 : decode cX7_areInOrder 4 = .ok (.iload_n 2, 1) := dz_28 (k_X7_areInOrder 0 4 rfl)
theorem dX7_areInOrder_5 : decode cX7_areInOrder 5 = .ok (.iconst (-1), 1) := dz_2 (k_X7_areInOrder 0 5 rfl)
theorem dX7_areInOrder_6 : decode cX7_areInOrder 6 = .ok (.if_icmp .ne 12, 3) := dz_160 (k_X7_areInOrder 0 6 rfl) (k_X7_areInOrder 0 7 rfl) (k_X7_areInOrder 0 8 rfl) rfl
theorem dX7_areInOrder_9 : decode cX7_areInOrder 9 = .ok (.iload_n 3, 1) := dz_29 (k_X7_areInOrder 0 9 rfl)
theorem dX7_areInOrder_10 : decode cX7_areInOrder 10 = .ok (.iconst (-1), 1) := dz_2 (k_X7_areInOrder 0 10 rfl)
theorem dX7_areInOrder_11 : decode cX7_areInOrder 11 = .ok (.if_icmp .ne 7, 3) := dz_160 (k_X7_areInOrder 0 11 rfl) (k_X7_areInOrder 0 12 rfl) (k_X7_areInOrder 0 13 rfl) rfl
theorem dX7_areInOrder_14 : decode cX7_areInOrder 14 = .ok (.iconst 1, 1) := dz_4 (k_X7_areInOrder 0 14 rfl)
theorem dX7_areInOrder_15 : decode cX7_areInOrder 15 = .ok (.goto 4, 3) := dz_167 (k_X7_areInOrder 0 15 rfl) (k_X7_areInOrder 0 16 rfl) (k_X7_areInOrder 0 17 rfl) rfl
theorem dX7_areInOrder_18 : decode cX7_areInOrder 18 = .ok (.iconst 0, 1) := dz_3 (k_X7_areInOrder 0 18 rfl)
theorem dX7_areInOrder_19 : decode cX7_areInOrder 19 = .ok (.ireturn, 1) := dz_172 (k_X7_areInOrder 0 19 rfl)
theorem dX7_areInOrder_20 : decode cX7_areInOrder 20 = .ok (.iload_n 1, 1) := dz_27 (k_X7_areInOrder 0 20 rfl)
theorem dX7_areInOrder_21 : decode cX7_areInOrder 21 = .ok (.iconst (-1), 1) := dz_2 (k_X7_areInOrder 0 21 rfl)
theorem dX7_areInOrder_22 : decode cX7_areInOrder 22 = .ok (.if_icmp .ne 8, 3) := dz_160 (k_X7_areInOrder 0 22 rfl) (k_X7_areInOrder 0 23 rfl) (k_X7_areInOrder 0 24 rfl) rfl
theorem dX7_areInOrder_25 : decode cX7_areInOrder 25 = .ok (.iload_n 2, 1) := dz_28 (k_X7_areInOrder 0 25 rfl)
theorem dX7_areInOrder_26 : decode cX7_areInOrder 26 = .ok (.iconst (-1), 1) := dz_2 (k_X7_areInOrder 0 26 rfl)
theorem dX7_areInOrder_27 : decode cX7_areInOrder 27 = .ok (.if_icmp .ne 17, 3) := dz_160 (k_X7_areInOrder 0 27 rfl) (k_X7_areInOrder 0 28 rfl) (k_X7_areInOrder 0 29 rfl) rfl
theorem dX7_areInOrder_30 : decode cX7_areInOrder 30 = .ok (.iload_n 2, 1) := dz_28 (k_X7_areInOrder 0 30 rfl)
theorem dX7_areInOrder_31 : decode cX7_areInOrder 31 = .ok (.iconst (-1), 1) := dz_2 (k_X7_areInOrder 0 31 rfl)
theorem dX7_areInOrder_32 : decode cX7_areInOrder 32 = .ok (.if_icmp .ne 8, 3) := dz_160 (k_X7_areInOrder 0 32 rfl) (k_X7_areInOrder 0 33 rfl) (k_X7_areInOrder 0 34 rfl) rfl
theorem dX7_areInOrder_35 : decode cX7_areInOrder 35 = .ok (.iload_n 3, 1) := dz_29 (k_X7_areInOrder 0 35 rfl)
theorem dX7_areInOrder_36 : decode cX7_areInOrder 36 = .ok (.iconst (-1), 1) := dz_2 (k_X7_areInOrder 0 36 rfl)
theorem dX7_areInOrder_37 : decode cX7_areInOrder 37 = .ok (.if_icmp .ne 7, 3) := dz_160 (k_X7_areInOrder 0 37 rfl) (k_X7_areInOrder 0 38 rfl) (k_X7_areInOrder 0 39 rfl) rfl
theorem dX7_areInOrder_40 : decode cX7_areInOrder 40 = .ok (.iconst 1, 1) := dz_4 (k_X7_areInOrder 0 40 rfl)
theorem dX7_areInOrder_41 : decode cX7_areInOrder 41 = .ok (.goto 4, 3) := dz_167 (k_X7_areInOrder 0 41 rfl) (k_X7_areInOrder 0 42 rfl) (k_X7_areInOrder 0 43 rfl) rfl
theorem dX7_areInOrder_44 : decode cX7_areInOrder 44 = .ok (.iconst 0, 1) := dz_3 (k_X7_areInOrder 0 44 rfl)
theorem dX7_areInOrder_45 : decode cX7_areInOrder 45 = .ok (.ireturn, 1) := dz_172 (k_X7_areInOrder 0 45 rfl)
def B_X7_back : List (List Nat) := [[42, 180, 1, 69, 154, 0, 5, 3, 172, 42, 180, 0, 19, 42, 180, 0, 23, 182, 1, 66, 42, 180, 0, 12, 42, 180, 0, 19, 180, 0, 91, 182, 0, 94, 4, 172]]
theorem k_X7_back (j i : Nat) {b : Nat} (h : (B_X7_back[j]?.bind fun c => c[i]?) = some b) : s_by cX7_back (64 * j + i) b := s_byC (L := B_X7_back) (by decide +kernel) (by decide +kernel) j i h
theorem dX7_back_0 : decode cX7_back 0 = .ok (.aload_n 0, 1) := dz_42 (k_X7_back 0 0 rfl)
theorem dX7_back_1 : decode cX7_back 1 = .ok (.getfield 325, 3) := dz_180 (k_X7_back 0 1 rfl) (k_X7_back 0 2 rfl) (k_X7_back 0 3 rfl) rfl
theorem dX7_back_4 : decode cX7_back 4 = .ok (.ifCond .ne 5, 3) := dz_154 (k_X7_back 0 4 rfl) (k_X7_back 0 5 rfl) (k_X7_back 0 6 rfl) rfl
theorem dX7_back_7 : decode cX7_back 7 = .ok (.iconst 0, 1) := dz_3 (k_X7_back 0 7 rfl)
theorem dX7_back_8 : decode cX7_back 8 = .ok (.ireturn, 1) := dz_172 (k_X7_back 0 8 rfl)
theorem dX7_back_9 : decode cX7_back 9 = .ok (.aload_n 0, 1) := dz_42 (k_X7_back 0 9 rfl)
theorem dX7_back_10 : decode cX7_back 10 = .ok (.getfield 19, 3) := dz_180 (k_X7_back 0 10 rfl) (k_X7_back 0 11 rfl) (k_X7_back 0 12 rfl) rfl
theorem dX7_back_13 : decode cX7_back 13 = .ok (.aload_n 0, 1) := dz_42 (k_X7_back 0 13 rfl)
theorem dX7_back_14 : decode cX7_back 14 = .ok (.getfield 23, 3) := dz_180 (k_X7_back 0 14 rfl) (k_X7_back 0 15 rfl) (k_X7_back 0 16 rfl) rfl
theorem dX7_back_17 : decode cX7_back 17 = .ok (.invokevirtual 322, 3) := dz_182 (k_X7_back 0 17 rfl) (k_X7_back 0 18 rfl) (k_X7_back 0 19 rfl) rfl
theorem dX7_back_20 : decode cX7_back 20 = .ok (.aload_n 0, 1) := dz_42 (k_X7_back 0 20 rfl)
theorem dX7_back_21 : decode cX7_back 21 = .ok (.getfield 12, 3) := dz_180 (k_X7_back 0 21 rfl) (k_X7_back 0 22 rfl) (k_X7_back 0 23 rfl) rfl
theorem dX7_back_24 : decode cX7_back 24 = .ok (.aload_n 0, 1) := dz_42 (k_X7_back 0 24 rfl)
theorem dX7_back_25 : decode cX7_back 25 = .ok (.getfield 19, 3) := dz_180 (k_X7_back 0 25 rfl) (k_X7_back 0 26 rfl) (k_X7_back 0 27 rfl) rfl
theorem dX7_back_28 : decode cX7_back 28 = .ok (.getfield 91, 3) := dz_180 (k_X7_back 0 28 rfl) (k_X7_back 0 29 rfl) (k_X7_back 0 30 rfl) rfl
theorem dX7_back_31 : decode cX7_back 31 = .ok (.invokevirtual 94, 3) := dz_182 (k_X7_back 0 31 rfl) (k_X7_back 0 32 rfl) (k_X7_back 0 33 rfl) rfl
theorem dX7_back_34 : decode cX7_back 34 = .ok (.iconst 1, 1) := dz_4 (k_X7_back 0 34 rfl)
theorem dX7_back_35 : decode cX7_back 35 = .ok (.ireturn, 1) := dz_172 (k_X7_back 0 35 rfl)
def B_X7_beliefs : List (List Nat) := [[42, 27, 182, 0, 171, 42, 180, 0, 19, 180, 0, 174, 27, 46, 172]]
theorem k_X7_beliefs (j i : Nat) {b : Nat} (h : (B_X7_beliefs[j]?.bind fun c => c[i]?) = some b) : s_by cX7_beliefs (64 * j + i) b := s_byC (L := B_X7_beliefs) (by decide +kernel) (by decide +kernel) j i h
theorem dX7_beliefs_0 : decode cX7_beliefs 0 = .ok (.aload_n 0, 1) := dz_42 (k_X7_beliefs 0 0 rfl)
theorem dX7_beliefs_1 : decode cX7_beliefs 1 = .ok (.iload_n 1, 1) := dz_27 (k_X7_beliefs 0 1 rfl)
theorem dX7_beliefs_2 : decode cX7_beliefs 2 = .ok (.invokevirtual 171, 3) := dz_182 (k_X7_beliefs 0 2 rfl) (k_X7_beliefs 0 3 rfl) (k_X7_beliefs 0 4 rfl) rfl
theorem dX7_beliefs_5 : decode cX7_beliefs 5 = .ok (.aload_n 0, 1) := dz_42 (k_X7_beliefs 0 5 rfl)
theorem dX7_beliefs_6 : decode cX7_beliefs 6 = .ok (.getfield 19, 3) := dz_180 (k_X7_beliefs 0 6 rfl) (k_X7_beliefs 0 7 rfl) (k_X7_beliefs 0 8 rfl) rfl
theorem dX7_beliefs_9 : decode cX7_beliefs 9 = .ok (.getfield 174, 3) := dz_180 (k_X7_beliefs 0 9 rfl) (k_X7_beliefs 0 10 rfl) (k_X7_beliefs 0 11 rfl) rfl
theorem dX7_beliefs_12 : decode cX7_beliefs 12 = .ok (.iload_n 1, 1) := dz_27 (k_X7_beliefs 0 12 rfl)
theorem dX7_beliefs_13 : decode cX7_beliefs 13 = .ok (.iaload, 1) := dz_46 (k_X7_beliefs 0 13 rfl)
theorem dX7_beliefs_14 : decode cX7_beliefs 14 = .ok (.ireturn, 1) := dz_172 (k_X7_beliefs 0 14 rfl)
def B_X7_believe : List (List Nat) := [[42, 27, 182, 0, 171, 42, 28, 182, 0, 128, 42, 180, 0, 19, 180, 0, 174, 27, 46, 54, 4, 4, 28, 120, 54, 5, 42, 180, 0, 19, 180, 0, 174, 27, 29, 153, 0, 11, 21, 4, 21, 5, 128, 167, 0, 10, 21, 4, 21, 5, 2, 130, 126, 79, 42, 180, 0, 19, 180, 0, 174, 27, 46, 21], [4, 159, 0, 7, 4, 167, 0, 4, 3, 172]]
theorem k_X7_believe (j i : Nat) {b : Nat} (h : (B_X7_believe[j]?.bind fun c => c[i]?) = some b) : s_by cX7_believe (64 * j + i) b := s_byC (L := B_X7_believe) (by decide +kernel) (by decide +kernel) j i h
theorem dX7_believe_0 : decode cX7_believe 0 = .ok (.aload_n 0, 1) := dz_42 (k_X7_believe 0 0 rfl)
theorem dX7_believe_1 : decode cX7_believe 1 = .ok (.iload_n 1, 1) := dz_27 (k_X7_believe 0 1 rfl)
theorem dX7_believe_2 : decode cX7_believe 2 = .ok (.invokevirtual 171, 3) := dz_182 (k_X7_believe 0 2 rfl) (k_X7_believe 0 3 rfl) (k_X7_believe 0 4 rfl) rfl
theorem dX7_believe_5 : decode cX7_believe 5 = .ok (.aload_n 0, 1) := dz_42 (k_X7_believe 0 5 rfl)
theorem dX7_believe_6 : decode cX7_believe 6 = .ok (.iload_n 2, 1) := dz_28 (k_X7_believe 0 6 rfl)
theorem dX7_believe_7 : decode cX7_believe 7 = .ok (.invokevirtual 128, 3) := dz_182 (k_X7_believe 0 7 rfl) (k_X7_believe 0 8 rfl) (k_X7_believe 0 9 rfl) rfl
theorem dX7_believe_10 : decode cX7_believe 10 = .ok (.aload_n 0, 1) := dz_42 (k_X7_believe 0 10 rfl)
theorem dX7_believe_11 : decode cX7_believe 11 = .ok (.getfield 19, 3) := dz_180 (k_X7_believe 0 11 rfl) (k_X7_believe 0 12 rfl) (k_X7_believe 0 13 rfl) rfl
theorem dX7_believe_14 : decode cX7_believe 14 = .ok (.getfield 174, 3) := dz_180 (k_X7_believe 0 14 rfl) (k_X7_believe 0 15 rfl) (k_X7_believe 0 16 rfl) rfl
theorem dX7_believe_17 : decode cX7_believe 17 = .ok (.iload_n 1, 1) := dz_27 (k_X7_believe 0 17 rfl)
theorem dX7_believe_18 : decode cX7_believe 18 = .ok (.iaload, 1) := dz_46 (k_X7_believe 0 18 rfl)
theorem dX7_believe_19 : decode cX7_believe 19 = .ok (.istore 4, 2) := dz_54 (k_X7_believe 0 19 rfl) (k_X7_believe 0 20 rfl)
theorem dX7_believe_21 : decode cX7_believe 21 = .ok (.iconst 1, 1) := dz_4 (k_X7_believe 0 21 rfl)
theorem dX7_believe_22 : decode cX7_believe 22 = .ok (.iload_n 2, 1) := dz_28 (k_X7_believe 0 22 rfl)
theorem dX7_believe_23 : decode cX7_believe 23 = .ok (.ishl, 1) := dz_120 (k_X7_believe 0 23 rfl)
theorem dX7_believe_24 : decode cX7_believe 24 = .ok (.istore 5, 2) := dz_54 (k_X7_believe 0 24 rfl) (k_X7_believe 0 25 rfl)
theorem dX7_believe_26 : decode cX7_believe 26 = .ok (.aload_n 0, 1) := dz_42 (k_X7_believe 0 26 rfl)
theorem dX7_believe_27 : decode cX7_believe 27 = .ok (.getfield 19, 3) := dz_180 (k_X7_believe 0 27 rfl) (k_X7_believe 0 28 rfl) (k_X7_believe 0 29 rfl) rfl
theorem dX7_believe_30 : decode cX7_believe 30 = .ok (.getfield 174, 3) := dz_180 (k_X7_believe 0 30 rfl) (k_X7_believe 0 31 rfl) (k_X7_believe 0 32 rfl) rfl
theorem dX7_believe_33 : decode cX7_believe 33 = .ok (.iload_n 1, 1) := dz_27 (k_X7_believe 0 33 rfl)
theorem dX7_believe_34 : decode cX7_believe 34 = .ok (.iload_n 3, 1) := dz_29 (k_X7_believe 0 34 rfl)
theorem dX7_believe_35 : decode cX7_believe 35 = .ok (.ifCond .eq 11, 3) := dz_153 (k_X7_believe 0 35 rfl) (k_X7_believe 0 36 rfl) (k_X7_believe 0 37 rfl) rfl
theorem dX7_believe_38 : decode cX7_believe 38 = .ok (.iload 4, 2) := dz_21 (k_X7_believe 0 38 rfl) (k_X7_believe 0 39 rfl)
theorem dX7_believe_40 : decode cX7_believe 40 = .ok (.iload 5, 2) := dz_21 (k_X7_believe 0 40 rfl) (k_X7_believe 0 41 rfl)
theorem dX7_believe_42 : decode cX7_believe 42 = .ok (.ior, 1) := dz_128 (k_X7_believe 0 42 rfl)
theorem dX7_believe_43 : decode cX7_believe 43 = .ok (.goto 10, 3) := dz_167 (k_X7_believe 0 43 rfl) (k_X7_believe 0 44 rfl) (k_X7_believe 0 45 rfl) rfl
theorem dX7_believe_46 : decode cX7_believe 46 = .ok (.iload 4, 2) := dz_21 (k_X7_believe 0 46 rfl) (k_X7_believe 0 47 rfl)
theorem dX7_believe_48 : decode cX7_believe 48 = .ok (.iload 5, 2) := dz_21 (k_X7_believe 0 48 rfl) (k_X7_believe 0 49 rfl)
theorem dX7_believe_50 : decode cX7_believe 50 = .ok (.iconst (-1), 1) := dz_2 (k_X7_believe 0 50 rfl)
theorem dX7_believe_51 : decode cX7_believe 51 = .ok (.ixor, 1) := dz_130 (k_X7_believe 0 51 rfl)
theorem dX7_believe_52 : decode cX7_believe 52 = .ok (.iand, 1) := dz_126 (k_X7_believe 0 52 rfl)
theorem dX7_believe_53 : decode cX7_believe 53 = .ok (.iastore, 1) := dz_79 (k_X7_believe 0 53 rfl)
theorem dX7_believe_54 : decode cX7_believe 54 = .ok (.aload_n 0, 1) := dz_42 (k_X7_believe 0 54 rfl)
theorem dX7_believe_55 : decode cX7_believe 55 = .ok (.getfield 19, 3) := dz_180 (k_X7_believe 0 55 rfl) (k_X7_believe 0 56 rfl) (k_X7_believe 0 57 rfl) rfl
theorem dX7_believe_58 : decode cX7_believe 58 = .ok (.getfield 174, 3) := dz_180 (k_X7_believe 0 58 rfl) (k_X7_believe 0 59 rfl) (k_X7_believe 0 60 rfl) rfl
theorem dX7_believe_61 : decode cX7_believe 61 = .ok (.iload_n 1, 1) := dz_27 (k_X7_believe 0 61 rfl)
theorem dX7_believe_62 : decode cX7_believe 62 = .ok (.iaload, 1) := dz_46 (k_X7_believe 0 62 rfl)
theorem dX7_believe_63 : decode cX7_believe 63 = .ok (.iload 4, 2) := dz_21 (k_X7_believe 0 63 rfl) (k_X7_believe 1 0 rfl)
theorem dX7_believe_65 : decode cX7_believe 65 = .ok (.if_icmp .eq 7, 3) := dz_159 (k_X7_believe 1 1 rfl) (k_X7_believe 1 2 rfl) (k_X7_believe 1 3 rfl) rfl
theorem dX7_believe_68 : decode cX7_believe 68 = .ok (.iconst 1, 1) := dz_4 (k_X7_believe 1 4 rfl)
theorem dX7_believe_69 : decode cX7_believe 69 = .ok (.goto 4, 3) := dz_167 (k_X7_believe 1 5 rfl) (k_X7_believe 1 6 rfl) (k_X7_believe 1 7 rfl) rfl
theorem dX7_believe_72 : decode cX7_believe 72 = .ok (.iconst 0, 1) := dz_3 (k_X7_believe 1 8 rfl)
theorem dX7_believe_73 : decode cX7_believe 73 = .ok (.ireturn, 1) := dz_172 (k_X7_believe 1 9 rfl)
def B_X7_chain : List (List Nat) := [[42, 27, 182, 0, 195, 42, 180, 0, 49, 27, 182, 1, 63, 172]]
theorem k_X7_chain (j i : Nat) {b : Nat} (h : (B_X7_chain[j]?.bind fun c => c[i]?) = some b) : s_by cX7_chain (64 * j + i) b := s_byC (L := B_X7_chain) (by decide +kernel) (by decide +kernel) j i h
theorem dX7_chain_0 : decode cX7_chain 0 = .ok (.aload_n 0, 1) := dz_42 (k_X7_chain 0 0 rfl)
theorem dX7_chain_1 : decode cX7_chain 1 = .ok (.iload_n 1, 1) := dz_27 (k_X7_chain 0 1 rfl)
theorem dX7_chain_2 : decode cX7_chain 2 = .ok (.invokevirtual 195, 3) := dz_182 (k_X7_chain 0 2 rfl) (k_X7_chain 0 3 rfl) (k_X7_chain 0 4 rfl) rfl
theorem dX7_chain_5 : decode cX7_chain 5 = .ok (.aload_n 0, 1) := dz_42 (k_X7_chain 0 5 rfl)
theorem dX7_chain_6 : decode cX7_chain 6 = .ok (.getfield 49, 3) := dz_180 (k_X7_chain 0 6 rfl) (k_X7_chain 0 7 rfl) (k_X7_chain 0 8 rfl) rfl
theorem dX7_chain_9 : decode cX7_chain 9 = .ok (.iload_n 1, 1) := dz_27 (k_X7_chain 0 9 rfl)
theorem dX7_chain_10 : decode cX7_chain 10 = .ok (.invokevirtual 319, 3) := dz_182 (k_X7_chain 0 10 rfl) (k_X7_chain 0 11 rfl) (k_X7_chain 0 12 rfl) rfl
theorem dX7_chain_13 : decode cX7_chain 13 = .ok (.ireturn, 1) := dz_172 (k_X7_chain 0 13 rfl)
def B_X7_cheapest : List (List Nat) := [[42, 27, 28, 29, 182, 0, 238, 42, 180, 0, 56, 27, 182, 0, 241, 172]]
theorem k_X7_cheapest (j i : Nat) {b : Nat} (h : (B_X7_cheapest[j]?.bind fun c => c[i]?) = some b) : s_by cX7_cheapest (64 * j + i) b := s_byC (L := B_X7_cheapest) (by decide +kernel) (by decide +kernel) j i h
theorem dX7_cheapest_0 : decode cX7_cheapest 0 = .ok (.aload_n 0, 1) := dz_42 (k_X7_cheapest 0 0 rfl)
theorem dX7_cheapest_1 : decode cX7_cheapest 1 = .ok (.iload_n 1, 1) := dz_27 (k_X7_cheapest 0 1 rfl)
theorem dX7_cheapest_2 : decode cX7_cheapest 2 = .ok (.iload_n 2, 1) := dz_28 (k_X7_cheapest 0 2 rfl)
theorem dX7_cheapest_3 : decode cX7_cheapest 3 = .ok (.iload_n 3, 1) := dz_29 (k_X7_cheapest 0 3 rfl)
theorem dX7_cheapest_4 : decode cX7_cheapest 4 = .ok (.invokevirtual 238, 3) := dz_182 (k_X7_cheapest 0 4 rfl) (k_X7_cheapest 0 5 rfl) (k_X7_cheapest 0 6 rfl) rfl
theorem dX7_cheapest_7 : decode cX7_cheapest 7 = .ok (.aload_n 0, 1) := dz_42 (k_X7_cheapest 0 7 rfl)
theorem dX7_cheapest_8 : decode cX7_cheapest 8 = .ok (.getfield 56, 3) := dz_180 (k_X7_cheapest 0 8 rfl) (k_X7_cheapest 0 9 rfl) (k_X7_cheapest 0 10 rfl) rfl
theorem dX7_cheapest_11 : decode cX7_cheapest 11 = .ok (.iload_n 1, 1) := dz_27 (k_X7_cheapest 0 11 rfl)
theorem dX7_cheapest_12 : decode cX7_cheapest 12 = .ok (.invokevirtual 241, 3) := dz_182 (k_X7_cheapest 0 12 rfl) (k_X7_cheapest 0 13 rfl) (k_X7_cheapest 0 14 rfl) rfl
theorem dX7_cheapest_15 : decode cX7_cheapest 15 = .ok (.ireturn, 1) := dz_172 (k_X7_cheapest 0 15 rfl)
def B_X7_core : List (List Nat) := [[42, 27, 182, 1, 8, 61, 42, 180, 0, 40, 28, 182, 1, 20, 172]]
theorem k_X7_core (j i : Nat) {b : Nat} (h : (B_X7_core[j]?.bind fun c => c[i]?) = some b) : s_by cX7_core (64 * j + i) b := s_byC (L := B_X7_core) (by decide +kernel) (by decide +kernel) j i h
theorem dX7_core_0 : decode cX7_core 0 = .ok (.aload_n 0, 1) := dz_42 (k_X7_core 0 0 rfl)
theorem dX7_core_1 : decode cX7_core 1 = .ok (.iload_n 1, 1) := dz_27 (k_X7_core 0 1 rfl)
theorem dX7_core_2 : decode cX7_core 2 = .ok (.invokevirtual 264, 3) := dz_182 (k_X7_core 0 2 rfl) (k_X7_core 0 3 rfl) (k_X7_core 0 4 rfl) rfl
theorem dX7_core_5 : decode cX7_core 5 = .ok (.istore_n 2, 1) := dz_61 (k_X7_core 0 5 rfl)
theorem dX7_core_6 : decode cX7_core 6 = .ok (.aload_n 0, 1) := dz_42 (k_X7_core 0 6 rfl)
theorem dX7_core_7 : decode cX7_core 7 = .ok (.getfield 40, 3) := dz_180 (k_X7_core 0 7 rfl) (k_X7_core 0 8 rfl) (k_X7_core 0 9 rfl) rfl
theorem dX7_core_10 : decode cX7_core 10 = .ok (.iload_n 2, 1) := dz_28 (k_X7_core 0 10 rfl)
theorem dX7_core_11 : decode cX7_core 11 = .ok (.invokevirtual 276, 3) := dz_182 (k_X7_core 0 11 rfl) (k_X7_core 0 12 rfl) (k_X7_core 0 13 rfl) rfl
theorem dX7_core_14 : decode cX7_core 14 = .ok (.ireturn, 1) := dz_172 (k_X7_core 0 14 rfl)
def B_X7_count : List (List Nat) := [[27, 170, 0, 0, 0, 0, 0, 120, 0, 0, 0, 0, 0, 0, 0, 6, 0, 0, 0, 43, 0, 0, 0, 51, 0, 0, 0, 59, 0, 0, 0, 67, 0, 0, 0, 75, 0, 0, 0, 86, 0, 0, 0, 112, 42, 180, 0, 19, 180, 0, 84, 172, 42, 180, 0, 19, 180, 0, 103, 172, 42, 180, 0, 19], [180, 0, 186, 172, 42, 180, 0, 19, 180, 1, 36, 172, 42, 180, 0, 19, 180, 1, 50, 184, 1, 73, 172, 42, 180, 0, 49, 182, 0, 209, 42, 180, 0, 19, 180, 0, 186, 42, 180, 0, 49, 180, 1, 78, 184, 1, 82, 100, 172, 42, 180, 0, 65, 182, 1, 87, 172, 2, 172]]
theorem k_X7_count (j i : Nat) {b : Nat} (h : (B_X7_count[j]?.bind fun c => c[i]?) = some b) : s_by cX7_count (64 * j + i) b := s_byC (L := B_X7_count) (by decide +kernel) (by decide +kernel) j i h
theorem dX7_count_0 : decode cX7_count 0 = .ok (.iload_n 1, 1) := dz_27 (k_X7_count 0 0 rfl)
theorem dX7_count_1 : decode cX7_count 1 = .ok (.tableswitch 120 0 6 #[43, 51, 59, 67, 75, 86, 112], 43) := by decide +kernel
theorem dX7_count_44 : decode cX7_count 44 = .ok (.aload_n 0, 1) := dz_42 (k_X7_count 0 44 rfl)
theorem dX7_count_45 : decode cX7_count 45 = .ok (.getfield 19, 3) := dz_180 (k_X7_count 0 45 rfl) (k_X7_count 0 46 rfl) (k_X7_count 0 47 rfl) rfl
theorem dX7_count_48 : decode cX7_count 48 = .ok (.getfield 84, 3) := dz_180 (k_X7_count 0 48 rfl) (k_X7_count 0 49 rfl) (k_X7_count 0 50 rfl) rfl
theorem dX7_count_51 : decode cX7_count 51 = .ok (.ireturn, 1) := dz_172 (k_X7_count 0 51 rfl)
theorem dX7_count_52 : decode cX7_count 52 = .ok (.aload_n 0, 1) := dz_42 (k_X7_count 0 52 rfl)
theorem dX7_count_53 : decode cX7_count 53 = .ok (.getfield 19, 3) := dz_180 (k_X7_count 0 53 rfl) (k_X7_count 0 54 rfl) (k_X7_count 0 55 rfl) rfl
theorem dX7_count_56 : decode cX7_count 56 = .ok (.getfield 103, 3) := dz_180 (k_X7_count 0 56 rfl) (k_X7_count 0 57 rfl) (k_X7_count 0 58 rfl) rfl
theorem dX7_count_59 : decode cX7_count 59 = .ok (.ireturn, 1) := dz_172 (k_X7_count 0 59 rfl)
theorem dX7_count_60 : decode cX7_count 60 = .ok (.aload_n 0, 1) := dz_42 (k_X7_count 0 60 rfl)
theorem dX7_count_61 : decode cX7_count 61 = .ok (.getfield 19, 3) := dz_180 (k_X7_count 0 61 rfl) (k_X7_count 0 62 rfl) (k_X7_count 0 63 rfl) rfl
theorem dX7_count_64 : decode cX7_count 64 = .ok (.getfield 186, 3) := dz_180 (k_X7_count 1 0 rfl) (k_X7_count 1 1 rfl) (k_X7_count 1 2 rfl) rfl
theorem dX7_count_67 : decode cX7_count 67 = .ok (.ireturn, 1) := dz_172 (k_X7_count 1 3 rfl)
theorem dX7_count_68 : decode cX7_count 68 = .ok (.aload_n 0, 1) := dz_42 (k_X7_count 1 4 rfl)
theorem dX7_count_69 : decode cX7_count 69 = .ok (.getfield 19, 3) := dz_180 (k_X7_count 1 5 rfl) (k_X7_count 1 6 rfl) (k_X7_count 1 7 rfl) rfl
theorem dX7_count_72 : decode cX7_count 72 = .ok (.getfield 292, 3) := dz_180 (k_X7_count 1 8 rfl) (k_X7_count 1 9 rfl) (k_X7_count 1 10 rfl) rfl
theorem dX7_count_75 : decode cX7_count 75 = .ok (.ireturn, 1) := dz_172 (k_X7_count 1 11 rfl)
theorem dX7_count_76 : decode cX7_count 76 = .ok (.aload_n 0, 1) := dz_42 (k_X7_count 1 12 rfl)
theorem dX7_count_77 : decode cX7_count 77 = .ok (.getfield 19, 3) := dz_180 (k_X7_count 1 13 rfl) (k_X7_count 1 14 rfl) (k_X7_count 1 15 rfl) rfl
theorem dX7_count_80 : decode cX7_count 80 = .ok (.getfield 306, 3) := dz_180 (k_X7_count 1 16 rfl) (k_X7_count 1 17 rfl) (k_X7_count 1 18 rfl) rfl
theorem dX7_count_83 : decode cX7_count 83 = .ok (.invokestatic 329, 3) := dz_184 (k_X7_count 1 19 rfl) (k_X7_count 1 20 rfl) (k_X7_count 1 21 rfl) rfl
theorem dX7_count_86 : decode cX7_count 86 = .ok (.ireturn, 1) := dz_172 (k_X7_count 1 22 rfl)
theorem dX7_count_87 : decode cX7_count 87 = .ok (.aload_n 0, 1) := dz_42 (k_X7_count 1 23 rfl)
theorem dX7_count_88 : decode cX7_count 88 = .ok (.getfield 49, 3) := dz_180 (k_X7_count 1 24 rfl) (k_X7_count 1 25 rfl) (k_X7_count 1 26 rfl) rfl
theorem dX7_count_91 : decode cX7_count 91 = .ok (.invokevirtual 209, 3) := dz_182 (k_X7_count 1 27 rfl) (k_X7_count 1 28 rfl) (k_X7_count 1 29 rfl) rfl
theorem dX7_count_94 : decode cX7_count 94 = .ok (.aload_n 0, 1) := dz_42 (k_X7_count 1 30 rfl)
theorem dX7_count_95 : decode cX7_count 95 = .ok (.getfield 19, 3) := dz_180 (k_X7_count 1 31 rfl) (k_X7_count 1 32 rfl) (k_X7_count 1 33 rfl) rfl
theorem dX7_count_98 : decode cX7_count 98 = .ok (.getfield 186, 3) := dz_180 (k_X7_count 1 34 rfl) (k_X7_count 1 35 rfl) (k_X7_count 1 36 rfl) rfl
theorem dX7_count_101 : decode cX7_count 101 = .ok (.aload_n 0, 1) := dz_42 (k_X7_count 1 37 rfl)
theorem dX7_count_102 : decode cX7_count 102 = .ok (.getfield 49, 3) := dz_180 (k_X7_count 1 38 rfl) (k_X7_count 1 39 rfl) (k_X7_count 1 40 rfl) rfl
theorem dX7_count_105 : decode cX7_count 105 = .ok (.getfield 334, 3) := dz_180 (k_X7_count 1 41 rfl) (k_X7_count 1 42 rfl) (k_X7_count 1 43 rfl) rfl
theorem dX7_count_108 : decode cX7_count 108 = .ok (.invokestatic 338, 3) := dz_184 (k_X7_count 1 44 rfl) (k_X7_count 1 45 rfl) (k_X7_count 1 46 rfl) rfl
theorem dX7_count_111 : decode cX7_count 111 = .ok (.isub, 1) := dz_100 (k_X7_count 1 47 rfl)
theorem dX7_count_112 : decode cX7_count 112 = .ok (.ireturn, 1) := dz_172 (k_X7_count 1 48 rfl)
theorem dX7_count_113 : decode cX7_count 113 = .ok (.aload_n 0, 1) := dz_42 (k_X7_count 1 49 rfl)
theorem dX7_count_114 : decode cX7_count 114 = .ok (.getfield 65, 3) := dz_180 (k_X7_count 1 50 rfl) (k_X7_count 1 51 rfl) (k_X7_count 1 52 rfl) rfl
theorem dX7_count_117 : decode cX7_count 117 = .ok (.invokevirtual 343, 3) := dz_182 (k_X7_count 1 53 rfl) (k_X7_count 1 54 rfl) (k_X7_count 1 55 rfl) rfl
theorem dX7_count_120 : decode cX7_count 120 = .ok (.ireturn, 1) := dz_172 (k_X7_count 1 56 rfl)
theorem dX7_count_121 : decode cX7_count 121 = .ok (.iconst (-1), 1) := dz_2 (k_X7_count 1 57 rfl)
theorem dX7_count_122 : decode cX7_count 122 = .ok (.ireturn, 1) := dz_172 (k_X7_count 1 58 rfl)
def B_X7_counter : List (List Nat) := [[42, 27, 182, 0, 171, 42, 28, 182, 0, 128, 42, 180, 0, 40, 42, 180, 0, 19, 180, 0, 174, 27, 46, 28, 182, 0, 235, 172]]
theorem k_X7_counter (j i : Nat) {b : Nat} (h : (B_X7_counter[j]?.bind fun c => c[i]?) = some b) : s_by cX7_counter (64 * j + i) b := s_byC (L := B_X7_counter) (by decide +kernel) (by decide +kernel) j i h
theorem dX7_counter_0 : decode cX7_counter 0 = .ok (.aload_n 0, 1) := dz_42 (k_X7_counter 0 0 rfl)
theorem dX7_counter_1 : decode cX7_counter 1 = .ok (.iload_n 1, 1) := dz_27 (k_X7_counter 0 1 rfl)
theorem dX7_counter_2 : decode cX7_counter 2 = .ok (.invokevirtual 171, 3) := dz_182 (k_X7_counter 0 2 rfl) (k_X7_counter 0 3 rfl) (k_X7_counter 0 4 rfl) rfl
theorem dX7_counter_5 : decode cX7_counter 5 = .ok (.aload_n 0, 1) := dz_42 (k_X7_counter 0 5 rfl)
theorem dX7_counter_6 : decode cX7_counter 6 = .ok (.iload_n 2, 1) := dz_28 (k_X7_counter 0 6 rfl)
theorem dX7_counter_7 : decode cX7_counter 7 = .ok (.invokevirtual 128, 3) := dz_182 (k_X7_counter 0 7 rfl) (k_X7_counter 0 8 rfl) (k_X7_counter 0 9 rfl) rfl
theorem dX7_counter_10 : decode cX7_counter 10 = .ok (.aload_n 0, 1) := dz_42 (k_X7_counter 0 10 rfl)
theorem dX7_counter_11 : decode cX7_counter 11 = .ok (.getfield 40, 3) := dz_180 (k_X7_counter 0 11 rfl) (k_X7_counter 0 12 rfl) (k_X7_counter 0 13 rfl) rfl
theorem dX7_counter_14 : decode cX7_counter 14 = .ok (.aload_n 0, 1) := dz_42 (k_X7_counter 0 14 rfl)
theorem dX7_counter_15 : decode cX7_counter 15 = .ok (.getfield 19, 3) := dz_180 (k_X7_counter 0 15 rfl) (k_X7_counter 0 16 rfl) (k_X7_counter 0 17 rfl) rfl
theorem dX7_counter_18 : decode cX7_counter 18 = .ok (.getfield 174, 3) := dz_180 (k_X7_counter 0 18 rfl) (k_X7_counter 0 19 rfl) (k_X7_counter 0 20 rfl) rfl
theorem dX7_counter_21 : decode cX7_counter 21 = .ok (.iload_n 1, 1) := dz_27 (k_X7_counter 0 21 rfl)
theorem dX7_counter_22 : decode cX7_counter 22 = .ok (.iaload, 1) := dz_46 (k_X7_counter 0 22 rfl)
theorem dX7_counter_23 : decode cX7_counter 23 = .ok (.iload_n 2, 1) := dz_28 (k_X7_counter 0 23 rfl)
theorem dX7_counter_24 : decode cX7_counter 24 = .ok (.invokevirtual 235, 3) := dz_182 (k_X7_counter 0 24 rfl) (k_X7_counter 0 25 rfl) (k_X7_counter 0 26 rfl) rfl
theorem dX7_counter_27 : decode cX7_counter 27 = .ok (.ireturn, 1) := dz_172 (k_X7_counter 0 27 rfl)
def B_X7_dearer : List (List Nat) := [[42, 180, 0, 65, 182, 1, 60, 172]]
theorem k_X7_dearer (j i : Nat) {b : Nat} (h : (B_X7_dearer[j]?.bind fun c => c[i]?) = some b) : s_by cX7_dearer (64 * j + i) b := s_byC (L := B_X7_dearer) (by decide +kernel) (by decide +kernel) j i h
theorem dX7_dearer_0 : decode cX7_dearer 0 = .ok (.aload_n 0, 1) := dz_42 (k_X7_dearer 0 0 rfl)
theorem dX7_dearer_1 : decode cX7_dearer 1 = .ok (.getfield 65, 3) := dz_180 (k_X7_dearer 0 1 rfl) (k_X7_dearer 0 2 rfl) (k_X7_dearer 0 3 rfl) rfl
theorem dX7_dearer_4 : decode cX7_dearer 4 = .ok (.invokevirtual 316, 3) := dz_182 (k_X7_dearer 0 4 rfl) (k_X7_dearer 0 5 rfl) (k_X7_dearer 0 6 rfl) rfl
theorem dX7_dearer_7 : decode cX7_dearer 7 = .ok (.ireturn, 1) := dz_172 (k_X7_dearer 0 7 rfl)
def B_X7_end : List (List Nat) := [[42, 180, 0, 31, 27, 182, 0, 81, 172]]
theorem k_X7_end (j i : Nat) {b : Nat} (h : (B_X7_end[j]?.bind fun c => c[i]?) = some b) : s_by cX7_end (64 * j + i) b := s_byC (L := B_X7_end) (by decide +kernel) (by decide +kernel) j i h
theorem dX7_end_0 : decode cX7_end 0 = .ok (.aload_n 0, 1) := dz_42 (k_X7_end 0 0 rfl)
theorem dX7_end_1 : decode cX7_end 1 = .ok (.getfield 31, 3) := dz_180 (k_X7_end 0 1 rfl) (k_X7_end 0 2 rfl) (k_X7_end 0 3 rfl) rfl
theorem dX7_end_4 : decode cX7_end 4 = .ok (.iload_n 1, 1) := dz_27 (k_X7_end 0 4 rfl)
theorem dX7_end_5 : decode cX7_end 5 = .ok (.invokevirtual 81, 3) := dz_182 (k_X7_end 0 5 rfl) (k_X7_end 0 6 rfl) (k_X7_end 0 7 rfl) rfl
theorem dX7_end_8 : decode cX7_end 8 = .ok (.ireturn, 1) := dz_172 (k_X7_end 0 8 rfl)
def B_X7_falls : List (List Nat) := [[42, 27, 182, 0, 171, 42, 28, 182, 0, 128, 42, 180, 0, 19, 180, 0, 174, 27, 46, 4, 28, 120, 2, 130, 126, 62, 42, 180, 0, 49, 27, 29, 182, 0, 229, 42, 180, 0, 49, 2, 3, 182, 0, 229, 20, 0, 233, 131, 127, 173]]
theorem k_X7_falls (j i : Nat) {b : Nat} (h : (B_X7_falls[j]?.bind fun c => c[i]?) = some b) : s_by cX7_falls (64 * j + i) b := s_byC (L := B_X7_falls) (by decide +kernel) (by decide +kernel) j i h
theorem dX7_falls_0 : decode cX7_falls 0 = .ok (.aload_n 0, 1) := dz_42 (k_X7_falls 0 0 rfl)
theorem dX7_falls_1 : decode cX7_falls 1 = .ok (.iload_n 1, 1) := dz_27 (k_X7_falls 0 1 rfl)
theorem dX7_falls_2 : decode cX7_falls 2 = .ok (.invokevirtual 171, 3) := dz_182 (k_X7_falls 0 2 rfl) (k_X7_falls 0 3 rfl) (k_X7_falls 0 4 rfl) rfl
theorem dX7_falls_5 : decode cX7_falls 5 = .ok (.aload_n 0, 1) := dz_42 (k_X7_falls 0 5 rfl)
theorem dX7_falls_6 : decode cX7_falls 6 = .ok (.iload_n 2, 1) := dz_28 (k_X7_falls 0 6 rfl)
theorem dX7_falls_7 : decode cX7_falls 7 = .ok (.invokevirtual 128, 3) := dz_182 (k_X7_falls 0 7 rfl) (k_X7_falls 0 8 rfl) (k_X7_falls 0 9 rfl) rfl
theorem dX7_falls_10 : decode cX7_falls 10 = .ok (.aload_n 0, 1) := dz_42 (k_X7_falls 0 10 rfl)
theorem dX7_falls_11 : decode cX7_falls 11 = .ok (.getfield 19, 3) := dz_180 (k_X7_falls 0 11 rfl) (k_X7_falls 0 12 rfl) (k_X7_falls 0 13 rfl) rfl
theorem dX7_falls_14 : decode cX7_falls 14 = .ok (.getfield 174, 3) := dz_180 (k_X7_falls 0 14 rfl) (k_X7_falls 0 15 rfl) (k_X7_falls 0 16 rfl) rfl
theorem dX7_falls_17 : decode cX7_falls 17 = .ok (.iload_n 1, 1) := dz_27 (k_X7_falls 0 17 rfl)
theorem dX7_falls_18 : decode cX7_falls 18 = .ok (.iaload, 1) := dz_46 (k_X7_falls 0 18 rfl)
theorem dX7_falls_19 : decode cX7_falls 19 = .ok (.iconst 1, 1) := dz_4 (k_X7_falls 0 19 rfl)
theorem dX7_falls_20 : decode cX7_falls 20 = .ok (.iload_n 2, 1) := dz_28 (k_X7_falls 0 20 rfl)
theorem dX7_falls_21 : decode cX7_falls 21 = .ok (.ishl, 1) := dz_120 (k_X7_falls 0 21 rfl)
theorem dX7_falls_22 : decode cX7_falls 22 = .ok (.iconst (-1), 1) := dz_2 (k_X7_falls 0 22 rfl)
theorem dX7_falls_23 : decode cX7_falls 23 = .ok (.ixor, 1) := dz_130 (k_X7_falls 0 23 rfl)
theorem dX7_falls_24 : decode cX7_falls 24 = .ok (.iand, 1) := dz_126 (k_X7_falls 0 24 rfl)
theorem dX7_falls_25 : decode cX7_falls 25 = .ok (.istore_n 3, 1) := dz_62 (k_X7_falls 0 25 rfl)
theorem dX7_falls_26 : decode cX7_falls 26 = .ok (.aload_n 0, 1) := dz_42 (k_X7_falls 0 26 rfl)
theorem dX7_falls_27 : decode cX7_falls 27 = .ok (.getfield 49, 3) := dz_180 (k_X7_falls 0 27 rfl) (k_X7_falls 0 28 rfl) (k_X7_falls 0 29 rfl) rfl
theorem dX7_falls_30 : decode cX7_falls 30 = .ok (.iload_n 1, 1) := dz_27 (k_X7_falls 0 30 rfl)
theorem dX7_falls_31 : decode cX7_falls 31 = .ok (.iload_n 3, 1) := dz_29 (k_X7_falls 0 31 rfl)
theorem dX7_falls_32 : decode cX7_falls 32 = .ok (.invokevirtual 229, 3) := dz_182 (k_X7_falls 0 32 rfl) (k_X7_falls 0 33 rfl) (k_X7_falls 0 34 rfl) rfl
theorem dX7_falls_35 : decode cX7_falls 35 = .ok (.aload_n 0, 1) := dz_42 (k_X7_falls 0 35 rfl)
theorem dX7_falls_36 : decode cX7_falls 36 = .ok (.getfield 49, 3) := dz_180 (k_X7_falls 0 36 rfl) (k_X7_falls 0 37 rfl) (k_X7_falls 0 38 rfl) rfl
theorem dX7_falls_39 : decode cX7_falls 39 = .ok (.iconst (-1), 1) := dz_2 (k_X7_falls 0 39 rfl)
theorem dX7_falls_40 : decode cX7_falls 40 = .ok (.iconst 0, 1) := dz_3 (k_X7_falls 0 40 rfl)
theorem dX7_falls_41 : decode cX7_falls 41 = .ok (.invokevirtual 229, 3) := dz_182 (k_X7_falls 0 41 rfl) (k_X7_falls 0 42 rfl) (k_X7_falls 0 43 rfl) rfl
theorem dX7_falls_44 : decode cX7_falls 44 = .ok (.ldc2_w 233, 3) := dz_20 (k_X7_falls 0 44 rfl) (k_X7_falls 0 45 rfl) (k_X7_falls 0 46 rfl) rfl
theorem dX7_falls_47 : decode cX7_falls 47 = .ok (.lxor, 1) := dz_131 (k_X7_falls 0 47 rfl)
theorem dX7_falls_48 : decode cX7_falls 48 = .ok (.land, 1) := dz_127 (k_X7_falls 0 48 rfl)
theorem dX7_falls_49 : decode cX7_falls 49 = .ok (.lreturn, 1) := dz_173 (k_X7_falls 0 49 rfl)
def B_X7_fault : List (List Nat) := [[42, 180, 0, 31, 180, 0, 118, 172]]
theorem k_X7_fault (j i : Nat) {b : Nat} (h : (B_X7_fault[j]?.bind fun c => c[i]?) = some b) : s_by cX7_fault (64 * j + i) b := s_byC (L := B_X7_fault) (by decide +kernel) (by decide +kernel) j i h
theorem dX7_fault_0 : decode cX7_fault 0 = .ok (.aload_n 0, 1) := dz_42 (k_X7_fault 0 0 rfl)
theorem dX7_fault_1 : decode cX7_fault 1 = .ok (.getfield 31, 3) := dz_180 (k_X7_fault 0 1 rfl) (k_X7_fault 0 2 rfl) (k_X7_fault 0 3 rfl) rfl
theorem dX7_fault_4 : decode cX7_fault 4 = .ok (.getfield 118, 3) := dz_180 (k_X7_fault 0 4 rfl) (k_X7_fault 0 5 rfl) (k_X7_fault 0 6 rfl) rfl
theorem dX7_fault_7 : decode cX7_fault 7 = .ok (.ireturn, 1) := dz_172 (k_X7_fault 0 7 rfl)
def B_X7_feed : List (List Nat) := [[42, 180, 0, 31, 16, 20, 182, 0, 69, 154, 0, 5, 2, 172, 42, 180, 0, 31, 27, 182, 0, 73, 42, 180, 0, 31, 28, 182, 0, 73, 42, 180, 0, 31, 29, 182, 0, 73, 42, 180, 0, 31, 21, 4, 182, 0, 73, 42, 180, 0, 31, 21, 5, 182, 0, 73, 42, 180, 0, 31, 180, 0, 77, 172]]
theorem k_X7_feed (j i : Nat) {b : Nat} (h : (B_X7_feed[j]?.bind fun c => c[i]?) = some b) : s_by cX7_feed (64 * j + i) b := s_byC (L := B_X7_feed) (by decide +kernel) (by decide +kernel) j i h
theorem dX7_feed_0 : decode cX7_feed 0 = .ok (.aload_n 0, 1) := dz_42 (k_X7_feed 0 0 rfl)
theorem dX7_feed_1 : decode cX7_feed 1 = .ok (.getfield 31, 3) := dz_180 (k_X7_feed 0 1 rfl) (k_X7_feed 0 2 rfl) (k_X7_feed 0 3 rfl) rfl
theorem dX7_feed_4 : decode cX7_feed 4 = .ok (.bipush 20, 2) := dz_16 (k_X7_feed 0 4 rfl) (k_X7_feed 0 5 rfl) rfl
theorem dX7_feed_6 : decode cX7_feed 6 = .ok (.invokevirtual 69, 3) := dz_182 (k_X7_feed 0 6 rfl) (k_X7_feed 0 7 rfl) (k_X7_feed 0 8 rfl) rfl
theorem dX7_feed_9 : decode cX7_feed 9 = .ok (.ifCond .ne 5, 3) := dz_154 (k_X7_feed 0 9 rfl) (k_X7_feed 0 10 rfl) (k_X7_feed 0 11 rfl) rfl
theorem dX7_feed_12 : decode cX7_feed 12 = .ok (.iconst (-1), 1) := dz_2 (k_X7_feed 0 12 rfl)
theorem dX7_feed_13 : decode cX7_feed 13 = .ok (.ireturn, 1) := dz_172 (k_X7_feed 0 13 rfl)
theorem dX7_feed_14 : decode cX7_feed 14 = .ok (.aload_n 0, 1) := dz_42 (k_X7_feed 0 14 rfl)
theorem dX7_feed_15 : decode cX7_feed 15 = .ok (.getfield 31, 3) := dz_180 (k_X7_feed 0 15 rfl) (k_X7_feed 0 16 rfl) (k_X7_feed 0 17 rfl) rfl
theorem dX7_feed_18 : decode cX7_feed 18 = .ok (.iload_n 1, 1) := dz_27 (k_X7_feed 0 18 rfl)
theorem dX7_feed_19 : decode cX7_feed 19 = .ok (.invokevirtual 73, 3) := dz_182 (k_X7_feed 0 19 rfl) (k_X7_feed 0 20 rfl) (k_X7_feed 0 21 rfl) rfl
theorem dX7_feed_22 : decode cX7_feed 22 = .ok (.aload_n 0, 1) := dz_42 (k_X7_feed 0 22 rfl)
theorem dX7_feed_23 : decode cX7_feed 23 = .ok (.getfield 31, 3) := dz_180 (k_X7_feed 0 23 rfl) (k_X7_feed 0 24 rfl) (k_X7_feed 0 25 rfl) rfl
theorem dX7_feed_26 : decode cX7_feed 26 = .ok (.iload_n 2, 1) := dz_28 (k_X7_feed 0 26 rfl)
theorem dX7_feed_27 : decode cX7_feed 27 = .ok (.invokevirtual 73, 3) := dz_182 (k_X7_feed 0 27 rfl) (k_X7_feed 0 28 rfl) (k_X7_feed 0 29 rfl) rfl
theorem dX7_feed_30 : decode cX7_feed 30 = .ok (.aload_n 0, 1) := dz_42 (k_X7_feed 0 30 rfl)
theorem dX7_feed_31 : decode cX7_feed 31 = .ok (.getfield 31, 3) := dz_180 (k_X7_feed 0 31 rfl) (k_X7_feed 0 32 rfl) (k_X7_feed 0 33 rfl) rfl
theorem dX7_feed_34 : decode cX7_feed 34 = .ok (.iload_n 3, 1) := dz_29 (k_X7_feed 0 34 rfl)
theorem dX7_feed_35 : decode cX7_feed 35 = .ok (.invokevirtual 73, 3) := dz_182 (k_X7_feed 0 35 rfl) (k_X7_feed 0 36 rfl) (k_X7_feed 0 37 rfl) rfl
theorem dX7_feed_38 : decode cX7_feed 38 = .ok (.aload_n 0, 1) := dz_42 (k_X7_feed 0 38 rfl)
theorem dX7_feed_39 : decode cX7_feed 39 = .ok (.getfield 31, 3) := dz_180 (k_X7_feed 0 39 rfl) (k_X7_feed 0 40 rfl) (k_X7_feed 0 41 rfl) rfl
theorem dX7_feed_42 : decode cX7_feed 42 = .ok (.iload 4, 2) := dz_21 (k_X7_feed 0 42 rfl) (k_X7_feed 0 43 rfl)
theorem dX7_feed_44 : decode cX7_feed 44 = .ok (.invokevirtual 73, 3) := dz_182 (k_X7_feed 0 44 rfl) (k_X7_feed 0 45 rfl) (k_X7_feed 0 46 rfl) rfl
theorem dX7_feed_47 : decode cX7_feed 47 = .ok (.aload_n 0, 1) := dz_42 (k_X7_feed 0 47 rfl)
theorem dX7_feed_48 : decode cX7_feed 48 = .ok (.getfield 31, 3) := dz_180 (k_X7_feed 0 48 rfl) (k_X7_feed 0 49 rfl) (k_X7_feed 0 50 rfl) rfl
theorem dX7_feed_51 : decode cX7_feed 51 = .ok (.iload 5, 2) := dz_21 (k_X7_feed 0 51 rfl) (k_X7_feed 0 52 rfl)
theorem dX7_feed_53 : decode cX7_feed 53 = .ok (.invokevirtual 73, 3) := dz_182 (k_X7_feed 0 53 rfl) (k_X7_feed 0 54 rfl) (k_X7_feed 0 55 rfl) rfl
theorem dX7_feed_56 : decode cX7_feed 56 = .ok (.aload_n 0, 1) := dz_42 (k_X7_feed 0 56 rfl)
theorem dX7_feed_57 : decode cX7_feed 57 = .ok (.getfield 31, 3) := dz_180 (k_X7_feed 0 57 rfl) (k_X7_feed 0 58 rfl) (k_X7_feed 0 59 rfl) rfl
theorem dX7_feed_60 : decode cX7_feed 60 = .ok (.getfield 77, 3) := dz_180 (k_X7_feed 0 60 rfl) (k_X7_feed 0 61 rfl) (k_X7_feed 0 62 rfl) rfl
theorem dX7_feed_63 : decode cX7_feed 63 = .ok (.ireturn, 1) := dz_172 (k_X7_feed 0 63 rfl)
def B_X7_follows : List (List Nat) := [[42, 27, 182, 0, 171, 42, 28, 182, 0, 128, 42, 180, 0, 40, 42, 180, 0, 19, 180, 0, 174, 27, 46, 28, 182, 0, 235, 2, 160, 0, 7, 4, 167, 0, 4, 3, 172]]
theorem k_X7_follows (j i : Nat) {b : Nat} (h : (B_X7_follows[j]?.bind fun c => c[i]?) = some b) : s_by cX7_follows (64 * j + i) b := s_byC (L := B_X7_follows) (by decide +kernel) (by decide +kernel) j i h
theorem dX7_follows_0 : decode cX7_follows 0 = .ok (.aload_n 0, 1) := dz_42 (k_X7_follows 0 0 rfl)
theorem dX7_follows_1 : decode cX7_follows 1 = .ok (.iload_n 1, 1) := dz_27 (k_X7_follows 0 1 rfl)
theorem dX7_follows_2 : decode cX7_follows 2 = .ok (.invokevirtual 171, 3) := dz_182 (k_X7_follows 0 2 rfl) (k_X7_follows 0 3 rfl) (k_X7_follows 0 4 rfl) rfl
theorem dX7_follows_5 : decode cX7_follows 5 = .ok (.aload_n 0, 1) := dz_42 (k_X7_follows 0 5 rfl)
theorem dX7_follows_6 : decode cX7_follows 6 = .ok (.iload_n 2, 1) := dz_28 (k_X7_follows 0 6 rfl)
theorem dX7_follows_7 : decode cX7_follows 7 = .ok (.invokevirtual 128, 3) := dz_182 (k_X7_follows 0 7 rfl) (k_X7_follows 0 8 rfl) (k_X7_follows 0 9 rfl) rfl
theorem dX7_follows_10 : decode cX7_follows 10 = .ok (.aload_n 0, 1) := dz_42 (k_X7_follows 0 10 rfl)
theorem dX7_follows_11 : decode cX7_follows 11 = .ok (.getfield 40, 3) := dz_180 (k_X7_follows 0 11 rfl) (k_X7_follows 0 12 rfl) (k_X7_follows 0 13 rfl) rfl
theorem dX7_follows_14 : decode cX7_follows 14 = .ok (.aload_n 0, 1) := dz_42 (k_X7_follows 0 14 rfl)
theorem dX7_follows_15 : decode cX7_follows 15 = .ok (.getfield 19, 3) := dz_180 (k_X7_follows 0 15 rfl) (k_X7_follows 0 16 rfl) (k_X7_follows 0 17 rfl) rfl
theorem dX7_follows_18 : decode cX7_follows 18 = .ok (.getfield 174, 3) := dz_180 (k_X7_follows 0 18 rfl) (k_X7_follows 0 19 rfl) (k_X7_follows 0 20 rfl) rfl
theorem dX7_follows_21 : decode cX7_follows 21 = .ok (.iload_n 1, 1) := dz_27 (k_X7_follows 0 21 rfl)
theorem dX7_follows_22 : decode cX7_follows 22 = .ok (.iaload, 1) := dz_46 (k_X7_follows 0 22 rfl)
theorem dX7_follows_23 : decode cX7_follows 23 = .ok (.iload_n 2, 1) := dz_28 (k_X7_follows 0 23 rfl)
theorem dX7_follows_24 : decode cX7_follows 24 = .ok (.invokevirtual 235, 3) := dz_182 (k_X7_follows 0 24 rfl) (k_X7_follows 0 25 rfl) (k_X7_follows 0 26 rfl) rfl
theorem dX7_follows_27 : decode cX7_follows 27 = .ok (.iconst (-1), 1) := dz_2 (k_X7_follows 0 27 rfl)
theorem dX7_follows_28 : decode cX7_follows 28 = .ok (.if_icmp .ne 7, 3) := dz_160 (k_X7_follows 0 28 rfl) (k_X7_follows 0 29 rfl) (k_X7_follows 0 30 rfl) rfl
theorem dX7_follows_31 : decode cX7_follows 31 = .ok (.iconst 1, 1) := dz_4 (k_X7_follows 0 31 rfl)
theorem dX7_follows_32 : decode cX7_follows 32 = .ok (.goto 4, 3) := dz_167 (k_X7_follows 0 32 rfl) (k_X7_follows 0 33 rfl) (k_X7_follows 0 34 rfl) rfl
theorem dX7_follows_35 : decode cX7_follows 35 = .ok (.iconst 0, 1) := dz_3 (k_X7_follows 0 35 rfl)
theorem dX7_follows_36 : decode cX7_follows 36 = .ok (.ireturn, 1) := dz_172 (k_X7_follows 0 36 rfl)
def B_X7_formula : List (List Nat) := [[42, 180, 0, 31, 42, 180, 0, 19, 180, 0, 84, 182, 0, 87, 60, 27, 2, 160, 0, 27, 42, 180, 0, 12, 42, 180, 0, 19, 180, 0, 91, 182, 0, 94, 187, 0, 96, 89, 18, 98, 183, 0, 100, 191, 42, 180, 0, 19, 180, 0, 103, 16, 30, 161, 0, 27, 42, 180, 0, 12, 42, 180, 0, 19], [180, 0, 91, 182, 0, 94, 187, 0, 106, 89, 18, 108, 183, 0, 110, 191, 42, 180, 0, 19, 42, 180, 0, 12, 180, 0, 111, 181, 0, 91, 42, 180, 0, 19, 27, 42, 180, 0, 12, 182, 0, 114, 172]]
theorem k_X7_formula (j i : Nat) {b : Nat} (h : (B_X7_formula[j]?.bind fun c => c[i]?) = some b) : s_by cX7_formula (64 * j + i) b := s_byC (L := B_X7_formula) (by decide +kernel) (by decide +kernel) j i h
theorem dX7_formula_0 : decode cX7_formula 0 = .ok (.aload_n 0, 1) := dz_42 (k_X7_formula 0 0 rfl)
theorem dX7_formula_1 : decode cX7_formula 1 = .ok (.getfield 31, 3) := dz_180 (k_X7_formula 0 1 rfl) (k_X7_formula 0 2 rfl) (k_X7_formula 0 3 rfl) rfl
theorem dX7_formula_4 : decode cX7_formula 4 = .ok (.aload_n 0, 1) := dz_42 (k_X7_formula 0 4 rfl)
theorem dX7_formula_5 : decode cX7_formula 5 = .ok (.getfield 19, 3) := dz_180 (k_X7_formula 0 5 rfl) (k_X7_formula 0 6 rfl) (k_X7_formula 0 7 rfl) rfl
theorem dX7_formula_8 : decode cX7_formula 8 = .ok (.getfield 84, 3) := dz_180 (k_X7_formula 0 8 rfl) (k_X7_formula 0 9 rfl) (k_X7_formula 0 10 rfl) rfl
theorem dX7_formula_11 : decode cX7_formula 11 = .ok (.invokevirtual 87, 3) := dz_182 (k_X7_formula 0 11 rfl) (k_X7_formula 0 12 rfl) (k_X7_formula 0 13 rfl) rfl
theorem dX7_formula_14 : decode cX7_formula 14 = .ok (.istore_n 1, 1) := dz_60 (k_X7_formula 0 14 rfl)
theorem dX7_formula_15 : decode cX7_formula 15 = .ok (.iload_n 1, 1) := dz_27 (k_X7_formula 0 15 rfl)
theorem dX7_formula_16 : decode cX7_formula 16 = .ok (.iconst (-1), 1) := dz_2 (k_X7_formula 0 16 rfl)
theorem dX7_formula_17 : decode cX7_formula 17 = .ok (.if_icmp .ne 27, 3) := dz_160 (k_X7_formula 0 17 rfl) (k_X7_formula 0 18 rfl) (k_X7_formula 0 19 rfl) rfl
theorem dX7_formula_20 : decode cX7_formula 20 = .ok (.aload_n 0, 1) := dz_42 (k_X7_formula 0 20 rfl)
theorem dX7_formula_21 : decode cX7_formula 21 = .ok (.getfield 12, 3) := dz_180 (k_X7_formula 0 21 rfl) (k_X7_formula 0 22 rfl) (k_X7_formula 0 23 rfl) rfl
theorem dX7_formula_24 : decode cX7_formula 24 = .ok (.aload_n 0, 1) := dz_42 (k_X7_formula 0 24 rfl)
theorem dX7_formula_25 : decode cX7_formula 25 = .ok (.getfield 19, 3) := dz_180 (k_X7_formula 0 25 rfl) (k_X7_formula 0 26 rfl) (k_X7_formula 0 27 rfl) rfl
theorem dX7_formula_28 : decode cX7_formula 28 = .ok (.getfield 91, 3) := dz_180 (k_X7_formula 0 28 rfl) (k_X7_formula 0 29 rfl) (k_X7_formula 0 30 rfl) rfl
theorem dX7_formula_31 : decode cX7_formula 31 = .ok (.invokevirtual 94, 3) := dz_182 (k_X7_formula 0 31 rfl) (k_X7_formula 0 32 rfl) (k_X7_formula 0 33 rfl) rfl
theorem dX7_formula_34 : decode cX7_formula 34 = .ok (.new 96, 3) := dz_187 (k_X7_formula 0 34 rfl) (k_X7_formula 0 35 rfl) (k_X7_formula 0 36 rfl) rfl
theorem dX7_formula_37 : decode cX7_formula 37 = .ok (.dup, 1) := dz_89 (k_X7_formula 0 37 rfl)
theorem dX7_formula_38 : decode cX7_formula 38 = .ok (.ldc 98, 2) := dz_18 (k_X7_formula 0 38 rfl) (k_X7_formula 0 39 rfl)
theorem dX7_formula_40 : decode cX7_formula 40 = .ok (.invokespecial 100, 3) := dz_183 (k_X7_formula 0 40 rfl) (k_X7_formula 0 41 rfl) (k_X7_formula 0 42 rfl) rfl
theorem dX7_formula_43 : decode cX7_formula 43 = .ok (.athrow, 1) := dz_191 (k_X7_formula 0 43 rfl)
theorem dX7_formula_44 : decode cX7_formula 44 = .ok (.aload_n 0, 1) := dz_42 (k_X7_formula 0 44 rfl)
theorem dX7_formula_45 : decode cX7_formula 45 = .ok (.getfield 19, 3) := dz_180 (k_X7_formula 0 45 rfl) (k_X7_formula 0 46 rfl) (k_X7_formula 0 47 rfl) rfl
theorem dX7_formula_48 : decode cX7_formula 48 = .ok (.getfield 103, 3) := dz_180 (k_X7_formula 0 48 rfl) (k_X7_formula 0 49 rfl) (k_X7_formula 0 50 rfl) rfl
theorem dX7_formula_51 : decode cX7_formula 51 = .ok (.bipush 30, 2) := dz_16 (k_X7_formula 0 51 rfl) (k_X7_formula 0 52 rfl) rfl
theorem dX7_formula_53 : decode cX7_formula 53 = .ok (.if_icmp .lt 27, 3) := dz_161 (k_X7_formula 0 53 rfl) (k_X7_formula 0 54 rfl) (k_X7_formula 0 55 rfl) rfl
theorem dX7_formula_56 : decode cX7_formula 56 = .ok (.aload_n 0, 1) := dz_42 (k_X7_formula 0 56 rfl)
theorem dX7_formula_57 : decode cX7_formula 57 = .ok (.getfield 12, 3) := dz_180 (k_X7_formula 0 57 rfl) (k_X7_formula 0 58 rfl) (k_X7_formula 0 59 rfl) rfl
theorem dX7_formula_60 : decode cX7_formula 60 = .ok (.aload_n 0, 1) := dz_42 (k_X7_formula 0 60 rfl)
theorem dX7_formula_61 : decode cX7_formula 61 = .ok (.getfield 19, 3) := dz_180 (k_X7_formula 0 61 rfl) (k_X7_formula 0 62 rfl) (k_X7_formula 0 63 rfl) rfl
theorem dX7_formula_64 : decode cX7_formula 64 = .ok (.getfield 91, 3) := dz_180 (k_X7_formula 1 0 rfl) (k_X7_formula 1 1 rfl) (k_X7_formula 1 2 rfl) rfl
theorem dX7_formula_67 : decode cX7_formula 67 = .ok (.invokevirtual 94, 3) := dz_182 (k_X7_formula 1 3 rfl) (k_X7_formula 1 4 rfl) (k_X7_formula 1 5 rfl) rfl
theorem dX7_formula_70 : decode cX7_formula 70 = .ok (.new 106, 3) := dz_187 (k_X7_formula 1 6 rfl) (k_X7_formula 1 7 rfl) (k_X7_formula 1 8 rfl) rfl
theorem dX7_formula_73 : decode cX7_formula 73 = .ok (.dup, 1) := dz_89 (k_X7_formula 1 9 rfl)
theorem dX7_formula_74 : decode cX7_formula 74 = .ok (.ldc 108, 2) := dz_18 (k_X7_formula 1 10 rfl) (k_X7_formula 1 11 rfl)
theorem dX7_formula_76 : decode cX7_formula 76 = .ok (.invokespecial 110, 3) := dz_183 (k_X7_formula 1 12 rfl) (k_X7_formula 1 13 rfl) (k_X7_formula 1 14 rfl) rfl
theorem dX7_formula_79 : decode cX7_formula 79 = .ok (.athrow, 1) := dz_191 (k_X7_formula 1 15 rfl)
theorem dX7_formula_80 : decode cX7_formula 80 = .ok (.aload_n 0, 1) := dz_42 (k_X7_formula 1 16 rfl)
theorem dX7_formula_81 : decode cX7_formula 81 = .ok (.getfield 19, 3) := dz_180 (k_X7_formula 1 17 rfl) (k_X7_formula 1 18 rfl) (k_X7_formula 1 19 rfl) rfl
theorem dX7_formula_84 : decode cX7_formula 84 = .ok (.aload_n 0, 1) := dz_42 (k_X7_formula 1 20 rfl)
theorem dX7_formula_85 : decode cX7_formula 85 = .ok (.getfield 12, 3) := dz_180 (k_X7_formula 1 21 rfl) (k_X7_formula 1 22 rfl) (k_X7_formula 1 23 rfl) rfl
theorem dX7_formula_88 : decode cX7_formula 88 = .ok (.getfield 111, 3) := dz_180 (k_X7_formula 1 24 rfl) (k_X7_formula 1 25 rfl) (k_X7_formula 1 26 rfl) rfl
theorem dX7_formula_91 : decode cX7_formula 91 = .ok (.putfield 91, 3) := dz_181 (k_X7_formula 1 27 rfl) (k_X7_formula 1 28 rfl) (k_X7_formula 1 29 rfl) rfl
theorem dX7_formula_94 : decode cX7_formula 94 = .ok (.aload_n 0, 1) := dz_42 (k_X7_formula 1 30 rfl)
theorem dX7_formula_95 : decode cX7_formula 95 = .ok (.getfield 19, 3) := dz_180 (k_X7_formula 1 31 rfl) (k_X7_formula 1 32 rfl) (k_X7_formula 1 33 rfl) rfl
theorem dX7_formula_98 : decode cX7_formula 98 = .ok (.iload_n 1, 1) := dz_27 (k_X7_formula 1 34 rfl)
theorem dX7_formula_99 : decode cX7_formula 99 = .ok (.aload_n 0, 1) := dz_42 (k_X7_formula 1 35 rfl)
theorem dX7_formula_100 : decode cX7_formula 100 = .ok (.getfield 12, 3) := dz_180 (k_X7_formula 1 36 rfl) (k_X7_formula 1 37 rfl) (k_X7_formula 1 38 rfl) rfl
theorem dX7_formula_103 : decode cX7_formula 103 = .ok (.invokevirtual 114, 3) := dz_182 (k_X7_formula 1 39 rfl) (k_X7_formula 1 40 rfl) (k_X7_formula 1 41 rfl) rfl
theorem dX7_formula_106 : decode cX7_formula 106 = .ok (.ireturn, 1) := dz_172 (k_X7_formula 1 42 rfl)
def B_X7_forward : List (List Nat) := [[42, 27, 28, 29, 182, 0, 238, 42, 180, 0, 56, 27, 182, 0, 241, 54, 4, 21, 4, 2, 160, 0, 5, 2, 172, 42, 180, 0, 56, 27, 182, 0, 250, 54, 5, 21, 5, 2, 160, 0, 7, 3, 167, 0, 12, 3, 21, 4, 21, 5, 100, 184, 0, 253, 172]]
theorem k_X7_forward (j i : Nat) {b : Nat} (h : (B_X7_forward[j]?.bind fun c => c[i]?) = some b) : s_by cX7_forward (64 * j + i) b := s_byC (L := B_X7_forward) (by decide +kernel) (by decide +kernel) j i h
theorem dX7_forward_0 : decode cX7_forward 0 = .ok (.aload_n 0, 1) := dz_42 (k_X7_forward 0 0 rfl)
theorem dX7_forward_1 : decode cX7_forward 1 = .ok (.iload_n 1, 1) := dz_27 (k_X7_forward 0 1 rfl)
theorem dX7_forward_2 : decode cX7_forward 2 = .ok (.iload_n 2, 1) := dz_28 (k_X7_forward 0 2 rfl)
theorem dX7_forward_3 : decode cX7_forward 3 = .ok (.iload_n 3, 1) := dz_29 (k_X7_forward 0 3 rfl)
theorem dX7_forward_4 : decode cX7_forward 4 = .ok (.invokevirtual 238, 3) := dz_182 (k_X7_forward 0 4 rfl) (k_X7_forward 0 5 rfl) (k_X7_forward 0 6 rfl) rfl
theorem dX7_forward_7 : decode cX7_forward 7 = .ok (.aload_n 0, 1) := dz_42 (k_X7_forward 0 7 rfl)
theorem dX7_forward_8 : decode cX7_forward 8 = .ok (.getfield 56, 3) := dz_180 (k_X7_forward 0 8 rfl) (k_X7_forward 0 9 rfl) (k_X7_forward 0 10 rfl) rfl
theorem dX7_forward_11 : decode cX7_forward 11 = .ok (.iload_n 1, 1) := dz_27 (k_X7_forward 0 11 rfl)
theorem dX7_forward_12 : decode cX7_forward 12 = .ok (.invokevirtual 241, 3) := dz_182 (k_X7_forward 0 12 rfl) (k_X7_forward 0 13 rfl) (k_X7_forward 0 14 rfl) rfl
theorem dX7_forward_15 : decode cX7_forward 15 = .ok (.istore 4, 2) := dz_54 (k_X7_forward 0 15 rfl) (k_X7_forward 0 16 rfl)
theorem dX7_forward_17 : decode cX7_forward 17 = .ok (.iload 4, 2) := dz_21 (k_X7_forward 0 17 rfl) (k_X7_forward 0 18 rfl)
theorem dX7_forward_19 : decode cX7_forward 19 = .ok (.iconst (-1), 1) := dz_2 (k_X7_forward 0 19 rfl)
theorem dX7_forward_20 : decode cX7_forward 20 = .ok (.if_icmp .ne 5, 3) := dz_160 (k_X7_forward 0 20 rfl) (k_X7_forward 0 21 rfl) (k_X7_forward 0 22 rfl) rfl
theorem dX7_forward_23 : decode cX7_forward 23 = .ok (.iconst (-1), 1) := dz_2 (k_X7_forward 0 23 rfl)
theorem dX7_forward_24 : decode cX7_forward 24 = .ok (.ireturn, 1) := dz_172 (k_X7_forward 0 24 rfl)
theorem dX7_forward_25 : decode cX7_forward 25 = .ok (.aload_n 0, 1) := dz_42 (k_X7_forward 0 25 rfl)
theorem dX7_forward_26 : decode cX7_forward 26 = .ok (.getfield 56, 3) := dz_180 (k_X7_forward 0 26 rfl) (k_X7_forward 0 27 rfl) (k_X7_forward 0 28 rfl) rfl
theorem dX7_forward_29 : decode cX7_forward 29 = .ok (.iload_n 1, 1) := dz_27 (k_X7_forward 0 29 rfl)
theorem dX7_forward_30 : decode cX7_forward 30 = .ok (.invokevirtual 250, 3) := dz_182 (k_X7_forward 0 30 rfl) (k_X7_forward 0 31 rfl) (k_X7_forward 0 32 rfl) rfl
theorem dX7_forward_33 : decode cX7_forward 33 = .ok (.istore 5, 2) := dz_54 (k_X7_forward 0 33 rfl) (k_X7_forward 0 34 rfl)
theorem dX7_forward_35 : decode cX7_forward 35 = .ok (.iload 5, 2) := dz_21 (k_X7_forward 0 35 rfl) (k_X7_forward 0 36 rfl)
theorem dX7_forward_37 : decode cX7_forward 37 = .ok (.iconst (-1), 1) := dz_2 (k_X7_forward 0 37 rfl)
theorem dX7_forward_38 : decode cX7_forward 38 = .ok (.if_icmp .ne 7, 3) := dz_160 (k_X7_forward 0 38 rfl) (k_X7_forward 0 39 rfl) (k_X7_forward 0 40 rfl) rfl
theorem dX7_forward_41 : decode cX7_forward 41 = .ok (.iconst 0, 1) := dz_3 (k_X7_forward 0 41 rfl)
theorem dX7_forward_42 : decode cX7_forward 42 = .ok (.goto 12, 3) := dz_167 (k_X7_forward 0 42 rfl) (k_X7_forward 0 43 rfl) (k_X7_forward 0 44 rfl) rfl
theorem dX7_forward_45 : decode cX7_forward 45 = .ok (.iconst 0, 1) := dz_3 (k_X7_forward 0 45 rfl)
theorem dX7_forward_46 : decode cX7_forward 46 = .ok (.iload 4, 2) := dz_21 (k_X7_forward 0 46 rfl) (k_X7_forward 0 47 rfl)
theorem dX7_forward_48 : decode cX7_forward 48 = .ok (.iload 5, 2) := dz_21 (k_X7_forward 0 48 rfl) (k_X7_forward 0 49 rfl)
theorem dX7_forward_50 : decode cX7_forward 50 = .ok (.isub, 1) := dz_100 (k_X7_forward 0 50 rfl)
theorem dX7_forward_51 : decode cX7_forward 51 = .ok (.invokestatic 253, 3) := dz_184 (k_X7_forward 0 51 rfl) (k_X7_forward 0 52 rfl) (k_X7_forward 0 53 rfl) rfl
theorem dX7_forward_54 : decode cX7_forward 54 = .ok (.ireturn, 1) := dz_172 (k_X7_forward 0 54 rfl)
def B_X7_gains : List (List Nat) := [[42, 27, 182, 0, 146, 42, 28, 182, 1, 26, 42, 180, 0, 49, 182, 0, 209, 42, 180, 0, 65, 27, 28, 182, 1, 29, 172]]
theorem k_X7_gains (j i : Nat) {b : Nat} (h : (B_X7_gains[j]?.bind fun c => c[i]?) = some b) : s_by cX7_gains (64 * j + i) b := s_byC (L := B_X7_gains) (by decide +kernel) (by decide +kernel) j i h
theorem dX7_gains_0 : decode cX7_gains 0 = .ok (.aload_n 0, 1) := dz_42 (k_X7_gains 0 0 rfl)
theorem dX7_gains_1 : decode cX7_gains 1 = .ok (.iload_n 1, 1) := dz_27 (k_X7_gains 0 1 rfl)
theorem dX7_gains_2 : decode cX7_gains 2 = .ok (.invokevirtual 146, 3) := dz_182 (k_X7_gains 0 2 rfl) (k_X7_gains 0 3 rfl) (k_X7_gains 0 4 rfl) rfl
theorem dX7_gains_5 : decode cX7_gains 5 = .ok (.aload_n 0, 1) := dz_42 (k_X7_gains 0 5 rfl)
theorem dX7_gains_6 : decode cX7_gains 6 = .ok (.iload_n 2, 1) := dz_28 (k_X7_gains 0 6 rfl)
theorem dX7_gains_7 : decode cX7_gains 7 = .ok (.invokevirtual 282, 3) := dz_182 (k_X7_gains 0 7 rfl) (k_X7_gains 0 8 rfl) (k_X7_gains 0 9 rfl) rfl
theorem dX7_gains_10 : decode cX7_gains 10 = .ok (.aload_n 0, 1) := dz_42 (k_X7_gains 0 10 rfl)
theorem dX7_gains_11 : decode cX7_gains 11 = .ok (.getfield 49, 3) := dz_180 (k_X7_gains 0 11 rfl) (k_X7_gains 0 12 rfl) (k_X7_gains 0 13 rfl) rfl
theorem dX7_gains_14 : decode cX7_gains 14 = .ok (.invokevirtual 209, 3) := dz_182 (k_X7_gains 0 14 rfl) (k_X7_gains 0 15 rfl) (k_X7_gains 0 16 rfl) rfl
theorem dX7_gains_17 : decode cX7_gains 17 = .ok (.aload_n 0, 1) := dz_42 (k_X7_gains 0 17 rfl)
theorem dX7_gains_18 : decode cX7_gains 18 = .ok (.getfield 65, 3) := dz_180 (k_X7_gains 0 18 rfl) (k_X7_gains 0 19 rfl) (k_X7_gains 0 20 rfl) rfl
theorem dX7_gains_21 : decode cX7_gains 21 = .ok (.iload_n 1, 1) := dz_27 (k_X7_gains 0 21 rfl)
theorem dX7_gains_22 : decode cX7_gains 22 = .ok (.iload_n 2, 1) := dz_28 (k_X7_gains 0 22 rfl)
theorem dX7_gains_23 : decode cX7_gains 23 = .ok (.invokevirtual 285, 3) := dz_182 (k_X7_gains 0 23 rfl) (k_X7_gains 0 24 rfl) (k_X7_gains 0 25 rfl) rfl
theorem dX7_gains_26 : decode cX7_gains 26 = .ok (.ireturn, 1) := dz_172 (k_X7_gains 0 26 rfl)
def B_X7_holds : List (List Nat) := [[42, 27, 182, 0, 128, 42, 28, 182, 0, 137, 42, 180, 0, 19, 27, 28, 182, 0, 140, 172]]
theorem k_X7_holds (j i : Nat) {b : Nat} (h : (B_X7_holds[j]?.bind fun c => c[i]?) = some b) : s_by cX7_holds (64 * j + i) b := s_byC (L := B_X7_holds) (by decide +kernel) (by decide +kernel) j i h
theorem dX7_holds_0 : decode cX7_holds 0 = .ok (.aload_n 0, 1) := dz_42 (k_X7_holds 0 0 rfl)
theorem dX7_holds_1 : decode cX7_holds 1 = .ok (.iload_n 1, 1) := dz_27 (k_X7_holds 0 1 rfl)
theorem dX7_holds_2 : decode cX7_holds 2 = .ok (.invokevirtual 128, 3) := dz_182 (k_X7_holds 0 2 rfl) (k_X7_holds 0 3 rfl) (k_X7_holds 0 4 rfl) rfl
theorem dX7_holds_5 : decode cX7_holds 5 = .ok (.aload_n 0, 1) := dz_42 (k_X7_holds 0 5 rfl)
theorem dX7_holds_6 : decode cX7_holds 6 = .ok (.iload_n 2, 1) := dz_28 (k_X7_holds 0 6 rfl)
theorem dX7_holds_7 : decode cX7_holds 7 = .ok (.invokevirtual 137, 3) := dz_182 (k_X7_holds 0 7 rfl) (k_X7_holds 0 8 rfl) (k_X7_holds 0 9 rfl) rfl
theorem dX7_holds_10 : decode cX7_holds 10 = .ok (.aload_n 0, 1) := dz_42 (k_X7_holds 0 10 rfl)
theorem dX7_holds_11 : decode cX7_holds 11 = .ok (.getfield 19, 3) := dz_180 (k_X7_holds 0 11 rfl) (k_X7_holds 0 12 rfl) (k_X7_holds 0 13 rfl) rfl
theorem dX7_holds_14 : decode cX7_holds 14 = .ok (.iload_n 1, 1) := dz_27 (k_X7_holds 0 14 rfl)
theorem dX7_holds_15 : decode cX7_holds 15 = .ok (.iload_n 2, 1) := dz_28 (k_X7_holds 0 15 rfl)
theorem dX7_holds_16 : decode cX7_holds 16 = .ok (.invokevirtual 140, 3) := dz_182 (k_X7_holds 0 16 rfl) (k_X7_holds 0 17 rfl) (k_X7_holds 0 18 rfl) rfl
theorem dX7_holds_19 : decode cX7_holds 19 = .ok (.ireturn, 1) := dz_172 (k_X7_holds 0 19 rfl)
def B_X7_idle : List (List Nat) := [[42, 27, 182, 0, 171, 42, 180, 0, 40, 42, 180, 0, 19, 180, 0, 174, 27, 46, 182, 1, 14, 172]]
theorem k_X7_idle (j i : Nat) {b : Nat} (h : (B_X7_idle[j]?.bind fun c => c[i]?) = some b) : s_by cX7_idle (64 * j + i) b := s_byC (L := B_X7_idle) (by decide +kernel) (by decide +kernel) j i h
theorem dX7_idle_0 : decode cX7_idle 0 = .ok (.aload_n 0, 1) := dz_42 (k_X7_idle 0 0 rfl)
theorem dX7_idle_1 : decode cX7_idle 1 = .ok (.iload_n 1, 1) := dz_27 (k_X7_idle 0 1 rfl)
theorem dX7_idle_2 : decode cX7_idle 2 = .ok (.invokevirtual 171, 3) := dz_182 (k_X7_idle 0 2 rfl) (k_X7_idle 0 3 rfl) (k_X7_idle 0 4 rfl) rfl
theorem dX7_idle_5 : decode cX7_idle 5 = .ok (.aload_n 0, 1) := dz_42 (k_X7_idle 0 5 rfl)
theorem dX7_idle_6 : decode cX7_idle 6 = .ok (.getfield 40, 3) := dz_180 (k_X7_idle 0 6 rfl) (k_X7_idle 0 7 rfl) (k_X7_idle 0 8 rfl) rfl
theorem dX7_idle_9 : decode cX7_idle 9 = .ok (.aload_n 0, 1) := dz_42 (k_X7_idle 0 9 rfl)
theorem dX7_idle_10 : decode cX7_idle 10 = .ok (.getfield 19, 3) := dz_180 (k_X7_idle 0 10 rfl) (k_X7_idle 0 11 rfl) (k_X7_idle 0 12 rfl) rfl
theorem dX7_idle_13 : decode cX7_idle 13 = .ok (.getfield 174, 3) := dz_180 (k_X7_idle 0 13 rfl) (k_X7_idle 0 14 rfl) (k_X7_idle 0 15 rfl) rfl
theorem dX7_idle_16 : decode cX7_idle 16 = .ok (.iload_n 1, 1) := dz_27 (k_X7_idle 0 16 rfl)
theorem dX7_idle_17 : decode cX7_idle 17 = .ok (.iaload, 1) := dz_46 (k_X7_idle 0 17 rfl)
theorem dX7_idle_18 : decode cX7_idle 18 = .ok (.invokevirtual 270, 3) := dz_182 (k_X7_idle 0 18 rfl) (k_X7_idle 0 19 rfl) (k_X7_idle 0 20 rfl) rfl
theorem dX7_idle_21 : decode cX7_idle 21 = .ok (.ireturn, 1) := dz_172 (k_X7_idle 0 21 rfl)
def B_X7_image : List (List Nat) := [[42, 180, 0, 23, 42, 180, 0, 19, 182, 1, 66, 42, 4, 181, 1, 69, 177]]
theorem k_X7_image (j i : Nat) {b : Nat} (h : (B_X7_image[j]?.bind fun c => c[i]?) = some b) : s_by cX7_image (64 * j + i) b := s_byC (L := B_X7_image) (by decide +kernel) (by decide +kernel) j i h
theorem dX7_image_0 : decode cX7_image 0 = .ok (.aload_n 0, 1) := dz_42 (k_X7_image 0 0 rfl)
theorem dX7_image_1 : decode cX7_image 1 = .ok (.getfield 23, 3) := dz_180 (k_X7_image 0 1 rfl) (k_X7_image 0 2 rfl) (k_X7_image 0 3 rfl) rfl
theorem dX7_image_4 : decode cX7_image 4 = .ok (.aload_n 0, 1) := dz_42 (k_X7_image 0 4 rfl)
theorem dX7_image_5 : decode cX7_image 5 = .ok (.getfield 19, 3) := dz_180 (k_X7_image 0 5 rfl) (k_X7_image 0 6 rfl) (k_X7_image 0 7 rfl) rfl
theorem dX7_image_8 : decode cX7_image 8 = .ok (.invokevirtual 322, 3) := dz_182 (k_X7_image 0 8 rfl) (k_X7_image 0 9 rfl) (k_X7_image 0 10 rfl) rfl
theorem dX7_image_11 : decode cX7_image 11 = .ok (.aload_n 0, 1) := dz_42 (k_X7_image 0 11 rfl)
theorem dX7_image_12 : decode cX7_image 12 = .ok (.iconst 1, 1) := dz_4 (k_X7_image 0 12 rfl)
theorem dX7_image_13 : decode cX7_image 13 = .ok (.putfield 325, 3) := dz_181 (k_X7_image 0 13 rfl) (k_X7_image 0 14 rfl) (k_X7_image 0 15 rfl) rfl
theorem dX7_image_16 : decode cX7_image 16 = .ok (.return_, 1) := dz_177 (k_X7_image 0 16 rfl)
def B_X7_init : List (List Nat) := [[42, 183, 0, 3, 42, 187, 0, 9, 89, 183, 0, 11, 181, 0, 12, 42, 187, 0, 16, 89, 183, 0, 18, 181, 0, 19, 42, 187, 0, 16, 89, 183, 0, 18, 181, 0, 23, 42, 187, 0, 26, 89, 42, 180, 0, 12, 183, 0, 28, 181, 0, 31, 42, 187, 0, 35, 89, 42, 180, 0, 19, 183, 0, 37], [181, 0, 40, 42, 187, 0, 44, 89, 42, 180, 0, 12, 42, 180, 0, 19, 183, 0, 46, 181, 0, 49, 42, 187, 0, 53, 89, 42, 180, 0, 12, 42, 180, 0, 19, 183, 0, 55, 181, 0, 56, 42, 187, 0, 60, 89, 42, 180, 0, 19, 42, 180, 0, 49, 183, 0, 62, 181, 0, 65, 177]]
theorem k_X7_init (j i : Nat) {b : Nat} (h : (B_X7_init[j]?.bind fun c => c[i]?) = some b) : s_by cX7_init (64 * j + i) b := s_byC (L := B_X7_init) (by decide +kernel) (by decide +kernel) j i h
theorem dX7_init_0 : decode cX7_init 0 = .ok (.aload_n 0, 1) := dz_42 (k_X7_init 0 0 rfl)
theorem dX7_init_1 : decode cX7_init 1 = .ok (.invokespecial 3, 3) := dz_183 (k_X7_init 0 1 rfl) (k_X7_init 0 2 rfl) (k_X7_init 0 3 rfl) rfl
theorem dX7_init_4 : decode cX7_init 4 = .ok (.aload_n 0, 1) := dz_42 (k_X7_init 0 4 rfl)
theorem dX7_init_5 : decode cX7_init 5 = .ok (.new 9, 3) := dz_187 (k_X7_init 0 5 rfl) (k_X7_init 0 6 rfl) (k_X7_init 0 7 rfl) rfl
theorem dX7_init_8 : decode cX7_init 8 = .ok (.dup, 1) := dz_89 (k_X7_init 0 8 rfl)
theorem dX7_init_9 : decode cX7_init 9 = .ok (.invokespecial 11, 3) := dz_183 (k_X7_init 0 9 rfl) (k_X7_init 0 10 rfl) (k_X7_init 0 11 rfl) rfl
theorem dX7_init_12 : decode cX7_init 12 = .ok (.putfield 12, 3) := dz_181 (k_X7_init 0 12 rfl) (k_X7_init 0 13 rfl) (k_X7_init 0 14 rfl) rfl
theorem dX7_init_15 : decode cX7_init 15 = .ok (.aload_n 0, 1) := dz_42 (k_X7_init 0 15 rfl)
theorem dX7_init_16 : decode cX7_init 16 = .ok (.new 16, 3) := dz_187 (k_X7_init 0 16 rfl) (k_X7_init 0 17 rfl) (k_X7_init 0 18 rfl) rfl
theorem dX7_init_19 : decode cX7_init 19 = .ok (.dup, 1) := dz_89 (k_X7_init 0 19 rfl)
theorem dX7_init_20 : decode cX7_init 20 = .ok (.invokespecial 18, 3) := dz_183 (k_X7_init 0 20 rfl) (k_X7_init 0 21 rfl) (k_X7_init 0 22 rfl) rfl
theorem dX7_init_23 : decode cX7_init 23 = .ok (.putfield 19, 3) := dz_181 (k_X7_init 0 23 rfl) (k_X7_init 0 24 rfl) (k_X7_init 0 25 rfl) rfl
theorem dX7_init_26 : decode cX7_init 26 = .ok (.aload_n 0, 1) := dz_42 (k_X7_init 0 26 rfl)
theorem dX7_init_27 : decode cX7_init 27 = .ok (.new 16, 3) := dz_187 (k_X7_init 0 27 rfl) (k_X7_init 0 28 rfl) (k_X7_init 0 29 rfl) rfl
theorem dX7_init_30 : decode cX7_init 30 = .ok (.dup, 1) := dz_89 (k_X7_init 0 30 rfl)
theorem dX7_init_31 : decode cX7_init 31 = .ok (.invokespecial 18, 3) := dz_183 (k_X7_init 0 31 rfl) (k_X7_init 0 32 rfl) (k_X7_init 0 33 rfl) rfl
theorem dX7_init_34 : decode cX7_init 34 = .ok (.putfield 23, 3) := dz_181 (k_X7_init 0 34 rfl) (k_X7_init 0 35 rfl) (k_X7_init 0 36 rfl) rfl
theorem dX7_init_37 : decode cX7_init 37 = .ok (.aload_n 0, 1) := dz_42 (k_X7_init 0 37 rfl)
theorem dX7_init_38 : decode cX7_init 38 = .ok (.new 26, 3) := dz_187 (k_X7_init 0 38 rfl) (k_X7_init 0 39 rfl) (k_X7_init 0 40 rfl) rfl
theorem dX7_init_41 : decode cX7_init 41 = .ok (.dup, 1) := dz_89 (k_X7_init 0 41 rfl)
theorem dX7_init_42 : decode cX7_init 42 = .ok (.aload_n 0, 1) := dz_42 (k_X7_init 0 42 rfl)
theorem dX7_init_43 : decode cX7_init 43 = .ok (.getfield 12, 3) := dz_180 (k_X7_init 0 43 rfl) (k_X7_init 0 44 rfl) (k_X7_init 0 45 rfl) rfl
theorem dX7_init_46 : decode cX7_init 46 = .ok (.invokespecial 28, 3) := dz_183 (k_X7_init 0 46 rfl) (k_X7_init 0 47 rfl) (k_X7_init 0 48 rfl) rfl
theorem dX7_init_49 : decode cX7_init 49 = .ok (.putfield 31, 3) := dz_181 (k_X7_init 0 49 rfl) (k_X7_init 0 50 rfl) (k_X7_init 0 51 rfl) rfl
theorem dX7_init_52 : decode cX7_init 52 = .ok (.aload_n 0, 1) := dz_42 (k_X7_init 0 52 rfl)
theorem dX7_init_53 : decode cX7_init 53 = .ok (.new 35, 3) := dz_187 (k_X7_init 0 53 rfl) (k_X7_init 0 54 rfl) (k_X7_init 0 55 rfl) rfl
theorem dX7_init_56 : decode cX7_init 56 = .ok (.dup, 1) := dz_89 (k_X7_init 0 56 rfl)
theorem dX7_init_57 : decode cX7_init 57 = .ok (.aload_n 0, 1) := dz_42 (k_X7_init 0 57 rfl)
theorem dX7_init_58 : decode cX7_init 58 = .ok (.getfield 19, 3) := dz_180 (k_X7_init 0 58 rfl) (k_X7_init 0 59 rfl) (k_X7_init 0 60 rfl) rfl
theorem dX7_init_61 : decode cX7_init 61 = .ok (.invokespecial 37, 3) := dz_183 (k_X7_init 0 61 rfl) (k_X7_init 0 62 rfl) (k_X7_init 0 63 rfl) rfl
theorem dX7_init_64 : decode cX7_init 64 = .ok (.putfield 40, 3) := dz_181 (k_X7_init 1 0 rfl) (k_X7_init 1 1 rfl) (k_X7_init 1 2 rfl) rfl
theorem dX7_init_67 : decode cX7_init 67 = .ok (.aload_n 0, 1) := dz_42 (k_X7_init 1 3 rfl)
theorem dX7_init_68 : decode cX7_init 68 = .ok (.new 44, 3) := dz_187 (k_X7_init 1 4 rfl) (k_X7_init 1 5 rfl) (k_X7_init 1 6 rfl) rfl
theorem dX7_init_71 : decode cX7_init 71 = .ok (.dup, 1) := dz_89 (k_X7_init 1 7 rfl)
theorem dX7_init_72 : decode cX7_init 72 = .ok (.aload_n 0, 1) := dz_42 (k_X7_init 1 8 rfl)
theorem dX7_init_73 : decode cX7_init 73 = .ok (.getfield 12, 3) := dz_180 (k_X7_init 1 9 rfl) (k_X7_init 1 10 rfl) (k_X7_init 1 11 rfl) rfl
theorem dX7_init_76 : decode cX7_init 76 = .ok (.aload_n 0, 1) := dz_42 (k_X7_init 1 12 rfl)
theorem dX7_init_77 : decode cX7_init 77 = .ok (.getfield 19, 3) := dz_180 (k_X7_init 1 13 rfl) (k_X7_init 1 14 rfl) (k_X7_init 1 15 rfl) rfl
theorem dX7_init_80 : decode cX7_init 80 = .ok (.invokespecial 46, 3) := dz_183 (k_X7_init 1 16 rfl) (k_X7_init 1 17 rfl) (k_X7_init 1 18 rfl) rfl
theorem dX7_init_83 : decode cX7_init 83 = .ok (.putfield 49, 3) := dz_181 (k_X7_init 1 19 rfl) (k_X7_init 1 20 rfl) (k_X7_init 1 21 rfl) rfl
theorem dX7_init_86 : decode cX7_init 86 = .ok (.aload_n 0, 1) := dz_42 (k_X7_init 1 22 rfl)
theorem dX7_init_87 : decode cX7_init 87 = .ok (.new 53, 3) := dz_187 (k_X7_init 1 23 rfl) (k_X7_init 1 24 rfl) (k_X7_init 1 25 rfl) rfl
theorem dX7_init_90 : decode cX7_init 90 = .ok (.dup, 1) := dz_89 (k_X7_init 1 26 rfl)
theorem dX7_init_91 : decode cX7_init 91 = .ok (.aload_n 0, 1) := dz_42 (k_X7_init 1 27 rfl)
theorem dX7_init_92 : decode cX7_init 92 = .ok (.getfield 12, 3) := dz_180 (k_X7_init 1 28 rfl) (k_X7_init 1 29 rfl) (k_X7_init 1 30 rfl) rfl
theorem dX7_init_95 : decode cX7_init 95 = .ok (.aload_n 0, 1) := dz_42 (k_X7_init 1 31 rfl)
theorem dX7_init_96 : decode cX7_init 96 = .ok (.getfield 19, 3) := dz_180 (k_X7_init 1 32 rfl) (k_X7_init 1 33 rfl) (k_X7_init 1 34 rfl) rfl
theorem dX7_init_99 : decode cX7_init 99 = .ok (.invokespecial 55, 3) := dz_183 (k_X7_init 1 35 rfl) (k_X7_init 1 36 rfl) (k_X7_init 1 37 rfl) rfl
theorem dX7_init_102 : decode cX7_init 102 = .ok (.putfield 56, 3) := dz_181 (k_X7_init 1 38 rfl) (k_X7_init 1 39 rfl) (k_X7_init 1 40 rfl) rfl
theorem dX7_init_105 : decode cX7_init 105 = .ok (.aload_n 0, 1) := dz_42 (k_X7_init 1 41 rfl)
theorem dX7_init_106 : decode cX7_init 106 = .ok (.new 60, 3) := dz_187 (k_X7_init 1 42 rfl) (k_X7_init 1 43 rfl) (k_X7_init 1 44 rfl) rfl
theorem dX7_init_109 : decode cX7_init 109 = .ok (.dup, 1) := dz_89 (k_X7_init 1 45 rfl)
theorem dX7_init_110 : decode cX7_init 110 = .ok (.aload_n 0, 1) := dz_42 (k_X7_init 1 46 rfl)
theorem dX7_init_111 : decode cX7_init 111 = .ok (.getfield 19, 3) := dz_180 (k_X7_init 1 47 rfl) (k_X7_init 1 48 rfl) (k_X7_init 1 49 rfl) rfl
theorem dX7_init_114 : decode cX7_init 114 = .ok (.aload_n 0, 1) := dz_42 (k_X7_init 1 50 rfl)
theorem dX7_init_115 : decode cX7_init 115 = .ok (.getfield 49, 3) := dz_180 (k_X7_init 1 51 rfl) (k_X7_init 1 52 rfl) (k_X7_init 1 53 rfl) rfl
theorem dX7_init_118 : decode cX7_init 118 = .ok (.invokespecial 62, 3) := dz_183 (k_X7_init 1 54 rfl) (k_X7_init 1 55 rfl) (k_X7_init 1 56 rfl) rfl
theorem dX7_init_121 : decode cX7_init 121 = .ok (.putfield 65, 3) := dz_181 (k_X7_init 1 57 rfl) (k_X7_init 1 58 rfl) (k_X7_init 1 59 rfl) rfl
theorem dX7_init_124 : decode cX7_init 124 = .ok (.return_, 1) := dz_177 (k_X7_init 1 60 rfl)
def B_X7_is : List (List Nat) := [[42, 27, 182, 0, 195, 28, 155, 0, 8, 28, 7, 164, 0, 13, 187, 0, 198, 89, 18, 200, 183, 0, 202, 191, 42, 180, 0, 49, 182, 0, 209, 42, 180, 0, 49, 27, 28, 182, 0, 212, 172]]
theorem k_X7_is (j i : Nat) {b : Nat} (h : (B_X7_is[j]?.bind fun c => c[i]?) = some b) : s_by cX7_is (64 * j + i) b := s_byC (L := B_X7_is) (by decide +kernel) (by decide +kernel) j i h
theorem dX7_is_0 : decode cX7_is 0 = .ok (.aload_n 0, 1) := dz_42 (k_X7_is 0 0 rfl)
theorem dX7_is_1 : decode cX7_is 1 = .ok (.iload_n 1, 1) := dz_27 (k_X7_is 0 1 rfl)
theorem dX7_is_2 : decode cX7_is 2 = .ok (.invokevirtual 195, 3) := dz_182 (k_X7_is 0 2 rfl) (k_X7_is 0 3 rfl) (k_X7_is 0 4 rfl) rfl
theorem dX7_is_5 : decode cX7_is 5 = .ok (.iload_n 2, 1) := dz_28 (k_X7_is 0 5 rfl)
theorem dX7_is_6 : decode cX7_is 6 = .ok (.ifCond .lt 8, 3) := dz_155 (k_X7_is 0 6 rfl) (k_X7_is 0 7 rfl) (k_X7_is 0 8 rfl) rfl
theorem dX7_is_9 : decode cX7_is 9 = .ok (.iload_n 2, 1) := dz_28 (k_X7_is 0 9 rfl)
theorem dX7_is_10 : decode cX7_is 10 = .ok (.iconst 4, 1) := dz_7 (k_X7_is 0 10 rfl)
theorem dX7_is_11 : decode cX7_is 11 = .ok (.if_icmp .le 13, 3) := dz_164 (k_X7_is 0 11 rfl) (k_X7_is 0 12 rfl) (k_X7_is 0 13 rfl) rfl
theorem dX7_is_14 : decode cX7_is 14 = .ok (.new 198, 3) := dz_187 (k_X7_is 0 14 rfl) (k_X7_is 0 15 rfl) (k_X7_is 0 16 rfl) rfl
theorem dX7_is_17 : decode cX7_is 17 = .ok (.dup, 1) := dz_89 (k_X7_is 0 17 rfl)
theorem dX7_is_18 : decode cX7_is 18 = .ok (.ldc 200, 2) := dz_18 (k_X7_is 0 18 rfl) (k_X7_is 0 19 rfl)
theorem dX7_is_20 : decode cX7_is 20 = .ok (.invokespecial 202, 3) := dz_183 (k_X7_is 0 20 rfl) (k_X7_is 0 21 rfl) (k_X7_is 0 22 rfl) rfl
theorem dX7_is_23 : decode cX7_is 23 = .ok (.athrow, 1) := dz_191 (k_X7_is 0 23 rfl)
theorem dX7_is_24 : decode cX7_is 24 = .ok (.aload_n 0, 1) := dz_42 (k_X7_is 0 24 rfl)
theorem dX7_is_25 : decode cX7_is 25 = .ok (.getfield 49, 3) := dz_180 (k_X7_is 0 25 rfl) (k_X7_is 0 26 rfl) (k_X7_is 0 27 rfl) rfl
theorem dX7_is_28 : decode cX7_is 28 = .ok (.invokevirtual 209, 3) := dz_182 (k_X7_is 0 28 rfl) (k_X7_is 0 29 rfl) (k_X7_is 0 30 rfl) rfl
theorem dX7_is_31 : decode cX7_is 31 = .ok (.aload_n 0, 1) := dz_42 (k_X7_is 0 31 rfl)
theorem dX7_is_32 : decode cX7_is 32 = .ok (.getfield 49, 3) := dz_180 (k_X7_is 0 32 rfl) (k_X7_is 0 33 rfl) (k_X7_is 0 34 rfl) rfl
theorem dX7_is_35 : decode cX7_is 35 = .ok (.iload_n 1, 1) := dz_27 (k_X7_is 0 35 rfl)
theorem dX7_is_36 : decode cX7_is 36 = .ok (.iload_n 2, 1) := dz_28 (k_X7_is 0 36 rfl)
theorem dX7_is_37 : decode cX7_is 37 = .ok (.invokevirtual 212, 3) := dz_182 (k_X7_is 0 37 rfl) (k_X7_is 0 38 rfl) (k_X7_is 0 39 rfl) rfl
theorem dX7_is_40 : decode cX7_is 40 = .ok (.ireturn, 1) := dz_172 (k_X7_is 0 40 rfl)
def B_X7_lastly : List (List Nat) := [[42, 27, 28, 29, 182, 0, 238, 42, 180, 0, 56, 27, 182, 0, 244, 172]]
theorem k_X7_lastly (j i : Nat) {b : Nat} (h : (B_X7_lastly[j]?.bind fun c => c[i]?) = some b) : s_by cX7_lastly (64 * j + i) b := s_byC (L := B_X7_lastly) (by decide +kernel) (by decide +kernel) j i h
theorem dX7_lastly_0 : decode cX7_lastly 0 = .ok (.aload_n 0, 1) := dz_42 (k_X7_lastly 0 0 rfl)
theorem dX7_lastly_1 : decode cX7_lastly 1 = .ok (.iload_n 1, 1) := dz_27 (k_X7_lastly 0 1 rfl)
theorem dX7_lastly_2 : decode cX7_lastly 2 = .ok (.iload_n 2, 1) := dz_28 (k_X7_lastly 0 2 rfl)
theorem dX7_lastly_3 : decode cX7_lastly 3 = .ok (.iload_n 3, 1) := dz_29 (k_X7_lastly 0 3 rfl)
theorem dX7_lastly_4 : decode cX7_lastly 4 = .ok (.invokevirtual 238, 3) := dz_182 (k_X7_lastly 0 4 rfl) (k_X7_lastly 0 5 rfl) (k_X7_lastly 0 6 rfl) rfl
theorem dX7_lastly_7 : decode cX7_lastly 7 = .ok (.aload_n 0, 1) := dz_42 (k_X7_lastly 0 7 rfl)
theorem dX7_lastly_8 : decode cX7_lastly 8 = .ok (.getfield 56, 3) := dz_180 (k_X7_lastly 0 8 rfl) (k_X7_lastly 0 9 rfl) (k_X7_lastly 0 10 rfl) rfl
theorem dX7_lastly_11 : decode cX7_lastly 11 = .ok (.iload_n 1, 1) := dz_27 (k_X7_lastly 0 11 rfl)
theorem dX7_lastly_12 : decode cX7_lastly 12 = .ok (.invokevirtual 244, 3) := dz_182 (k_X7_lastly 0 12 rfl) (k_X7_lastly 0 13 rfl) (k_X7_lastly 0 14 rfl) rfl
theorem dX7_lastly_15 : decode cX7_lastly 15 = .ok (.ireturn, 1) := dz_172 (k_X7_lastly 0 15 rfl)
def B_X7_line : List (List Nat) := [[42, 27, 182, 0, 146, 42, 28, 182, 0, 128, 29, 155, 0, 9, 29, 16, 16, 161, 0, 13, 187, 0, 156, 89, 18, 158, 183, 0, 160, 191, 29, 154, 0, 12, 42, 21, 4, 182, 0, 171, 167, 0, 9, 42, 21, 4, 182, 0, 177, 42, 21, 5, 182, 0, 177, 42, 21, 6, 182, 0, 177, 29, 21, 4], [21, 5, 21, 6, 184, 0, 180, 154, 0, 13, 187, 0, 96, 89, 18, 184, 183, 0, 100, 191, 42, 180, 0, 19, 180, 0, 186, 16, 40, 161, 0, 13, 187, 0, 106, 89, 18, 189, 183, 0, 110, 191, 42, 180, 0, 19, 27, 28, 29, 21, 4, 21, 5, 21, 6, 182, 0, 191, 172]]
theorem k_X7_line (j i : Nat) {b : Nat} (h : (B_X7_line[j]?.bind fun c => c[i]?) = some b) : s_by cX7_line (64 * j + i) b := s_byC (L := B_X7_line) (by decide +kernel) (by decide +kernel) j i h
theorem dX7_line_0 : decode cX7_line 0 = .ok (.aload_n 0, 1) := dz_42 (k_X7_line 0 0 rfl)
theorem dX7_line_1 : decode cX7_line 1 = .ok (.iload_n 1, 1) := dz_27 (k_X7_line 0 1 rfl)
theorem dX7_line_2 : decode cX7_line 2 = .ok (.invokevirtual 146, 3) := dz_182 (k_X7_line 0 2 rfl) (k_X7_line 0 3 rfl) (k_X7_line 0 4 rfl) rfl
theorem dX7_line_5 : decode cX7_line 5 = .ok (.aload_n 0, 1) := dz_42 (k_X7_line 0 5 rfl)
theorem dX7_line_6 : decode cX7_line 6 = .ok (.iload_n 2, 1) := dz_28 (k_X7_line 0 6 rfl)
theorem dX7_line_7 : decode cX7_line 7 = .ok (.invokevirtual 128, 3) := dz_182 (k_X7_line 0 7 rfl) (k_X7_line 0 8 rfl) (k_X7_line 0 9 rfl) rfl
theorem dX7_line_10 : decode cX7_line 10 = .ok (.iload_n 3, 1) := dz_29 (k_X7_line 0 10 rfl)
theorem dX7_line_11 : decode cX7_line 11 = .ok (.ifCond .lt 9, 3) := dz_155 (k_X7_line 0 11 rfl) (k_X7_line 0 12 rfl) (k_X7_line 0 13 rfl) rfl
theorem dX7_line_14 : decode cX7_line 14 = .ok (.iload_n 3, 1) := dz_29 (k_X7_line 0 14 rfl)
theorem dX7_line_15 : decode cX7_line 15 = .ok (.bipush 16, 2) := dz_16 (k_X7_line 0 15 rfl) (k_X7_line 0 16 rfl) rfl
theorem dX7_line_17 : decode cX7_line 17 = .ok (.if_icmp .lt 13, 3) := dz_161 (k_X7_line 0 17 rfl) (k_X7_line 0 18 rfl) (k_X7_line 0 19 rfl) rfl
theorem dX7_line_20 : decode cX7_line 20 = .ok (.new 156, 3) := dz_187 (k_X7_line 0 20 rfl) (k_X7_line 0 21 rfl) (k_X7_line 0 22 rfl) rfl
theorem dX7_line_23 : decode cX7_line 23 = .ok (.dup, 1) := dz_89 (k_X7_line 0 23 rfl)
theorem dX7_line_24 : decode cX7_line 24 = .ok (.ldc 158, 2) := dz_18 (k_X7_line 0 24 rfl) (k_X7_line 0 25 rfl)
theorem dX7_line_26 : decode cX7_line 26 = .ok (.invokespecial 160, 3) := dz_183 (k_X7_line 0 26 rfl) (k_X7_line 0 27 rfl) (k_X7_line 0 28 rfl) rfl
theorem dX7_line_29 : decode cX7_line 29 = .ok (.athrow, 1) := dz_191 (k_X7_line 0 29 rfl)
theorem dX7_line_30 : decode cX7_line 30 = .ok (.iload_n 3, 1) := dz_29 (k_X7_line 0 30 rfl)
theorem dX7_line_31 : decode cX7_line 31 = .ok (.ifCond .ne 12, 3) := dz_154 (k_X7_line 0 31 rfl) (k_X7_line 0 32 rfl) (k_X7_line 0 33 rfl) rfl
theorem dX7_line_34 : decode cX7_line 34 = .ok (.aload_n 0, 1) := dz_42 (k_X7_line 0 34 rfl)
theorem dX7_line_35 : decode cX7_line 35 = .ok (.iload 4, 2) := dz_21 (k_X7_line 0 35 rfl) (k_X7_line 0 36 rfl)
theorem dX7_line_37 : decode cX7_line 37 = .ok (.invokevirtual 171, 3) := dz_182 (k_X7_line 0 37 rfl) (k_X7_line 0 38 rfl) (k_X7_line 0 39 rfl) rfl
theorem dX7_line_40 : decode cX7_line 40 = .ok (.goto 9, 3) := dz_167 (k_X7_line 0 40 rfl) (k_X7_line 0 41 rfl) (k_X7_line 0 42 rfl) rfl
theorem dX7_line_43 : decode cX7_line 43 = .ok (.aload_n 0, 1) := dz_42 (k_X7_line 0 43 rfl)
theorem dX7_line_44 : decode cX7_line 44 = .ok (.iload 4, 2) := dz_21 (k_X7_line 0 44 rfl) (k_X7_line 0 45 rfl)
theorem dX7_line_46 : decode cX7_line 46 = .ok (.invokevirtual 177, 3) := dz_182 (k_X7_line 0 46 rfl) (k_X7_line 0 47 rfl) (k_X7_line 0 48 rfl) rfl
theorem dX7_line_49 : decode cX7_line 49 = .ok (.aload_n 0, 1) := dz_42 (k_X7_line 0 49 rfl)
theorem dX7_line_50 : decode cX7_line 50 = .ok (.iload 5, 2) := dz_21 (k_X7_line 0 50 rfl) (k_X7_line 0 51 rfl)
theorem dX7_line_52 : decode cX7_line 52 = .ok (.invokevirtual 177, 3) := dz_182 (k_X7_line 0 52 rfl) (k_X7_line 0 53 rfl) (k_X7_line 0 54 rfl) rfl
theorem dX7_line_55 : decode cX7_line 55 = .ok (.aload_n 0, 1) := dz_42 (k_X7_line 0 55 rfl)
theorem dX7_line_56 : decode cX7_line 56 = .ok (.iload 6, 2) := dz_21 (k_X7_line 0 56 rfl) (k_X7_line 0 57 rfl)
theorem dX7_line_58 : decode cX7_line 58 = .ok (.invokevirtual 177, 3) := dz_182 (k_X7_line 0 58 rfl) (k_X7_line 0 59 rfl) (k_X7_line 0 60 rfl) rfl
theorem dX7_line_61 : decode cX7_line 61 = .ok (.iload_n 3, 1) := dz_29 (k_X7_line 0 61 rfl)
theorem dX7_line_62 : decode cX7_line 62 = .ok (.iload 4, 2) := dz_21 (k_X7_line 0 62 rfl) (k_X7_line 0 63 rfl)
theorem dX7_line_64 : decode cX7_line 64 = .ok (.iload 5, 2) := dz_21 (k_X7_line 1 0 rfl) (k_X7_line 1 1 rfl)
theorem dX7_line_66 : decode cX7_line 66 = .ok (.iload 6, 2) := dz_21 (k_X7_line 1 2 rfl) (k_X7_line 1 3 rfl)
theorem dX7_line_68 : decode cX7_line 68 = .ok (.invokestatic 180, 3) := dz_184 (k_X7_line 1 4 rfl) (k_X7_line 1 5 rfl) (k_X7_line 1 6 rfl) rfl
theorem dX7_line_71 : decode cX7_line 71 = .ok (.ifCond .ne 13, 3) := dz_154 (k_X7_line 1 7 rfl) (k_X7_line 1 8 rfl) (k_X7_line 1 9 rfl) rfl
theorem dX7_line_74 : decode cX7_line 74 = .ok (.new 96, 3) := dz_187 (k_X7_line 1 10 rfl) (k_X7_line 1 11 rfl) (k_X7_line 1 12 rfl) rfl
theorem dX7_line_77 : decode cX7_line 77 = .ok (.dup, 1) := dz_89 (k_X7_line 1 13 rfl)
theorem dX7_line_78 : decode cX7_line 78 = .ok (.ldc 184, 2) := dz_18 (k_X7_line 1 14 rfl) (k_X7_line 1 15 rfl)
theorem dX7_line_80 : decode cX7_line 80 = .ok (.invokespecial 100, 3) := dz_183 (k_X7_line 1 16 rfl) (k_X7_line 1 17 rfl) (k_X7_line 1 18 rfl) rfl
theorem dX7_line_83 : decode cX7_line 83 = .ok (.athrow, 1) := dz_191 (k_X7_line 1 19 rfl)
theorem dX7_line_84 : decode cX7_line 84 = .ok (.aload_n 0, 1) := dz_42 (k_X7_line 1 20 rfl)
theorem dX7_line_85 : decode cX7_line 85 = .ok (.getfield 19, 3) := dz_180 (k_X7_line 1 21 rfl) (k_X7_line 1 22 rfl) (k_X7_line 1 23 rfl) rfl
theorem dX7_line_88 : decode cX7_line 88 = .ok (.getfield 186, 3) := dz_180 (k_X7_line 1 24 rfl) (k_X7_line 1 25 rfl) (k_X7_line 1 26 rfl) rfl
theorem dX7_line_91 : decode cX7_line 91 = .ok (.bipush 40, 2) := dz_16 (k_X7_line 1 27 rfl) (k_X7_line 1 28 rfl) rfl
theorem dX7_line_93 : decode cX7_line 93 = .ok (.if_icmp .lt 13, 3) := dz_161 (k_X7_line 1 29 rfl) (k_X7_line 1 30 rfl) (k_X7_line 1 31 rfl) rfl
theorem dX7_line_96 : decode cX7_line 96 = .ok (.new 106, 3) := dz_187 (k_X7_line 1 32 rfl) (k_X7_line 1 33 rfl) (k_X7_line 1 34 rfl) rfl
theorem dX7_line_99 : decode cX7_line 99 = .ok (.dup, 1) := dz_89 (k_X7_line 1 35 rfl)
theorem dX7_line_100 : decode cX7_line 100 = .ok (.ldc 189, 2) := dz_18 (k_X7_line 1 36 rfl) (k_X7_line 1 37 rfl)
theorem dX7_line_102 : decode cX7_line 102 = .ok (.invokespecial 110, 3) := dz_183 (k_X7_line 1 38 rfl) (k_X7_line 1 39 rfl) (k_X7_line 1 40 rfl) rfl
theorem dX7_line_105 : decode cX7_line 105 = .ok (.athrow, 1) := dz_191 (k_X7_line 1 41 rfl)
theorem dX7_line_106 : decode cX7_line 106 = .ok (.aload_n 0, 1) := dz_42 (k_X7_line 1 42 rfl)
theorem dX7_line_107 : decode cX7_line 107 = .ok (.getfield 19, 3) := dz_180 (k_X7_line 1 43 rfl) (k_X7_line 1 44 rfl) (k_X7_line 1 45 rfl) rfl
theorem dX7_line_110 : decode cX7_line 110 = .ok (.iload_n 1, 1) := dz_27 (k_X7_line 1 46 rfl)
theorem dX7_line_111 : decode cX7_line 111 = .ok (.iload_n 2, 1) := dz_28 (k_X7_line 1 47 rfl)
theorem dX7_line_112 : decode cX7_line 112 = .ok (.iload_n 3, 1) := dz_29 (k_X7_line 1 48 rfl)
theorem dX7_line_113 : decode cX7_line 113 = .ok (.iload 4, 2) := dz_21 (k_X7_line 1 49 rfl) (k_X7_line 1 50 rfl)
theorem dX7_line_115 : decode cX7_line 115 = .ok (.iload 5, 2) := dz_21 (k_X7_line 1 51 rfl) (k_X7_line 1 52 rfl)
theorem dX7_line_117 : decode cX7_line 117 = .ok (.iload 6, 2) := dz_21 (k_X7_line 1 53 rfl) (k_X7_line 1 54 rfl)
theorem dX7_line_119 : decode cX7_line 119 = .ok (.invokevirtual 191, 3) := dz_182 (k_X7_line 1 55 rfl) (k_X7_line 1 56 rfl) (k_X7_line 1 57 rfl) rfl
theorem dX7_line_122 : decode cX7_line 122 = .ok (.ireturn, 1) := dz_172 (k_X7_line 1 58 rfl)
def B_X7_look : List (List Nat) := [[42, 27, 182, 0, 195, 28, 155, 0, 9, 28, 16, 6, 164, 0, 13, 187, 0, 198, 89, 18, 200, 183, 0, 202, 191, 28, 16, 6, 160, 0, 14, 42, 180, 0, 49, 27, 182, 0, 203, 167, 0, 12, 42, 180, 0, 19, 27, 28, 182, 0, 206, 172]]
theorem k_X7_look (j i : Nat) {b : Nat} (h : (B_X7_look[j]?.bind fun c => c[i]?) = some b) : s_by cX7_look (64 * j + i) b := s_byC (L := B_X7_look) (by decide +kernel) (by decide +kernel) j i h
theorem dX7_look_0 : decode cX7_look 0 = .ok (.aload_n 0, 1) := dz_42 (k_X7_look 0 0 rfl)
theorem dX7_look_1 : decode cX7_look 1 = .ok (.iload_n 1, 1) := dz_27 (k_X7_look 0 1 rfl)
theorem dX7_look_2 : decode cX7_look 2 = .ok (.invokevirtual 195, 3) := dz_182 (k_X7_look 0 2 rfl) (k_X7_look 0 3 rfl) (k_X7_look 0 4 rfl) rfl
theorem dX7_look_5 : decode cX7_look 5 = .ok (.iload_n 2, 1) := dz_28 (k_X7_look 0 5 rfl)
theorem dX7_look_6 : decode cX7_look 6 = .ok (.ifCond .lt 9, 3) := dz_155 (k_X7_look 0 6 rfl) (k_X7_look 0 7 rfl) (k_X7_look 0 8 rfl) rfl
theorem dX7_look_9 : decode cX7_look 9 = .ok (.iload_n 2, 1) := dz_28 (k_X7_look 0 9 rfl)
theorem dX7_look_10 : decode cX7_look 10 = .ok (.bipush 6, 2) := dz_16 (k_X7_look 0 10 rfl) (k_X7_look 0 11 rfl) rfl
theorem dX7_look_12 : decode cX7_look 12 = .ok (.if_icmp .le 13, 3) := dz_164 (k_X7_look 0 12 rfl) (k_X7_look 0 13 rfl) (k_X7_look 0 14 rfl) rfl
theorem dX7_look_15 : decode cX7_look 15 = .ok (.new 198, 3) := dz_187 (k_X7_look 0 15 rfl) (k_X7_look 0 16 rfl) (k_X7_look 0 17 rfl) rfl
theorem dX7_look_18 : decode cX7_look 18 = .ok (.dup, 1) := dz_89 (k_X7_look 0 18 rfl)
theorem dX7_look_19 : decode cX7_look 19 = .ok (.ldc 200, 2) := dz_18 (k_X7_look 0 19 rfl) (k_X7_look 0 20 rfl)
theorem dX7_look_21 : decode cX7_look 21 = .ok (.invokespecial 202, 3) := dz_183 (k_X7_look 0 21 rfl) (k_X7_look 0 22 rfl) (k_X7_look 0 23 rfl) rfl
theorem dX7_look_24 : decode cX7_look 24 = .ok (.athrow, 1) := dz_191 (k_X7_look 0 24 rfl)
theorem dX7_look_25 : decode cX7_look 25 = .ok (.iload_n 2, 1) := dz_28 (k_X7_look 0 25 rfl)
theorem dX7_look_26 : decode cX7_look 26 = .ok (.bipush 6, 2) := dz_16 (k_X7_look 0 26 rfl) (k_X7_look 0 27 rfl) rfl
theorem dX7_look_28 : decode cX7_look 28 = .ok (.if_icmp .ne 14, 3) := dz_160 (k_X7_look 0 28 rfl) (k_X7_look 0 29 rfl) (k_X7_look 0 30 rfl) rfl
theorem dX7_look_31 : decode cX7_look 31 = .ok (.aload_n 0, 1) := dz_42 (k_X7_look 0 31 rfl)
theorem dX7_look_32 : decode cX7_look 32 = .ok (.getfield 49, 3) := dz_180 (k_X7_look 0 32 rfl) (k_X7_look 0 33 rfl) (k_X7_look 0 34 rfl) rfl
theorem dX7_look_35 : decode cX7_look 35 = .ok (.iload_n 1, 1) := dz_27 (k_X7_look 0 35 rfl)
theorem dX7_look_36 : decode cX7_look 36 = .ok (.invokevirtual 203, 3) := dz_182 (k_X7_look 0 36 rfl) (k_X7_look 0 37 rfl) (k_X7_look 0 38 rfl) rfl
theorem dX7_look_39 : decode cX7_look 39 = .ok (.goto 12, 3) := dz_167 (k_X7_look 0 39 rfl) (k_X7_look 0 40 rfl) (k_X7_look 0 41 rfl) rfl
theorem dX7_look_42 : decode cX7_look 42 = .ok (.aload_n 0, 1) := dz_42 (k_X7_look 0 42 rfl)
theorem dX7_look_43 : decode cX7_look 43 = .ok (.getfield 19, 3) := dz_180 (k_X7_look 0 43 rfl) (k_X7_look 0 44 rfl) (k_X7_look 0 45 rfl) rfl
theorem dX7_look_46 : decode cX7_look 46 = .ok (.iload_n 1, 1) := dz_27 (k_X7_look 0 46 rfl)
theorem dX7_look_47 : decode cX7_look 47 = .ok (.iload_n 2, 1) := dz_28 (k_X7_look 0 47 rfl)
theorem dX7_look_48 : decode cX7_look 48 = .ok (.invokevirtual 206, 3) := dz_182 (k_X7_look 0 48 rfl) (k_X7_look 0 49 rfl) (k_X7_look 0 50 rfl) rfl
theorem dX7_look_51 : decode cX7_look 51 = .ok (.ireturn, 1) := dz_172 (k_X7_look 0 51 rfl)
def B_X7_more : List (List Nat) := [[42, 27, 182, 0, 171, 42, 28, 182, 0, 128, 42, 180, 0, 40, 42, 180, 0, 19, 180, 0, 174, 27, 46, 28, 182, 1, 23, 172]]
theorem k_X7_more (j i : Nat) {b : Nat} (h : (B_X7_more[j]?.bind fun c => c[i]?) = some b) : s_by cX7_more (64 * j + i) b := s_byC (L := B_X7_more) (by decide +kernel) (by decide +kernel) j i h
theorem dX7_more_0 : decode cX7_more 0 = .ok (.aload_n 0, 1) := dz_42 (k_X7_more 0 0 rfl)
theorem dX7_more_1 : decode cX7_more 1 = .ok (.iload_n 1, 1) := dz_27 (k_X7_more 0 1 rfl)
theorem dX7_more_2 : decode cX7_more 2 = .ok (.invokevirtual 171, 3) := dz_182 (k_X7_more 0 2 rfl) (k_X7_more 0 3 rfl) (k_X7_more 0 4 rfl) rfl
theorem dX7_more_5 : decode cX7_more 5 = .ok (.aload_n 0, 1) := dz_42 (k_X7_more 0 5 rfl)
theorem dX7_more_6 : decode cX7_more 6 = .ok (.iload_n 2, 1) := dz_28 (k_X7_more 0 6 rfl)
theorem dX7_more_7 : decode cX7_more 7 = .ok (.invokevirtual 128, 3) := dz_182 (k_X7_more 0 7 rfl) (k_X7_more 0 8 rfl) (k_X7_more 0 9 rfl) rfl
theorem dX7_more_10 : decode cX7_more 10 = .ok (.aload_n 0, 1) := dz_42 (k_X7_more 0 10 rfl)
theorem dX7_more_11 : decode cX7_more 11 = .ok (.getfield 40, 3) := dz_180 (k_X7_more 0 11 rfl) (k_X7_more 0 12 rfl) (k_X7_more 0 13 rfl) rfl
theorem dX7_more_14 : decode cX7_more 14 = .ok (.aload_n 0, 1) := dz_42 (k_X7_more 0 14 rfl)
theorem dX7_more_15 : decode cX7_more 15 = .ok (.getfield 19, 3) := dz_180 (k_X7_more 0 15 rfl) (k_X7_more 0 16 rfl) (k_X7_more 0 17 rfl) rfl
theorem dX7_more_18 : decode cX7_more 18 = .ok (.getfield 174, 3) := dz_180 (k_X7_more 0 18 rfl) (k_X7_more 0 19 rfl) (k_X7_more 0 20 rfl) rfl
theorem dX7_more_21 : decode cX7_more 21 = .ok (.iload_n 1, 1) := dz_27 (k_X7_more 0 21 rfl)
theorem dX7_more_22 : decode cX7_more 22 = .ok (.iaload, 1) := dz_46 (k_X7_more 0 22 rfl)
theorem dX7_more_23 : decode cX7_more 23 = .ok (.iload_n 2, 1) := dz_28 (k_X7_more 0 23 rfl)
theorem dX7_more_24 : decode cX7_more 24 = .ok (.invokevirtual 279, 3) := dz_182 (k_X7_more 0 24 rfl) (k_X7_more 0 25 rfl) (k_X7_more 0 26 rfl) rfl
theorem dX7_more_27 : decode cX7_more 27 = .ok (.ireturn, 1) := dz_172 (k_X7_more 0 27 rfl)
def B_X7_needCustomer : List (List Nat) := [[27, 155, 0, 8, 27, 7, 161, 0, 14, 187, 0, 156, 89, 19, 1, 94, 183, 0, 160, 191, 177]]
theorem k_X7_needCustomer (j i : Nat) {b : Nat} (h : (B_X7_needCustomer[j]?.bind fun c => c[i]?) = some b) : s_by cX7_needCustomer (64 * j + i) b := s_byC (L := B_X7_needCustomer) (by decide +kernel) (by decide +kernel) j i h
theorem dX7_needCustomer_0 : decode cX7_needCustomer 0 = .ok (.iload_n 1, 1) := dz_27 (k_X7_needCustomer 0 0 rfl)
theorem dX7_needCustomer_1 : decode cX7_needCustomer 1 = .ok (.ifCond .lt 8, 3) := dz_155 (k_X7_needCustomer 0 1 rfl) (k_X7_needCustomer 0 2 rfl) (k_X7_needCustomer 0 3 rfl) rfl
theorem dX7_needCustomer_4 : decode cX7_needCustomer 4 = .ok (.iload_n 1, 1) := dz_27 (k_X7_needCustomer 0 4 rfl)
theorem dX7_needCustomer_5 : decode cX7_needCustomer 5 = .ok (.iconst 4, 1) := dz_7 (k_X7_needCustomer 0 5 rfl)
theorem dX7_needCustomer_6 : decode cX7_needCustomer 6 = .ok (.if_icmp .lt 14, 3) := dz_161 (k_X7_needCustomer 0 6 rfl) (k_X7_needCustomer 0 7 rfl) (k_X7_needCustomer 0 8 rfl) rfl
theorem dX7_needCustomer_9 : decode cX7_needCustomer 9 = .ok (.new 156, 3) := dz_187 (k_X7_needCustomer 0 9 rfl) (k_X7_needCustomer 0 10 rfl) (k_X7_needCustomer 0 11 rfl) rfl
theorem dX7_needCustomer_12 : decode cX7_needCustomer 12 = .ok (.dup, 1) := dz_89 (k_X7_needCustomer 0 12 rfl)
theorem dX7_needCustomer_13 : decode cX7_needCustomer 13 = .ok (.ldc_w 350, 3) := dz_19 (k_X7_needCustomer 0 13 rfl) (k_X7_needCustomer 0 14 rfl) (k_X7_needCustomer 0 15 rfl) rfl
theorem dX7_needCustomer_16 : decode cX7_needCustomer 16 = .ok (.invokespecial 160, 3) := dz_183 (k_X7_needCustomer 0 16 rfl) (k_X7_needCustomer 0 17 rfl) (k_X7_needCustomer 0 18 rfl) rfl
theorem dX7_needCustomer_19 : decode cX7_needCustomer 19 = .ok (.athrow, 1) := dz_191 (k_X7_needCustomer 0 19 rfl)
theorem dX7_needCustomer_20 : decode cX7_needCustomer 20 = .ok (.return_, 1) := dz_177 (k_X7_needCustomer 0 20 rfl)
def B_X7_needFormula : List (List Nat) := [[27, 155, 0, 14, 27, 42, 180, 0, 19, 180, 0, 103, 161, 0, 14, 187, 0, 156, 89, 19, 1, 90, 183, 0, 160, 191, 177]]
theorem k_X7_needFormula (j i : Nat) {b : Nat} (h : (B_X7_needFormula[j]?.bind fun c => c[i]?) = some b) : s_by cX7_needFormula (64 * j + i) b := s_byC (L := B_X7_needFormula) (by decide +kernel) (by decide +kernel) j i h
theorem dX7_needFormula_0 : decode cX7_needFormula 0 = .ok (.iload_n 1, 1) := dz_27 (k_X7_needFormula 0 0 rfl)
theorem dX7_needFormula_1 : decode cX7_needFormula 1 = .ok (.ifCond .lt 14, 3) := dz_155 (k_X7_needFormula 0 1 rfl) (k_X7_needFormula 0 2 rfl) (k_X7_needFormula 0 3 rfl) rfl
theorem dX7_needFormula_4 : decode cX7_needFormula 4 = .ok (.iload_n 1, 1) := dz_27 (k_X7_needFormula 0 4 rfl)
theorem dX7_needFormula_5 : decode cX7_needFormula 5 = .ok (.aload_n 0, 1) := dz_42 (k_X7_needFormula 0 5 rfl)
theorem dX7_needFormula_6 : decode cX7_needFormula 6 = .ok (.getfield 19, 3) := dz_180 (k_X7_needFormula 0 6 rfl) (k_X7_needFormula 0 7 rfl) (k_X7_needFormula 0 8 rfl) rfl
theorem dX7_needFormula_9 : decode cX7_needFormula 9 = .ok (.getfield 103, 3) := dz_180 (k_X7_needFormula 0 9 rfl) (k_X7_needFormula 0 10 rfl) (k_X7_needFormula 0 11 rfl) rfl
theorem dX7_needFormula_12 : decode cX7_needFormula 12 = .ok (.if_icmp .lt 14, 3) := dz_161 (k_X7_needFormula 0 12 rfl) (k_X7_needFormula 0 13 rfl) (k_X7_needFormula 0 14 rfl) rfl
theorem dX7_needFormula_15 : decode cX7_needFormula 15 = .ok (.new 156, 3) := dz_187 (k_X7_needFormula 0 15 rfl) (k_X7_needFormula 0 16 rfl) (k_X7_needFormula 0 17 rfl) rfl
theorem dX7_needFormula_18 : decode cX7_needFormula 18 = .ok (.dup, 1) := dz_89 (k_X7_needFormula 0 18 rfl)
theorem dX7_needFormula_19 : decode cX7_needFormula 19 = .ok (.ldc_w 346, 3) := dz_19 (k_X7_needFormula 0 19 rfl) (k_X7_needFormula 0 20 rfl) (k_X7_needFormula 0 21 rfl) rfl
theorem dX7_needFormula_22 : decode cX7_needFormula 22 = .ok (.invokespecial 160, 3) := dz_183 (k_X7_needFormula 0 22 rfl) (k_X7_needFormula 0 23 rfl) (k_X7_needFormula 0 24 rfl) rfl
theorem dX7_needFormula_25 : decode cX7_needFormula 25 = .ok (.athrow, 1) := dz_191 (k_X7_needFormula 0 25 rfl)
theorem dX7_needFormula_26 : decode cX7_needFormula 26 = .ok (.return_, 1) := dz_177 (k_X7_needFormula 0 26 rfl)
def B_X7_needHouse : List (List Nat) := [[27, 155, 0, 8, 27, 6, 161, 0, 14, 187, 0, 156, 89, 19, 1, 92, 183, 0, 160, 191, 177]]
theorem k_X7_needHouse (j i : Nat) {b : Nat} (h : (B_X7_needHouse[j]?.bind fun c => c[i]?) = some b) : s_by cX7_needHouse (64 * j + i) b := s_byC (L := B_X7_needHouse) (by decide +kernel) (by decide +kernel) j i h
theorem dX7_needHouse_0 : decode cX7_needHouse 0 = .ok (.iload_n 1, 1) := dz_27 (k_X7_needHouse 0 0 rfl)
theorem dX7_needHouse_1 : decode cX7_needHouse 1 = .ok (.ifCond .lt 8, 3) := dz_155 (k_X7_needHouse 0 1 rfl) (k_X7_needHouse 0 2 rfl) (k_X7_needHouse 0 3 rfl) rfl
theorem dX7_needHouse_4 : decode cX7_needHouse 4 = .ok (.iload_n 1, 1) := dz_27 (k_X7_needHouse 0 4 rfl)
theorem dX7_needHouse_5 : decode cX7_needHouse 5 = .ok (.iconst 3, 1) := dz_6 (k_X7_needHouse 0 5 rfl)
theorem dX7_needHouse_6 : decode cX7_needHouse 6 = .ok (.if_icmp .lt 14, 3) := dz_161 (k_X7_needHouse 0 6 rfl) (k_X7_needHouse 0 7 rfl) (k_X7_needHouse 0 8 rfl) rfl
theorem dX7_needHouse_9 : decode cX7_needHouse 9 = .ok (.new 156, 3) := dz_187 (k_X7_needHouse 0 9 rfl) (k_X7_needHouse 0 10 rfl) (k_X7_needHouse 0 11 rfl) rfl
theorem dX7_needHouse_12 : decode cX7_needHouse 12 = .ok (.dup, 1) := dz_89 (k_X7_needHouse 0 12 rfl)
theorem dX7_needHouse_13 : decode cX7_needHouse 13 = .ok (.ldc_w 348, 3) := dz_19 (k_X7_needHouse 0 13 rfl) (k_X7_needHouse 0 14 rfl) (k_X7_needHouse 0 15 rfl) rfl
theorem dX7_needHouse_16 : decode cX7_needHouse 16 = .ok (.invokespecial 160, 3) := dz_183 (k_X7_needHouse 0 16 rfl) (k_X7_needHouse 0 17 rfl) (k_X7_needHouse 0 18 rfl) rfl
theorem dX7_needHouse_19 : decode cX7_needHouse 19 = .ok (.athrow, 1) := dz_191 (k_X7_needHouse 0 19 rfl)
theorem dX7_needHouse_20 : decode cX7_needHouse 20 = .ok (.return_, 1) := dz_177 (k_X7_needHouse 0 20 rfl)
def B_X7_needLaw : List (List Nat) := [[27, 155, 0, 9, 27, 16, 31, 164, 0, 14, 187, 0, 96, 89, 19, 1, 103, 183, 0, 100, 191, 177]]
theorem k_X7_needLaw (j i : Nat) {b : Nat} (h : (B_X7_needLaw[j]?.bind fun c => c[i]?) = some b) : s_by cX7_needLaw (64 * j + i) b := s_byC (L := B_X7_needLaw) (by decide +kernel) (by decide +kernel) j i h
theorem dX7_needLaw_0 : decode cX7_needLaw 0 = .ok (.iload_n 1, 1) := dz_27 (k_X7_needLaw 0 0 rfl)
theorem dX7_needLaw_1 : decode cX7_needLaw 1 = .ok (.ifCond .lt 9, 3) := dz_155 (k_X7_needLaw 0 1 rfl) (k_X7_needLaw 0 2 rfl) (k_X7_needLaw 0 3 rfl) rfl
theorem dX7_needLaw_4 : decode cX7_needLaw 4 = .ok (.iload_n 1, 1) := dz_27 (k_X7_needLaw 0 4 rfl)
theorem dX7_needLaw_5 : decode cX7_needLaw 5 = .ok (.bipush 31, 2) := dz_16 (k_X7_needLaw 0 5 rfl) (k_X7_needLaw 0 6 rfl) rfl
theorem dX7_needLaw_7 : decode cX7_needLaw 7 = .ok (.if_icmp .le 14, 3) := dz_164 (k_X7_needLaw 0 7 rfl) (k_X7_needLaw 0 8 rfl) (k_X7_needLaw 0 9 rfl) rfl
theorem dX7_needLaw_10 : decode cX7_needLaw 10 = .ok (.new 96, 3) := dz_187 (k_X7_needLaw 0 10 rfl) (k_X7_needLaw 0 11 rfl) (k_X7_needLaw 0 12 rfl) rfl
theorem dX7_needLaw_13 : decode cX7_needLaw 13 = .ok (.dup, 1) := dz_89 (k_X7_needLaw 0 13 rfl)
theorem dX7_needLaw_14 : decode cX7_needLaw 14 = .ok (.ldc_w 359, 3) := dz_19 (k_X7_needLaw 0 14 rfl) (k_X7_needLaw 0 15 rfl) (k_X7_needLaw 0 16 rfl) rfl
theorem dX7_needLaw_17 : decode cX7_needLaw 17 = .ok (.invokespecial 100, 3) := dz_183 (k_X7_needLaw 0 17 rfl) (k_X7_needLaw 0 18 rfl) (k_X7_needLaw 0 19 rfl) rfl
theorem dX7_needLaw_20 : decode cX7_needLaw 20 = .ok (.athrow, 1) := dz_191 (k_X7_needLaw 0 20 rfl)
theorem dX7_needLaw_21 : decode cX7_needLaw 21 = .ok (.return_, 1) := dz_177 (k_X7_needLaw 0 21 rfl)
def B_X7_needLine : List (List Nat) := [[27, 155, 0, 14, 27, 42, 180, 0, 19, 180, 0, 186, 161, 0, 14, 187, 0, 156, 89, 19, 1, 96, 183, 0, 160, 191, 177]]
theorem k_X7_needLine (j i : Nat) {b : Nat} (h : (B_X7_needLine[j]?.bind fun c => c[i]?) = some b) : s_by cX7_needLine (64 * j + i) b := s_byC (L := B_X7_needLine) (by decide +kernel) (by decide +kernel) j i h
theorem dX7_needLine_0 : decode cX7_needLine 0 = .ok (.iload_n 1, 1) := dz_27 (k_X7_needLine 0 0 rfl)
theorem dX7_needLine_1 : decode cX7_needLine 1 = .ok (.ifCond .lt 14, 3) := dz_155 (k_X7_needLine 0 1 rfl) (k_X7_needLine 0 2 rfl) (k_X7_needLine 0 3 rfl) rfl
theorem dX7_needLine_4 : decode cX7_needLine 4 = .ok (.iload_n 1, 1) := dz_27 (k_X7_needLine 0 4 rfl)
theorem dX7_needLine_5 : decode cX7_needLine 5 = .ok (.aload_n 0, 1) := dz_42 (k_X7_needLine 0 5 rfl)
theorem dX7_needLine_6 : decode cX7_needLine 6 = .ok (.getfield 19, 3) := dz_180 (k_X7_needLine 0 6 rfl) (k_X7_needLine 0 7 rfl) (k_X7_needLine 0 8 rfl) rfl
theorem dX7_needLine_9 : decode cX7_needLine 9 = .ok (.getfield 186, 3) := dz_180 (k_X7_needLine 0 9 rfl) (k_X7_needLine 0 10 rfl) (k_X7_needLine 0 11 rfl) rfl
theorem dX7_needLine_12 : decode cX7_needLine 12 = .ok (.if_icmp .lt 14, 3) := dz_161 (k_X7_needLine 0 12 rfl) (k_X7_needLine 0 13 rfl) (k_X7_needLine 0 14 rfl) rfl
theorem dX7_needLine_15 : decode cX7_needLine 15 = .ok (.new 156, 3) := dz_187 (k_X7_needLine 0 15 rfl) (k_X7_needLine 0 16 rfl) (k_X7_needLine 0 17 rfl) rfl
theorem dX7_needLine_18 : decode cX7_needLine 18 = .ok (.dup, 1) := dz_89 (k_X7_needLine 0 18 rfl)
theorem dX7_needLine_19 : decode cX7_needLine 19 = .ok (.ldc_w 352, 3) := dz_19 (k_X7_needLine 0 19 rfl) (k_X7_needLine 0 20 rfl) (k_X7_needLine 0 21 rfl) rfl
theorem dX7_needLine_22 : decode cX7_needLine 22 = .ok (.invokespecial 160, 3) := dz_183 (k_X7_needLine 0 22 rfl) (k_X7_needLine 0 23 rfl) (k_X7_needLine 0 24 rfl) rfl
theorem dX7_needLine_25 : decode cX7_needLine 25 = .ok (.athrow, 1) := dz_191 (k_X7_needLine 0 25 rfl)
theorem dX7_needLine_26 : decode cX7_needLine 26 = .ok (.return_, 1) := dz_177 (k_X7_needLine 0 26 rfl)
def B_X7_needPremise : List (List Nat) := [[27, 2, 159, 0, 8, 42, 27, 182, 0, 195, 177]]
theorem k_X7_needPremise (j i : Nat) {b : Nat} (h : (B_X7_needPremise[j]?.bind fun c => c[i]?) = some b) : s_by cX7_needPremise (64 * j + i) b := s_byC (L := B_X7_needPremise) (by decide +kernel) (by decide +kernel) j i h
theorem dX7_needPremise_0 : decode cX7_needPremise 0 = .ok (.iload_n 1, 1) := dz_27 (k_X7_needPremise 0 0 rfl)
theorem dX7_needPremise_1 : decode cX7_needPremise 1 = .ok (.iconst (-1), 1) := dz_2 (k_X7_needPremise 0 1 rfl)
theorem dX7_needPremise_2 : decode cX7_needPremise 2 = .ok (.if_icmp .eq 8, 3) := dz_159 (k_X7_needPremise 0 2 rfl) (k_X7_needPremise 0 3 rfl) (k_X7_needPremise 0 4 rfl) rfl
theorem dX7_needPremise_5 : decode cX7_needPremise 5 = .ok (.aload_n 0, 1) := dz_42 (k_X7_needPremise 0 5 rfl)
theorem dX7_needPremise_6 : decode cX7_needPremise 6 = .ok (.iload_n 1, 1) := dz_27 (k_X7_needPremise 0 6 rfl)
theorem dX7_needPremise_7 : decode cX7_needPremise 7 = .ok (.invokevirtual 195, 3) := dz_182 (k_X7_needPremise 0 7 rfl) (k_X7_needPremise 0 8 rfl) (k_X7_needPremise 0 9 rfl) rfl
theorem dX7_needPremise_10 : decode cX7_needPremise 10 = .ok (.return_, 1) := dz_177 (k_X7_needPremise 0 10 rfl)
def B_X7_needProof : List (List Nat) := [[42, 27, 182, 0, 146, 42, 28, 182, 0, 171, 42, 29, 182, 0, 128, 42, 180, 0, 56, 28, 42, 180, 0, 19, 29, 182, 0, 131, 182, 1, 107, 177]]
theorem k_X7_needProof (j i : Nat) {b : Nat} (h : (B_X7_needProof[j]?.bind fun c => c[i]?) = some b) : s_by cX7_needProof (64 * j + i) b := s_byC (L := B_X7_needProof) (by decide +kernel) (by decide +kernel) j i h
theorem dX7_needProof_0 : decode cX7_needProof 0 = .ok (.aload_n 0, 1) := dz_42 (k_X7_needProof 0 0 rfl)
theorem dX7_needProof_1 : decode cX7_needProof 1 = .ok (.iload_n 1, 1) := dz_27 (k_X7_needProof 0 1 rfl)
theorem dX7_needProof_2 : decode cX7_needProof 2 = .ok (.invokevirtual 146, 3) := dz_182 (k_X7_needProof 0 2 rfl) (k_X7_needProof 0 3 rfl) (k_X7_needProof 0 4 rfl) rfl
theorem dX7_needProof_5 : decode cX7_needProof 5 = .ok (.aload_n 0, 1) := dz_42 (k_X7_needProof 0 5 rfl)
theorem dX7_needProof_6 : decode cX7_needProof 6 = .ok (.iload_n 2, 1) := dz_28 (k_X7_needProof 0 6 rfl)
theorem dX7_needProof_7 : decode cX7_needProof 7 = .ok (.invokevirtual 171, 3) := dz_182 (k_X7_needProof 0 7 rfl) (k_X7_needProof 0 8 rfl) (k_X7_needProof 0 9 rfl) rfl
theorem dX7_needProof_10 : decode cX7_needProof 10 = .ok (.aload_n 0, 1) := dz_42 (k_X7_needProof 0 10 rfl)
theorem dX7_needProof_11 : decode cX7_needProof 11 = .ok (.iload_n 3, 1) := dz_29 (k_X7_needProof 0 11 rfl)
theorem dX7_needProof_12 : decode cX7_needProof 12 = .ok (.invokevirtual 128, 3) := dz_182 (k_X7_needProof 0 12 rfl) (k_X7_needProof 0 13 rfl) (k_X7_needProof 0 14 rfl) rfl
theorem dX7_needProof_15 : decode cX7_needProof 15 = .ok (.aload_n 0, 1) := dz_42 (k_X7_needProof 0 15 rfl)
theorem dX7_needProof_16 : decode cX7_needProof 16 = .ok (.getfield 56, 3) := dz_180 (k_X7_needProof 0 16 rfl) (k_X7_needProof 0 17 rfl) (k_X7_needProof 0 18 rfl) rfl
theorem dX7_needProof_19 : decode cX7_needProof 19 = .ok (.iload_n 2, 1) := dz_28 (k_X7_needProof 0 19 rfl)
theorem dX7_needProof_20 : decode cX7_needProof 20 = .ok (.aload_n 0, 1) := dz_42 (k_X7_needProof 0 20 rfl)
theorem dX7_needProof_21 : decode cX7_needProof 21 = .ok (.getfield 19, 3) := dz_180 (k_X7_needProof 0 21 rfl) (k_X7_needProof 0 22 rfl) (k_X7_needProof 0 23 rfl) rfl
theorem dX7_needProof_24 : decode cX7_needProof 24 = .ok (.iload_n 3, 1) := dz_29 (k_X7_needProof 0 24 rfl)
theorem dX7_needProof_25 : decode cX7_needProof 25 = .ok (.invokevirtual 131, 3) := dz_182 (k_X7_needProof 0 25 rfl) (k_X7_needProof 0 26 rfl) (k_X7_needProof 0 27 rfl) rfl
theorem dX7_needProof_28 : decode cX7_needProof 28 = .ok (.invokevirtual 363, 3) := dz_182 (k_X7_needProof 0 28 rfl) (k_X7_needProof 0 29 rfl) (k_X7_needProof 0 30 rfl) rfl
theorem dX7_needProof_31 : decode cX7_needProof 31 = .ok (.return_, 1) := dz_177 (k_X7_needProof 0 31 rfl)
def B_X7_needSet : List (List Nat) := [[27, 4, 42, 180, 0, 19, 180, 0, 103, 120, 4, 100, 126, 61, 28, 184, 1, 73, 16, 14, 164, 0, 14, 187, 0, 96, 89, 19, 1, 105, 183, 0, 100, 191, 28, 172]]
theorem k_X7_needSet (j i : Nat) {b : Nat} (h : (B_X7_needSet[j]?.bind fun c => c[i]?) = some b) : s_by cX7_needSet (64 * j + i) b := s_byC (L := B_X7_needSet) (by decide +kernel) (by decide +kernel) j i h
theorem dX7_needSet_0 : decode cX7_needSet 0 = .ok (.iload_n 1, 1) := dz_27 (k_X7_needSet 0 0 rfl)
theorem dX7_needSet_1 : decode cX7_needSet 1 = .ok (.iconst 1, 1) := dz_4 (k_X7_needSet 0 1 rfl)
theorem dX7_needSet_2 : decode cX7_needSet 2 = .ok (.aload_n 0, 1) := dz_42 (k_X7_needSet 0 2 rfl)
theorem dX7_needSet_3 : decode cX7_needSet 3 = .ok (.getfield 19, 3) := dz_180 (k_X7_needSet 0 3 rfl) (k_X7_needSet 0 4 rfl) (k_X7_needSet 0 5 rfl) rfl
theorem dX7_needSet_6 : decode cX7_needSet 6 = .ok (.getfield 103, 3) := dz_180 (k_X7_needSet 0 6 rfl) (k_X7_needSet 0 7 rfl) (k_X7_needSet 0 8 rfl) rfl
theorem dX7_needSet_9 : decode cX7_needSet 9 = .ok (.ishl, 1) := dz_120 (k_X7_needSet 0 9 rfl)
theorem dX7_needSet_10 : decode cX7_needSet 10 = .ok (.iconst 1, 1) := dz_4 (k_X7_needSet 0 10 rfl)
theorem dX7_needSet_11 : decode cX7_needSet 11 = .ok (.isub, 1) := dz_100 (k_X7_needSet 0 11 rfl)
theorem dX7_needSet_12 : decode cX7_needSet 12 = .ok (.iand, 1) := dz_126 (k_X7_needSet 0 12 rfl)
theorem dX7_needSet_13 : decode cX7_needSet 13 = .ok (.istore_n 2, 1) := dz_61 (k_X7_needSet 0 13 rfl)
theorem dX7_needSet_14 : decode cX7_needSet 14 = .ok (.iload_n 2, 1) := dz_28 (k_X7_needSet 0 14 rfl)
theorem dX7_needSet_15 : decode cX7_needSet 15 = .ok (.invokestatic 329, 3) := dz_184 (k_X7_needSet 0 15 rfl) (k_X7_needSet 0 16 rfl) (k_X7_needSet 0 17 rfl) rfl
theorem dX7_needSet_18 : decode cX7_needSet 18 = .ok (.bipush 14, 2) := dz_16 (k_X7_needSet 0 18 rfl) (k_X7_needSet 0 19 rfl) rfl
theorem dX7_needSet_20 : decode cX7_needSet 20 = .ok (.if_icmp .le 14, 3) := dz_164 (k_X7_needSet 0 20 rfl) (k_X7_needSet 0 21 rfl) (k_X7_needSet 0 22 rfl) rfl
theorem dX7_needSet_23 : decode cX7_needSet 23 = .ok (.new 96, 3) := dz_187 (k_X7_needSet 0 23 rfl) (k_X7_needSet 0 24 rfl) (k_X7_needSet 0 25 rfl) rfl
theorem dX7_needSet_26 : decode cX7_needSet 26 = .ok (.dup, 1) := dz_89 (k_X7_needSet 0 26 rfl)
theorem dX7_needSet_27 : decode cX7_needSet 27 = .ok (.ldc_w 361, 3) := dz_19 (k_X7_needSet 0 27 rfl) (k_X7_needSet 0 28 rfl) (k_X7_needSet 0 29 rfl) rfl
theorem dX7_needSet_30 : decode cX7_needSet 30 = .ok (.invokespecial 100, 3) := dz_183 (k_X7_needSet 0 30 rfl) (k_X7_needSet 0 31 rfl) (k_X7_needSet 0 32 rfl) rfl
theorem dX7_needSet_33 : decode cX7_needSet 33 = .ok (.athrow, 1) := dz_191 (k_X7_needSet 0 33 rfl)
theorem dX7_needSet_34 : decode cX7_needSet 34 = .ok (.iload_n 2, 1) := dz_28 (k_X7_needSet 0 34 rfl)
theorem dX7_needSet_35 : decode cX7_needSet 35 = .ok (.ireturn, 1) := dz_172 (k_X7_needSet 0 35 rfl)
def B_X7_needWorld : List (List Nat) := [[27, 155, 0, 14, 27, 42, 180, 0, 19, 182, 1, 98, 161, 0, 14, 187, 0, 96, 89, 19, 1, 101, 183, 0, 100, 191, 177]]
theorem k_X7_needWorld (j i : Nat) {b : Nat} (h : (B_X7_needWorld[j]?.bind fun c => c[i]?) = some b) : s_by cX7_needWorld (64 * j + i) b := s_byC (L := B_X7_needWorld) (by decide +kernel) (by decide +kernel) j i h
theorem dX7_needWorld_0 : decode cX7_needWorld 0 = .ok (.iload_n 1, 1) := dz_27 (k_X7_needWorld 0 0 rfl)
theorem dX7_needWorld_1 : decode cX7_needWorld 1 = .ok (.ifCond .lt 14, 3) := dz_155 (k_X7_needWorld 0 1 rfl) (k_X7_needWorld 0 2 rfl) (k_X7_needWorld 0 3 rfl) rfl
theorem dX7_needWorld_4 : decode cX7_needWorld 4 = .ok (.iload_n 1, 1) := dz_27 (k_X7_needWorld 0 4 rfl)
theorem dX7_needWorld_5 : decode cX7_needWorld 5 = .ok (.aload_n 0, 1) := dz_42 (k_X7_needWorld 0 5 rfl)
theorem dX7_needWorld_6 : decode cX7_needWorld 6 = .ok (.getfield 19, 3) := dz_180 (k_X7_needWorld 0 6 rfl) (k_X7_needWorld 0 7 rfl) (k_X7_needWorld 0 8 rfl) rfl
theorem dX7_needWorld_9 : decode cX7_needWorld 9 = .ok (.invokevirtual 354, 3) := dz_182 (k_X7_needWorld 0 9 rfl) (k_X7_needWorld 0 10 rfl) (k_X7_needWorld 0 11 rfl) rfl
theorem dX7_needWorld_12 : decode cX7_needWorld 12 = .ok (.if_icmp .lt 14, 3) := dz_161 (k_X7_needWorld 0 12 rfl) (k_X7_needWorld 0 13 rfl) (k_X7_needWorld 0 14 rfl) rfl
theorem dX7_needWorld_15 : decode cX7_needWorld 15 = .ok (.new 96, 3) := dz_187 (k_X7_needWorld 0 15 rfl) (k_X7_needWorld 0 16 rfl) (k_X7_needWorld 0 17 rfl) rfl
theorem dX7_needWorld_18 : decode cX7_needWorld 18 = .ok (.dup, 1) := dz_89 (k_X7_needWorld 0 18 rfl)
theorem dX7_needWorld_19 : decode cX7_needWorld 19 = .ok (.ldc_w 357, 3) := dz_19 (k_X7_needWorld 0 19 rfl) (k_X7_needWorld 0 20 rfl) (k_X7_needWorld 0 21 rfl) rfl
theorem dX7_needWorld_22 : decode cX7_needWorld 22 = .ok (.invokespecial 100, 3) := dz_183 (k_X7_needWorld 0 22 rfl) (k_X7_needWorld 0 23 rfl) (k_X7_needWorld 0 24 rfl) rfl
theorem dX7_needWorld_25 : decode cX7_needWorld 25 = .ok (.athrow, 1) := dz_191 (k_X7_needWorld 0 25 rfl)
theorem dX7_needWorld_26 : decode cX7_needWorld 26 = .ok (.return_, 1) := dz_177 (k_X7_needWorld 0 26 rfl)
def B_X7_needs : List (List Nat) := [[42, 27, 182, 0, 195, 42, 180, 0, 19, 180, 0, 223, 27, 47, 173]]
theorem k_X7_needs (j i : Nat) {b : Nat} (h : (B_X7_needs[j]?.bind fun c => c[i]?) = some b) : s_by cX7_needs (64 * j + i) b := s_byC (L := B_X7_needs) (by decide +kernel) (by decide +kernel) j i h
theorem dX7_needs_0 : decode cX7_needs 0 = .ok (.aload_n 0, 1) := dz_42 (k_X7_needs 0 0 rfl)
theorem dX7_needs_1 : decode cX7_needs 1 = .ok (.iload_n 1, 1) := dz_27 (k_X7_needs 0 1 rfl)
theorem dX7_needs_2 : decode cX7_needs 2 = .ok (.invokevirtual 195, 3) := dz_182 (k_X7_needs 0 2 rfl) (k_X7_needs 0 3 rfl) (k_X7_needs 0 4 rfl) rfl
theorem dX7_needs_5 : decode cX7_needs 5 = .ok (.aload_n 0, 1) := dz_42 (k_X7_needs 0 5 rfl)
theorem dX7_needs_6 : decode cX7_needs 6 = .ok (.getfield 19, 3) := dz_180 (k_X7_needs 0 6 rfl) (k_X7_needs 0 7 rfl) (k_X7_needs 0 8 rfl) rfl
theorem dX7_needs_9 : decode cX7_needs 9 = .ok (.getfield 223, 3) := dz_180 (k_X7_needs 0 9 rfl) (k_X7_needs 0 10 rfl) (k_X7_needs 0 11 rfl) rfl
theorem dX7_needs_12 : decode cX7_needs 12 = .ok (.iload_n 1, 1) := dz_27 (k_X7_needs 0 12 rfl)
theorem dX7_needs_13 : decode cX7_needs 13 = .ok (.laload, 1) := dz_47 (k_X7_needs 0 13 rfl)
theorem dX7_needs_14 : decode cX7_needs 14 = .ok (.lreturn, 1) := dz_173 (k_X7_needs 0 14 rfl)
def B_X7_owes : List (List Nat) := [[42, 27, 182, 0, 146, 42, 29, 182, 1, 26, 28, 2, 159, 0, 24, 28, 155, 0, 9, 28, 16, 7, 161, 0, 14, 187, 0, 96, 89, 19, 1, 32, 183, 0, 100, 191, 42, 180, 0, 49, 182, 0, 209, 42, 180, 0, 65, 27, 28, 29, 182, 1, 53, 172]]
theorem k_X7_owes (j i : Nat) {b : Nat} (h : (B_X7_owes[j]?.bind fun c => c[i]?) = some b) : s_by cX7_owes (64 * j + i) b := s_byC (L := B_X7_owes) (by decide +kernel) (by decide +kernel) j i h
theorem dX7_owes_0 : decode cX7_owes 0 = .ok (.aload_n 0, 1) := dz_42 (k_X7_owes 0 0 rfl)
theorem dX7_owes_1 : decode cX7_owes 1 = .ok (.iload_n 1, 1) := dz_27 (k_X7_owes 0 1 rfl)
theorem dX7_owes_2 : decode cX7_owes 2 = .ok (.invokevirtual 146, 3) := dz_182 (k_X7_owes 0 2 rfl) (k_X7_owes 0 3 rfl) (k_X7_owes 0 4 rfl) rfl
theorem dX7_owes_5 : decode cX7_owes 5 = .ok (.aload_n 0, 1) := dz_42 (k_X7_owes 0 5 rfl)
theorem dX7_owes_6 : decode cX7_owes 6 = .ok (.iload_n 3, 1) := dz_29 (k_X7_owes 0 6 rfl)
theorem dX7_owes_7 : decode cX7_owes 7 = .ok (.invokevirtual 282, 3) := dz_182 (k_X7_owes 0 7 rfl) (k_X7_owes 0 8 rfl) (k_X7_owes 0 9 rfl) rfl
theorem dX7_owes_10 : decode cX7_owes 10 = .ok (.iload_n 2, 1) := dz_28 (k_X7_owes 0 10 rfl)
theorem dX7_owes_11 : decode cX7_owes 11 = .ok (.iconst (-1), 1) := dz_2 (k_X7_owes 0 11 rfl)
theorem dX7_owes_12 : decode cX7_owes 12 = .ok (.if_icmp .eq 24, 3) := dz_159 (k_X7_owes 0 12 rfl) (k_X7_owes 0 13 rfl) (k_X7_owes 0 14 rfl) rfl
theorem dX7_owes_15 : decode cX7_owes 15 = .ok (.iload_n 2, 1) := dz_28 (k_X7_owes 0 15 rfl)
theorem dX7_owes_16 : decode cX7_owes 16 = .ok (.ifCond .lt 9, 3) := dz_155 (k_X7_owes 0 16 rfl) (k_X7_owes 0 17 rfl) (k_X7_owes 0 18 rfl) rfl
theorem dX7_owes_19 : decode cX7_owes 19 = .ok (.iload_n 2, 1) := dz_28 (k_X7_owes 0 19 rfl)
theorem dX7_owes_20 : decode cX7_owes 20 = .ok (.bipush 7, 2) := dz_16 (k_X7_owes 0 20 rfl) (k_X7_owes 0 21 rfl) rfl
theorem dX7_owes_22 : decode cX7_owes 22 = .ok (.if_icmp .lt 14, 3) := dz_161 (k_X7_owes 0 22 rfl) (k_X7_owes 0 23 rfl) (k_X7_owes 0 24 rfl) rfl
theorem dX7_owes_25 : decode cX7_owes 25 = .ok (.new 96, 3) := dz_187 (k_X7_owes 0 25 rfl) (k_X7_owes 0 26 rfl) (k_X7_owes 0 27 rfl) rfl
theorem dX7_owes_28 : decode cX7_owes 28 = .ok (.dup, 1) := dz_89 (k_X7_owes 0 28 rfl)
theorem dX7_owes_29 : decode cX7_owes 29 = .ok (.ldc_w 288, 3) := dz_19 (k_X7_owes 0 29 rfl) (k_X7_owes 0 30 rfl) (k_X7_owes 0 31 rfl) rfl
theorem dX7_owes_32 : decode cX7_owes 32 = .ok (.invokespecial 100, 3) := dz_183 (k_X7_owes 0 32 rfl) (k_X7_owes 0 33 rfl) (k_X7_owes 0 34 rfl) rfl
theorem dX7_owes_35 : decode cX7_owes 35 = .ok (.athrow, 1) := dz_191 (k_X7_owes 0 35 rfl)
theorem dX7_owes_36 : decode cX7_owes 36 = .ok (.aload_n 0, 1) := dz_42 (k_X7_owes 0 36 rfl)
theorem dX7_owes_37 : decode cX7_owes 37 = .ok (.getfield 49, 3) := dz_180 (k_X7_owes 0 37 rfl) (k_X7_owes 0 38 rfl) (k_X7_owes 0 39 rfl) rfl
theorem dX7_owes_40 : decode cX7_owes 40 = .ok (.invokevirtual 209, 3) := dz_182 (k_X7_owes 0 40 rfl) (k_X7_owes 0 41 rfl) (k_X7_owes 0 42 rfl) rfl
theorem dX7_owes_43 : decode cX7_owes 43 = .ok (.aload_n 0, 1) := dz_42 (k_X7_owes 0 43 rfl)
theorem dX7_owes_44 : decode cX7_owes 44 = .ok (.getfield 65, 3) := dz_180 (k_X7_owes 0 44 rfl) (k_X7_owes 0 45 rfl) (k_X7_owes 0 46 rfl) rfl
theorem dX7_owes_47 : decode cX7_owes 47 = .ok (.iload_n 1, 1) := dz_27 (k_X7_owes 0 47 rfl)
theorem dX7_owes_48 : decode cX7_owes 48 = .ok (.iload_n 2, 1) := dz_28 (k_X7_owes 0 48 rfl)
theorem dX7_owes_49 : decode cX7_owes 49 = .ok (.iload_n 3, 1) := dz_29 (k_X7_owes 0 49 rfl)
theorem dX7_owes_50 : decode cX7_owes 50 = .ok (.invokevirtual 309, 3) := dz_182 (k_X7_owes 0 50 rfl) (k_X7_owes 0 51 rfl) (k_X7_owes 0 52 rfl) rfl
theorem dX7_owes_53 : decode cX7_owes 53 = .ok (.ireturn, 1) := dz_172 (k_X7_owes 0 53 rfl)
def B_X7_price : List (List Nat) := [[42, 27, 182, 0, 146, 28, 155, 0, 9, 28, 16, 16, 164, 0, 13, 187, 0, 156, 89, 18, 158, 183, 0, 160, 191, 29, 155, 0, 20, 29, 28, 16, 16, 160, 0, 8, 16, 9, 167, 0, 5, 16, 99, 164, 0, 13, 187, 0, 96, 89, 18, 161, 183, 0, 100, 191, 42, 180, 0, 19, 27, 28, 182, 0], [163, 54, 4, 42, 180, 0, 19, 27, 28, 29, 182, 0, 167, 21, 4, 172]]
theorem k_X7_price (j i : Nat) {b : Nat} (h : (B_X7_price[j]?.bind fun c => c[i]?) = some b) : s_by cX7_price (64 * j + i) b := s_byC (L := B_X7_price) (by decide +kernel) (by decide +kernel) j i h
theorem dX7_price_0 : decode cX7_price 0 = .ok (.aload_n 0, 1) := dz_42 (k_X7_price 0 0 rfl)
theorem dX7_price_1 : decode cX7_price 1 = .ok (.iload_n 1, 1) := dz_27 (k_X7_price 0 1 rfl)
theorem dX7_price_2 : decode cX7_price 2 = .ok (.invokevirtual 146, 3) := dz_182 (k_X7_price 0 2 rfl) (k_X7_price 0 3 rfl) (k_X7_price 0 4 rfl) rfl
theorem dX7_price_5 : decode cX7_price 5 = .ok (.iload_n 2, 1) := dz_28 (k_X7_price 0 5 rfl)
theorem dX7_price_6 : decode cX7_price 6 = .ok (.ifCond .lt 9, 3) := dz_155 (k_X7_price 0 6 rfl) (k_X7_price 0 7 rfl) (k_X7_price 0 8 rfl) rfl
theorem dX7_price_9 : decode cX7_price 9 = .ok (.iload_n 2, 1) := dz_28 (k_X7_price 0 9 rfl)
theorem dX7_price_10 : decode cX7_price 10 = .ok (.bipush 16, 2) := dz_16 (k_X7_price 0 10 rfl) (k_X7_price 0 11 rfl) rfl
theorem dX7_price_12 : decode cX7_price 12 = .ok (.if_icmp .le 13, 3) := dz_164 (k_X7_price 0 12 rfl) (k_X7_price 0 13 rfl) (k_X7_price 0 14 rfl) rfl
theorem dX7_price_15 : decode cX7_price 15 = .ok (.new 156, 3) := dz_187 (k_X7_price 0 15 rfl) (k_X7_price 0 16 rfl) (k_X7_price 0 17 rfl) rfl
theorem dX7_price_18 : decode cX7_price 18 = .ok (.dup, 1) := dz_89 (k_X7_price 0 18 rfl)
theorem dX7_price_19 : decode cX7_price 19 = .ok (.ldc 158, 2) := dz_18 (k_X7_price 0 19 rfl) (k_X7_price 0 20 rfl)
theorem dX7_price_21 : decode cX7_price 21 = .ok (.invokespecial 160, 3) := dz_183 (k_X7_price 0 21 rfl) (k_X7_price 0 22 rfl) (k_X7_price 0 23 rfl) rfl
theorem dX7_price_24 : decode cX7_price 24 = .ok (.athrow, 1) := dz_191 (k_X7_price 0 24 rfl)
theorem dX7_price_25 : decode cX7_price 25 = .ok (.iload_n 3, 1) := dz_29 (k_X7_price 0 25 rfl)
theorem dX7_price_26 : decode cX7_price 26 = .ok (.ifCond .lt 20, 3) := dz_155 (k_X7_price 0 26 rfl) (k_X7_price 0 27 rfl) (k_X7_price 0 28 rfl) rfl
theorem dX7_price_29 : decode cX7_price 29 = .ok (.iload_n 3, 1) := dz_29 (k_X7_price 0 29 rfl)
theorem dX7_price_30 : decode cX7_price 30 = .ok (.iload_n 2, 1) := dz_28 (k_X7_price 0 30 rfl)
theorem dX7_price_31 : decode cX7_price 31 = .ok (.bipush 16, 2) := dz_16 (k_X7_price 0 31 rfl) (k_X7_price 0 32 rfl) rfl
theorem dX7_price_33 : decode cX7_price 33 = .ok (.if_icmp .ne 8, 3) := dz_160 (k_X7_price 0 33 rfl) (k_X7_price 0 34 rfl) (k_X7_price 0 35 rfl) rfl
theorem dX7_price_36 : decode cX7_price 36 = .ok (.bipush 9, 2) := dz_16 (k_X7_price 0 36 rfl) (k_X7_price 0 37 rfl) rfl
theorem dX7_price_38 : decode cX7_price 38 = .ok (.goto 5, 3) := dz_167 (k_X7_price 0 38 rfl) (k_X7_price 0 39 rfl) (k_X7_price 0 40 rfl) rfl
theorem dX7_price_41 : decode cX7_price 41 = .ok (.bipush 99, 2) := dz_16 (k_X7_price 0 41 rfl) (k_X7_price 0 42 rfl) rfl
theorem dX7_price_43 : decode cX7_price 43 = .ok (.if_icmp .le 13, 3) := dz_164 (k_X7_price 0 43 rfl) (k_X7_price 0 44 rfl) (k_X7_price 0 45 rfl) rfl
theorem dX7_price_46 : decode cX7_price 46 = .ok (.new 96, 3) := dz_187 (k_X7_price 0 46 rfl) (k_X7_price 0 47 rfl) (k_X7_price 0 48 rfl) rfl
theorem dX7_price_49 : decode cX7_price 49 = .ok (.dup, 1) := dz_89 (k_X7_price 0 49 rfl)
theorem dX7_price_50 : decode cX7_price 50 = .ok (.ldc 161, 2) := dz_18 (k_X7_price 0 50 rfl) (k_X7_price 0 51 rfl)
theorem dX7_price_52 : decode cX7_price 52 = .ok (.invokespecial 100, 3) := dz_183 (k_X7_price 0 52 rfl) (k_X7_price 0 53 rfl) (k_X7_price 0 54 rfl) rfl
theorem dX7_price_55 : decode cX7_price 55 = .ok (.athrow, 1) := dz_191 (k_X7_price 0 55 rfl)
theorem dX7_price_56 : decode cX7_price 56 = .ok (.aload_n 0, 1) := dz_42 (k_X7_price 0 56 rfl)
theorem dX7_price_57 : decode cX7_price 57 = .ok (.getfield 19, 3) := dz_180 (k_X7_price 0 57 rfl) (k_X7_price 0 58 rfl) (k_X7_price 0 59 rfl) rfl
theorem dX7_price_60 : decode cX7_price 60 = .ok (.iload_n 1, 1) := dz_27 (k_X7_price 0 60 rfl)
theorem dX7_price_61 : decode cX7_price 61 = .ok (.iload_n 2, 1) := dz_28 (k_X7_price 0 61 rfl)
theorem dX7_price_62 : decode cX7_price 62 = .ok (.invokevirtual 163, 3) := dz_182 (k_X7_price 0 62 rfl) (k_X7_price 0 63 rfl) (k_X7_price 1 0 rfl) rfl
theorem dX7_price_65 : decode cX7_price 65 = .ok (.istore 4, 2) := dz_54 (k_X7_price 1 1 rfl) (k_X7_price 1 2 rfl)
theorem dX7_price_67 : decode cX7_price 67 = .ok (.aload_n 0, 1) := dz_42 (k_X7_price 1 3 rfl)
theorem dX7_price_68 : decode cX7_price 68 = .ok (.getfield 19, 3) := dz_180 (k_X7_price 1 4 rfl) (k_X7_price 1 5 rfl) (k_X7_price 1 6 rfl) rfl
theorem dX7_price_71 : decode cX7_price 71 = .ok (.iload_n 1, 1) := dz_27 (k_X7_price 1 7 rfl)
theorem dX7_price_72 : decode cX7_price 72 = .ok (.iload_n 2, 1) := dz_28 (k_X7_price 1 8 rfl)
theorem dX7_price_73 : decode cX7_price 73 = .ok (.iload_n 3, 1) := dz_29 (k_X7_price 1 9 rfl)
theorem dX7_price_74 : decode cX7_price 74 = .ok (.invokevirtual 167, 3) := dz_182 (k_X7_price 1 10 rfl) (k_X7_price 1 11 rfl) (k_X7_price 1 12 rfl) rfl
theorem dX7_price_77 : decode cX7_price 77 = .ok (.iload 4, 2) := dz_21 (k_X7_price 1 13 rfl) (k_X7_price 1 14 rfl)
theorem dX7_price_79 : decode cX7_price 79 = .ok (.ireturn, 1) := dz_172 (k_X7_price 1 15 rfl)
def B_X7_refunds : List (List Nat) := [[42, 27, 182, 1, 26, 42, 180, 0, 49, 182, 0, 209, 42, 180, 0, 65, 27, 182, 1, 57, 172]]
theorem k_X7_refunds (j i : Nat) {b : Nat} (h : (B_X7_refunds[j]?.bind fun c => c[i]?) = some b) : s_by cX7_refunds (64 * j + i) b := s_byC (L := B_X7_refunds) (by decide +kernel) (by decide +kernel) j i h
theorem dX7_refunds_0 : decode cX7_refunds 0 = .ok (.aload_n 0, 1) := dz_42 (k_X7_refunds 0 0 rfl)
theorem dX7_refunds_1 : decode cX7_refunds 1 = .ok (.iload_n 1, 1) := dz_27 (k_X7_refunds 0 1 rfl)
theorem dX7_refunds_2 : decode cX7_refunds 2 = .ok (.invokevirtual 282, 3) := dz_182 (k_X7_refunds 0 2 rfl) (k_X7_refunds 0 3 rfl) (k_X7_refunds 0 4 rfl) rfl
theorem dX7_refunds_5 : decode cX7_refunds 5 = .ok (.aload_n 0, 1) := dz_42 (k_X7_refunds 0 5 rfl)
theorem dX7_refunds_6 : decode cX7_refunds 6 = .ok (.getfield 49, 3) := dz_180 (k_X7_refunds 0 6 rfl) (k_X7_refunds 0 7 rfl) (k_X7_refunds 0 8 rfl) rfl
theorem dX7_refunds_9 : decode cX7_refunds 9 = .ok (.invokevirtual 209, 3) := dz_182 (k_X7_refunds 0 9 rfl) (k_X7_refunds 0 10 rfl) (k_X7_refunds 0 11 rfl) rfl
theorem dX7_refunds_12 : decode cX7_refunds 12 = .ok (.aload_n 0, 1) := dz_42 (k_X7_refunds 0 12 rfl)
theorem dX7_refunds_13 : decode cX7_refunds 13 = .ok (.getfield 65, 3) := dz_180 (k_X7_refunds 0 13 rfl) (k_X7_refunds 0 14 rfl) (k_X7_refunds 0 15 rfl) rfl
theorem dX7_refunds_16 : decode cX7_refunds 16 = .ok (.iload_n 1, 1) := dz_27 (k_X7_refunds 0 16 rfl)
theorem dX7_refunds_17 : decode cX7_refunds 17 = .ok (.invokevirtual 313, 3) := dz_182 (k_X7_refunds 0 17 rfl) (k_X7_refunds 0 18 rfl) (k_X7_refunds 0 19 rfl) rfl
theorem dX7_refunds_20 : decode cX7_refunds 20 = .ok (.ireturn, 1) := dz_172 (k_X7_refunds 0 20 rfl)
def B_X7_resold : List (List Nat) := [[42, 27, 28, 29, 182, 0, 238, 42, 180, 0, 56, 27, 182, 0, 250, 172]]
theorem k_X7_resold (j i : Nat) {b : Nat} (h : (B_X7_resold[j]?.bind fun c => c[i]?) = some b) : s_by cX7_resold (64 * j + i) b := s_byC (L := B_X7_resold) (by decide +kernel) (by decide +kernel) j i h
theorem dX7_resold_0 : decode cX7_resold 0 = .ok (.aload_n 0, 1) := dz_42 (k_X7_resold 0 0 rfl)
theorem dX7_resold_1 : decode cX7_resold 1 = .ok (.iload_n 1, 1) := dz_27 (k_X7_resold 0 1 rfl)
theorem dX7_resold_2 : decode cX7_resold 2 = .ok (.iload_n 2, 1) := dz_28 (k_X7_resold 0 2 rfl)
theorem dX7_resold_3 : decode cX7_resold 3 = .ok (.iload_n 3, 1) := dz_29 (k_X7_resold 0 3 rfl)
theorem dX7_resold_4 : decode cX7_resold 4 = .ok (.invokevirtual 238, 3) := dz_182 (k_X7_resold 0 4 rfl) (k_X7_resold 0 5 rfl) (k_X7_resold 0 6 rfl) rfl
theorem dX7_resold_7 : decode cX7_resold 7 = .ok (.aload_n 0, 1) := dz_42 (k_X7_resold 0 7 rfl)
theorem dX7_resold_8 : decode cX7_resold 8 = .ok (.getfield 56, 3) := dz_180 (k_X7_resold 0 8 rfl) (k_X7_resold 0 9 rfl) (k_X7_resold 0 10 rfl) rfl
theorem dX7_resold_11 : decode cX7_resold 11 = .ok (.iload_n 1, 1) := dz_27 (k_X7_resold 0 11 rfl)
theorem dX7_resold_12 : decode cX7_resold 12 = .ok (.invokevirtual 250, 3) := dz_182 (k_X7_resold 0 12 rfl) (k_X7_resold 0 13 rfl) (k_X7_resold 0 14 rfl) rfl
theorem dX7_resold_15 : decode cX7_resold 15 = .ok (.ireturn, 1) := dz_172 (k_X7_resold 0 15 rfl)
def B_X7_rests : List (List Nat) := [[42, 27, 182, 0, 195, 42, 180, 0, 19, 180, 0, 219, 27, 47, 173]]
theorem k_X7_rests (j i : Nat) {b : Nat} (h : (B_X7_rests[j]?.bind fun c => c[i]?) = some b) : s_by cX7_rests (64 * j + i) b := s_byC (L := B_X7_rests) (by decide +kernel) (by decide +kernel) j i h
theorem dX7_rests_0 : decode cX7_rests 0 = .ok (.aload_n 0, 1) := dz_42 (k_X7_rests 0 0 rfl)
theorem dX7_rests_1 : decode cX7_rests 1 = .ok (.iload_n 1, 1) := dz_27 (k_X7_rests 0 1 rfl)
theorem dX7_rests_2 : decode cX7_rests 2 = .ok (.invokevirtual 195, 3) := dz_182 (k_X7_rests 0 2 rfl) (k_X7_rests 0 3 rfl) (k_X7_rests 0 4 rfl) rfl
theorem dX7_rests_5 : decode cX7_rests 5 = .ok (.aload_n 0, 1) := dz_42 (k_X7_rests 0 5 rfl)
theorem dX7_rests_6 : decode cX7_rests 6 = .ok (.getfield 19, 3) := dz_180 (k_X7_rests 0 6 rfl) (k_X7_rests 0 7 rfl) (k_X7_rests 0 8 rfl) rfl
theorem dX7_rests_9 : decode cX7_rests 9 = .ok (.getfield 219, 3) := dz_180 (k_X7_rests 0 9 rfl) (k_X7_rests 0 10 rfl) (k_X7_rests 0 11 rfl) rfl
theorem dX7_rests_12 : decode cX7_rests 12 = .ok (.iload_n 1, 1) := dz_27 (k_X7_rests 0 12 rfl)
theorem dX7_rests_13 : decode cX7_rests 13 = .ok (.laload, 1) := dz_47 (k_X7_rests 0 13 rfl)
theorem dX7_rests_14 : decode cX7_rests 14 = .ok (.lreturn, 1) := dz_173 (k_X7_rests 0 14 rfl)
def B_X7_rules : List (List Nat) := [[42, 27, 182, 0, 146, 28, 155, 0, 9, 28, 18, 149, 164, 0, 13, 187, 0, 96, 89, 18, 150, 183, 0, 100, 191, 42, 180, 0, 19, 180, 0, 152, 27, 46, 62, 42, 180, 0, 19, 180, 0, 152, 27, 28, 79, 29, 172]]
theorem k_X7_rules (j i : Nat) {b : Nat} (h : (B_X7_rules[j]?.bind fun c => c[i]?) = some b) : s_by cX7_rules (64 * j + i) b := s_byC (L := B_X7_rules) (by decide +kernel) (by decide +kernel) j i h
theorem dX7_rules_0 : decode cX7_rules 0 = .ok (.aload_n 0, 1) := dz_42 (k_X7_rules 0 0 rfl)
theorem dX7_rules_1 : decode cX7_rules 1 = .ok (.iload_n 1, 1) := dz_27 (k_X7_rules 0 1 rfl)
theorem dX7_rules_2 : decode cX7_rules 2 = .ok (.invokevirtual 146, 3) := dz_182 (k_X7_rules 0 2 rfl) (k_X7_rules 0 3 rfl) (k_X7_rules 0 4 rfl) rfl
theorem dX7_rules_5 : decode cX7_rules 5 = .ok (.iload_n 2, 1) := dz_28 (k_X7_rules 0 5 rfl)
theorem dX7_rules_6 : decode cX7_rules 6 = .ok (.ifCond .lt 9, 3) := dz_155 (k_X7_rules 0 6 rfl) (k_X7_rules 0 7 rfl) (k_X7_rules 0 8 rfl) rfl
theorem dX7_rules_9 : decode cX7_rules 9 = .ok (.iload_n 2, 1) := dz_28 (k_X7_rules 0 9 rfl)
theorem dX7_rules_10 : decode cX7_rules 10 = .ok (.ldc 149, 2) := dz_18 (k_X7_rules 0 10 rfl) (k_X7_rules 0 11 rfl)
theorem dX7_rules_12 : decode cX7_rules 12 = .ok (.if_icmp .le 13, 3) := dz_164 (k_X7_rules 0 12 rfl) (k_X7_rules 0 13 rfl) (k_X7_rules 0 14 rfl) rfl
theorem dX7_rules_15 : decode cX7_rules 15 = .ok (.new 96, 3) := dz_187 (k_X7_rules 0 15 rfl) (k_X7_rules 0 16 rfl) (k_X7_rules 0 17 rfl) rfl
theorem dX7_rules_18 : decode cX7_rules 18 = .ok (.dup, 1) := dz_89 (k_X7_rules 0 18 rfl)
theorem dX7_rules_19 : decode cX7_rules 19 = .ok (.ldc 150, 2) := dz_18 (k_X7_rules 0 19 rfl) (k_X7_rules 0 20 rfl)
theorem dX7_rules_21 : decode cX7_rules 21 = .ok (.invokespecial 100, 3) := dz_183 (k_X7_rules 0 21 rfl) (k_X7_rules 0 22 rfl) (k_X7_rules 0 23 rfl) rfl
theorem dX7_rules_24 : decode cX7_rules 24 = .ok (.athrow, 1) := dz_191 (k_X7_rules 0 24 rfl)
theorem dX7_rules_25 : decode cX7_rules 25 = .ok (.aload_n 0, 1) := dz_42 (k_X7_rules 0 25 rfl)
theorem dX7_rules_26 : decode cX7_rules 26 = .ok (.getfield 19, 3) := dz_180 (k_X7_rules 0 26 rfl) (k_X7_rules 0 27 rfl) (k_X7_rules 0 28 rfl) rfl
theorem dX7_rules_29 : decode cX7_rules 29 = .ok (.getfield 152, 3) := dz_180 (k_X7_rules 0 29 rfl) (k_X7_rules 0 30 rfl) (k_X7_rules 0 31 rfl) rfl
theorem dX7_rules_32 : decode cX7_rules 32 = .ok (.iload_n 1, 1) := dz_27 (k_X7_rules 0 32 rfl)
theorem dX7_rules_33 : decode cX7_rules 33 = .ok (.iaload, 1) := dz_46 (k_X7_rules 0 33 rfl)
theorem dX7_rules_34 : decode cX7_rules 34 = .ok (.istore_n 3, 1) := dz_62 (k_X7_rules 0 34 rfl)
theorem dX7_rules_35 : decode cX7_rules 35 = .ok (.aload_n 0, 1) := dz_42 (k_X7_rules 0 35 rfl)
theorem dX7_rules_36 : decode cX7_rules 36 = .ok (.getfield 19, 3) := dz_180 (k_X7_rules 0 36 rfl) (k_X7_rules 0 37 rfl) (k_X7_rules 0 38 rfl) rfl
theorem dX7_rules_39 : decode cX7_rules 39 = .ok (.getfield 152, 3) := dz_180 (k_X7_rules 0 39 rfl) (k_X7_rules 0 40 rfl) (k_X7_rules 0 41 rfl) rfl
theorem dX7_rules_42 : decode cX7_rules 42 = .ok (.iload_n 1, 1) := dz_27 (k_X7_rules 0 42 rfl)
theorem dX7_rules_43 : decode cX7_rules 43 = .ok (.iload_n 2, 1) := dz_28 (k_X7_rules 0 43 rfl)
theorem dX7_rules_44 : decode cX7_rules 44 = .ok (.iastore, 1) := dz_79 (k_X7_rules 0 44 rfl)
theorem dX7_rules_45 : decode cX7_rules 45 = .ok (.iload_n 3, 1) := dz_29 (k_X7_rules 0 45 rfl)
theorem dX7_rules_46 : decode cX7_rules 46 = .ok (.ireturn, 1) := dz_172 (k_X7_rules 0 46 rfl)
def B_X7_same : List (List Nat) := [[42, 27, 182, 0, 128, 42, 28, 182, 0, 128, 42, 180, 0, 19, 27, 182, 0, 131, 42, 180, 0, 19, 28, 182, 0, 131, 160, 0, 7, 4, 167, 0, 4, 3, 172]]
theorem k_X7_same (j i : Nat) {b : Nat} (h : (B_X7_same[j]?.bind fun c => c[i]?) = some b) : s_by cX7_same (64 * j + i) b := s_byC (L := B_X7_same) (by decide +kernel) (by decide +kernel) j i h
theorem dX7_same_0 : decode cX7_same 0 = .ok (.aload_n 0, 1) := dz_42 (k_X7_same 0 0 rfl)
theorem dX7_same_1 : decode cX7_same 1 = .ok (.iload_n 1, 1) := dz_27 (k_X7_same 0 1 rfl)
theorem dX7_same_2 : decode cX7_same 2 = .ok (.invokevirtual 128, 3) := dz_182 (k_X7_same 0 2 rfl) (k_X7_same 0 3 rfl) (k_X7_same 0 4 rfl) rfl
theorem dX7_same_5 : decode cX7_same 5 = .ok (.aload_n 0, 1) := dz_42 (k_X7_same 0 5 rfl)
theorem dX7_same_6 : decode cX7_same 6 = .ok (.iload_n 2, 1) := dz_28 (k_X7_same 0 6 rfl)
theorem dX7_same_7 : decode cX7_same 7 = .ok (.invokevirtual 128, 3) := dz_182 (k_X7_same 0 7 rfl) (k_X7_same 0 8 rfl) (k_X7_same 0 9 rfl) rfl
theorem dX7_same_10 : decode cX7_same 10 = .ok (.aload_n 0, 1) := dz_42 (k_X7_same 0 10 rfl)
theorem dX7_same_11 : decode cX7_same 11 = .ok (.getfield 19, 3) := dz_180 (k_X7_same 0 11 rfl) (k_X7_same 0 12 rfl) (k_X7_same 0 13 rfl) rfl
theorem dX7_same_14 : decode cX7_same 14 = .ok (.iload_n 1, 1) := dz_27 (k_X7_same 0 14 rfl)
theorem dX7_same_15 : decode cX7_same 15 = .ok (.invokevirtual 131, 3) := dz_182 (k_X7_same 0 15 rfl) (k_X7_same 0 16 rfl) (k_X7_same 0 17 rfl) rfl
theorem dX7_same_18 : decode cX7_same 18 = .ok (.aload_n 0, 1) := dz_42 (k_X7_same 0 18 rfl)
theorem dX7_same_19 : decode cX7_same 19 = .ok (.getfield 19, 3) := dz_180 (k_X7_same 0 19 rfl) (k_X7_same 0 20 rfl) (k_X7_same 0 21 rfl) rfl
theorem dX7_same_22 : decode cX7_same 22 = .ok (.iload_n 2, 1) := dz_28 (k_X7_same 0 22 rfl)
theorem dX7_same_23 : decode cX7_same 23 = .ok (.invokevirtual 131, 3) := dz_182 (k_X7_same 0 23 rfl) (k_X7_same 0 24 rfl) (k_X7_same 0 25 rfl) rfl
theorem dX7_same_26 : decode cX7_same 26 = .ok (.if_icmp .ne 7, 3) := dz_160 (k_X7_same 0 26 rfl) (k_X7_same 0 27 rfl) (k_X7_same 0 28 rfl) rfl
theorem dX7_same_29 : decode cX7_same 29 = .ok (.iconst 1, 1) := dz_4 (k_X7_same 0 29 rfl)
theorem dX7_same_30 : decode cX7_same 30 = .ok (.goto 4, 3) := dz_167 (k_X7_same 0 30 rfl) (k_X7_same 0 31 rfl) (k_X7_same 0 32 rfl) rfl
theorem dX7_same_33 : decode cX7_same 33 = .ok (.iconst 0, 1) := dz_3 (k_X7_same 0 33 rfl)
theorem dX7_same_34 : decode cX7_same 34 = .ok (.ireturn, 1) := dz_172 (k_X7_same 0 34 rfl)
def B_X7_sell : List (List Nat) := [[42, 27, 182, 0, 195, 28, 7, 42, 180, 0, 19, 27, 3, 182, 0, 206, 96, 160, 0, 7, 4, 167, 0, 4, 3, 54, 5, 28, 155, 0, 14, 28, 16, 7, 162, 0, 8, 21, 5, 153, 0, 14, 187, 0, 96, 89, 19, 1, 32, 183, 0, 100, 191, 29, 155, 0, 23, 29, 17, 39, 15, 163, 0, 16], [21, 4, 155, 0, 11, 21, 4, 17, 39, 15, 164, 0, 14, 187, 0, 96, 89, 19, 1, 34, 183, 0, 100, 191, 42, 180, 0, 19, 180, 1, 36, 16, 30, 161, 0, 14, 187, 0, 106, 89, 19, 1, 39, 183, 0, 110, 191, 42, 180, 0, 19, 27, 28, 29, 21, 4, 182, 1, 41, 172]]
theorem k_X7_sell (j i : Nat) {b : Nat} (h : (B_X7_sell[j]?.bind fun c => c[i]?) = some b) : s_by cX7_sell (64 * j + i) b := s_byC (L := B_X7_sell) (by decide +kernel) (by decide +kernel) j i h
theorem dX7_sell_0 : decode cX7_sell 0 = .ok (.aload_n 0, 1) := dz_42 (k_X7_sell 0 0 rfl)
theorem dX7_sell_1 : decode cX7_sell 1 = .ok (.iload_n 1, 1) := dz_27 (k_X7_sell 0 1 rfl)
theorem dX7_sell_2 : decode cX7_sell 2 = .ok (.invokevirtual 195, 3) := dz_182 (k_X7_sell 0 2 rfl) (k_X7_sell 0 3 rfl) (k_X7_sell 0 4 rfl) rfl
theorem dX7_sell_5 : decode cX7_sell 5 = .ok (.iload_n 2, 1) := dz_28 (k_X7_sell 0 5 rfl)
theorem dX7_sell_6 : decode cX7_sell 6 = .ok (.iconst 4, 1) := dz_7 (k_X7_sell 0 6 rfl)
theorem dX7_sell_7 : decode cX7_sell 7 = .ok (.aload_n 0, 1) := dz_42 (k_X7_sell 0 7 rfl)
theorem dX7_sell_8 : decode cX7_sell 8 = .ok (.getfield 19, 3) := dz_180 (k_X7_sell 0 8 rfl) (k_X7_sell 0 9 rfl) (k_X7_sell 0 10 rfl) rfl
theorem dX7_sell_11 : decode cX7_sell 11 = .ok (.iload_n 1, 1) := dz_27 (k_X7_sell 0 11 rfl)
theorem dX7_sell_12 : decode cX7_sell 12 = .ok (.iconst 0, 1) := dz_3 (k_X7_sell 0 12 rfl)
theorem dX7_sell_13 : decode cX7_sell 13 = .ok (.invokevirtual 206, 3) := dz_182 (k_X7_sell 0 13 rfl) (k_X7_sell 0 14 rfl) (k_X7_sell 0 15 rfl) rfl
theorem dX7_sell_16 : decode cX7_sell 16 = .ok (.iadd, 1) := dz_96 (k_X7_sell 0 16 rfl)
theorem dX7_sell_17 : decode cX7_sell 17 = .ok (.if_icmp .ne 7, 3) := dz_160 (k_X7_sell 0 17 rfl) (k_X7_sell 0 18 rfl) (k_X7_sell 0 19 rfl) rfl
theorem dX7_sell_20 : decode cX7_sell 20 = .ok (.iconst 1, 1) := dz_4 (k_X7_sell 0 20 rfl)
theorem dX7_sell_21 : decode cX7_sell 21 = .ok (.goto 4, 3) := dz_167 (k_X7_sell 0 21 rfl) (k_X7_sell 0 22 rfl) (k_X7_sell 0 23 rfl) rfl
theorem dX7_sell_24 : decode cX7_sell 24 = .ok (.iconst 0, 1) := dz_3 (k_X7_sell 0 24 rfl)
theorem dX7_sell_25 : decode cX7_sell 25 = .ok (.istore 5, 2) := dz_54 (k_X7_sell 0 25 rfl) (k_X7_sell 0 26 rfl)
theorem dX7_sell_27 : decode cX7_sell 27 = .ok (.iload_n 2, 1) := dz_28 (k_X7_sell 0 27 rfl)
theorem dX7_sell_28 : decode cX7_sell 28 = .ok (.ifCond .lt 14, 3) := dz_155 (k_X7_sell 0 28 rfl) (k_X7_sell 0 29 rfl) (k_X7_sell 0 30 rfl) rfl
theorem dX7_sell_31 : decode cX7_sell 31 = .ok (.iload_n 2, 1) := dz_28 (k_X7_sell 0 31 rfl)
theorem dX7_sell_32 : decode cX7_sell 32 = .ok (.bipush 7, 2) := dz_16 (k_X7_sell 0 32 rfl) (k_X7_sell 0 33 rfl) rfl
theorem dX7_sell_34 : decode cX7_sell 34 = .ok (.if_icmp .ge 8, 3) := dz_162 (k_X7_sell 0 34 rfl) (k_X7_sell 0 35 rfl) (k_X7_sell 0 36 rfl) rfl
theorem dX7_sell_37 : decode cX7_sell 37 = .ok (.iload 5, 2) := dz_21 (k_X7_sell 0 37 rfl) (k_X7_sell 0 38 rfl)
theorem dX7_sell_39 : decode cX7_sell 39 = .ok (.ifCond .eq 14, 3) := dz_153 (k_X7_sell 0 39 rfl) (k_X7_sell 0 40 rfl) (k_X7_sell 0 41 rfl) rfl
theorem dX7_sell_42 : decode cX7_sell 42 = .ok (.new 96, 3) := dz_187 (k_X7_sell 0 42 rfl) (k_X7_sell 0 43 rfl) (k_X7_sell 0 44 rfl) rfl
theorem dX7_sell_45 : decode cX7_sell 45 = .ok (.dup, 1) := dz_89 (k_X7_sell 0 45 rfl)
theorem dX7_sell_46 : decode cX7_sell 46 = .ok (.ldc_w 288, 3) := dz_19 (k_X7_sell 0 46 rfl) (k_X7_sell 0 47 rfl) (k_X7_sell 0 48 rfl) rfl
theorem dX7_sell_49 : decode cX7_sell 49 = .ok (.invokespecial 100, 3) := dz_183 (k_X7_sell 0 49 rfl) (k_X7_sell 0 50 rfl) (k_X7_sell 0 51 rfl) rfl
theorem dX7_sell_52 : decode cX7_sell 52 = .ok (.athrow, 1) := dz_191 (k_X7_sell 0 52 rfl)
theorem dX7_sell_53 : decode cX7_sell 53 = .ok (.iload_n 3, 1) := dz_29 (k_X7_sell 0 53 rfl)
theorem dX7_sell_54 : decode cX7_sell 54 = .ok (.ifCond .lt 23, 3) := dz_155 (k_X7_sell 0 54 rfl) (k_X7_sell 0 55 rfl) (k_X7_sell 0 56 rfl) rfl
theorem dX7_sell_57 : decode cX7_sell 57 = .ok (.iload_n 3, 1) := dz_29 (k_X7_sell 0 57 rfl)
theorem dX7_sell_58 : decode cX7_sell 58 = .ok (.sipush 9999, 3) := dz_17 (k_X7_sell 0 58 rfl) (k_X7_sell 0 59 rfl) (k_X7_sell 0 60 rfl) rfl
theorem dX7_sell_61 : decode cX7_sell 61 = .ok (.if_icmp .gt 16, 3) := dz_163 (k_X7_sell 0 61 rfl) (k_X7_sell 0 62 rfl) (k_X7_sell 0 63 rfl) rfl
theorem dX7_sell_64 : decode cX7_sell 64 = .ok (.iload 4, 2) := dz_21 (k_X7_sell 1 0 rfl) (k_X7_sell 1 1 rfl)
theorem dX7_sell_66 : decode cX7_sell 66 = .ok (.ifCond .lt 11, 3) := dz_155 (k_X7_sell 1 2 rfl) (k_X7_sell 1 3 rfl) (k_X7_sell 1 4 rfl) rfl
theorem dX7_sell_69 : decode cX7_sell 69 = .ok (.iload 4, 2) := dz_21 (k_X7_sell 1 5 rfl) (k_X7_sell 1 6 rfl)
theorem dX7_sell_71 : decode cX7_sell 71 = .ok (.sipush 9999, 3) := dz_17 (k_X7_sell 1 7 rfl) (k_X7_sell 1 8 rfl) (k_X7_sell 1 9 rfl) rfl
theorem dX7_sell_74 : decode cX7_sell 74 = .ok (.if_icmp .le 14, 3) := dz_164 (k_X7_sell 1 10 rfl) (k_X7_sell 1 11 rfl) (k_X7_sell 1 12 rfl) rfl
theorem dX7_sell_77 : decode cX7_sell 77 = .ok (.new 96, 3) := dz_187 (k_X7_sell 1 13 rfl) (k_X7_sell 1 14 rfl) (k_X7_sell 1 15 rfl) rfl
theorem dX7_sell_80 : decode cX7_sell 80 = .ok (.dup, 1) := dz_89 (k_X7_sell 1 16 rfl)
theorem dX7_sell_81 : decode cX7_sell 81 = .ok (.ldc_w 290, 3) := dz_19 (k_X7_sell 1 17 rfl) (k_X7_sell 1 18 rfl) (k_X7_sell 1 19 rfl) rfl
theorem dX7_sell_84 : decode cX7_sell 84 = .ok (.invokespecial 100, 3) := dz_183 (k_X7_sell 1 20 rfl) (k_X7_sell 1 21 rfl) (k_X7_sell 1 22 rfl) rfl
theorem dX7_sell_87 : decode cX7_sell 87 = .ok (.athrow, 1) := dz_191 (k_X7_sell 1 23 rfl)
theorem dX7_sell_88 : decode cX7_sell 88 = .ok (.aload_n 0, 1) := dz_42 (k_X7_sell 1 24 rfl)
theorem dX7_sell_89 : decode cX7_sell 89 = .ok (.getfield 19, 3) := dz_180 (k_X7_sell 1 25 rfl) (k_X7_sell 1 26 rfl) (k_X7_sell 1 27 rfl) rfl
theorem dX7_sell_92 : decode cX7_sell 92 = .ok (.getfield 292, 3) := dz_180 (k_X7_sell 1 28 rfl) (k_X7_sell 1 29 rfl) (k_X7_sell 1 30 rfl) rfl
theorem dX7_sell_95 : decode cX7_sell 95 = .ok (.bipush 30, 2) := dz_16 (k_X7_sell 1 31 rfl) (k_X7_sell 1 32 rfl) rfl
theorem dX7_sell_97 : decode cX7_sell 97 = .ok (.if_icmp .lt 14, 3) := dz_161 (k_X7_sell 1 33 rfl) (k_X7_sell 1 34 rfl) (k_X7_sell 1 35 rfl) rfl
theorem dX7_sell_100 : decode cX7_sell 100 = .ok (.new 106, 3) := dz_187 (k_X7_sell 1 36 rfl) (k_X7_sell 1 37 rfl) (k_X7_sell 1 38 rfl) rfl
theorem dX7_sell_103 : decode cX7_sell 103 = .ok (.dup, 1) := dz_89 (k_X7_sell 1 39 rfl)
theorem dX7_sell_104 : decode cX7_sell 104 = .ok (.ldc_w 295, 3) := dz_19 (k_X7_sell 1 40 rfl) (k_X7_sell 1 41 rfl) (k_X7_sell 1 42 rfl) rfl
theorem dX7_sell_107 : decode cX7_sell 107 = .ok (.invokespecial 110, 3) := dz_183 (k_X7_sell 1 43 rfl) (k_X7_sell 1 44 rfl) (k_X7_sell 1 45 rfl) rfl
theorem dX7_sell_110 : decode cX7_sell 110 = .ok (.athrow, 1) := dz_191 (k_X7_sell 1 46 rfl)
theorem dX7_sell_111 : decode cX7_sell 111 = .ok (.aload_n 0, 1) := dz_42 (k_X7_sell 1 47 rfl)
theorem dX7_sell_112 : decode cX7_sell 112 = .ok (.getfield 19, 3) := dz_180 (k_X7_sell 1 48 rfl) (k_X7_sell 1 49 rfl) (k_X7_sell 1 50 rfl) rfl
theorem dX7_sell_115 : decode cX7_sell 115 = .ok (.iload_n 1, 1) := dz_27 (k_X7_sell 1 51 rfl)
theorem dX7_sell_116 : decode cX7_sell 116 = .ok (.iload_n 2, 1) := dz_28 (k_X7_sell 1 52 rfl)
theorem dX7_sell_117 : decode cX7_sell 117 = .ok (.iload_n 3, 1) := dz_29 (k_X7_sell 1 53 rfl)
theorem dX7_sell_118 : decode cX7_sell 118 = .ok (.iload 4, 2) := dz_21 (k_X7_sell 1 54 rfl) (k_X7_sell 1 55 rfl)
theorem dX7_sell_120 : decode cX7_sell 120 = .ok (.invokevirtual 297, 3) := dz_182 (k_X7_sell 1 56 rfl) (k_X7_sell 1 57 rfl) (k_X7_sell 1 58 rfl) rfl
theorem dX7_sell_123 : decode cX7_sell 123 = .ok (.ireturn, 1) := dz_172 (k_X7_sell 1 59 rfl)
def B_X7_signs : List (List Nat) := [[42, 27, 182, 0, 128, 42, 180, 0, 12, 42, 180, 0, 19, 27, 182, 0, 131, 182, 0, 134, 172]]
theorem k_X7_signs (j i : Nat) {b : Nat} (h : (B_X7_signs[j]?.bind fun c => c[i]?) = some b) : s_by cX7_signs (64 * j + i) b := s_byC (L := B_X7_signs) (by decide +kernel) (by decide +kernel) j i h
theorem dX7_signs_0 : decode cX7_signs 0 = .ok (.aload_n 0, 1) := dz_42 (k_X7_signs 0 0 rfl)
theorem dX7_signs_1 : decode cX7_signs 1 = .ok (.iload_n 1, 1) := dz_27 (k_X7_signs 0 1 rfl)
theorem dX7_signs_2 : decode cX7_signs 2 = .ok (.invokevirtual 128, 3) := dz_182 (k_X7_signs 0 2 rfl) (k_X7_signs 0 3 rfl) (k_X7_signs 0 4 rfl) rfl
theorem dX7_signs_5 : decode cX7_signs 5 = .ok (.aload_n 0, 1) := dz_42 (k_X7_signs 0 5 rfl)
theorem dX7_signs_6 : decode cX7_signs 6 = .ok (.getfield 12, 3) := dz_180 (k_X7_signs 0 6 rfl) (k_X7_signs 0 7 rfl) (k_X7_signs 0 8 rfl) rfl
theorem dX7_signs_9 : decode cX7_signs 9 = .ok (.aload_n 0, 1) := dz_42 (k_X7_signs 0 9 rfl)
theorem dX7_signs_10 : decode cX7_signs 10 = .ok (.getfield 19, 3) := dz_180 (k_X7_signs 0 10 rfl) (k_X7_signs 0 11 rfl) (k_X7_signs 0 12 rfl) rfl
theorem dX7_signs_13 : decode cX7_signs 13 = .ok (.iload_n 1, 1) := dz_27 (k_X7_signs 0 13 rfl)
theorem dX7_signs_14 : decode cX7_signs 14 = .ok (.invokevirtual 131, 3) := dz_182 (k_X7_signs 0 14 rfl) (k_X7_signs 0 15 rfl) (k_X7_signs 0 16 rfl) rfl
theorem dX7_signs_17 : decode cX7_signs 17 = .ok (.invokevirtual 134, 3) := dz_182 (k_X7_signs 0 17 rfl) (k_X7_signs 0 18 rfl) (k_X7_signs 0 19 rfl) rfl
theorem dX7_signs_20 : decode cX7_signs 20 = .ok (.ireturn, 1) := dz_172 (k_X7_signs 0 20 rfl)
def B_X7_spent : List (List Nat) := [[42, 27, 182, 0, 195, 42, 180, 0, 49, 27, 182, 0, 226, 172]]
theorem k_X7_spent (j i : Nat) {b : Nat} (h : (B_X7_spent[j]?.bind fun c => c[i]?) = some b) : s_by cX7_spent (64 * j + i) b := s_byC (L := B_X7_spent) (by decide +kernel) (by decide +kernel) j i h
theorem dX7_spent_0 : decode cX7_spent 0 = .ok (.aload_n 0, 1) := dz_42 (k_X7_spent 0 0 rfl)
theorem dX7_spent_1 : decode cX7_spent 1 = .ok (.iload_n 1, 1) := dz_27 (k_X7_spent 0 1 rfl)
theorem dX7_spent_2 : decode cX7_spent 2 = .ok (.invokevirtual 195, 3) := dz_182 (k_X7_spent 0 2 rfl) (k_X7_spent 0 3 rfl) (k_X7_spent 0 4 rfl) rfl
theorem dX7_spent_5 : decode cX7_spent 5 = .ok (.aload_n 0, 1) := dz_42 (k_X7_spent 0 5 rfl)
theorem dX7_spent_6 : decode cX7_spent 6 = .ok (.getfield 49, 3) := dz_180 (k_X7_spent 0 6 rfl) (k_X7_spent 0 7 rfl) (k_X7_spent 0 8 rfl) rfl
theorem dX7_spent_9 : decode cX7_spent 9 = .ok (.iload_n 1, 1) := dz_27 (k_X7_spent 0 9 rfl)
theorem dX7_spent_10 : decode cX7_spent 10 = .ok (.invokevirtual 226, 3) := dz_182 (k_X7_spent 0 10 rfl) (k_X7_spent 0 11 rfl) (k_X7_spent 0 12 rfl) rfl
theorem dX7_spent_13 : decode cX7_spent 13 = .ok (.ireturn, 1) := dz_172 (k_X7_spent 0 13 rfl)
def B_X7_things : List (List Nat) := [[27, 4, 161, 0, 8, 27, 6, 164, 0, 13, 187, 0, 96, 89, 18, 121, 183, 0, 100, 191, 42, 180, 0, 19, 180, 0, 103, 158, 0, 13, 187, 0, 123, 89, 18, 125, 183, 0, 127, 191, 42, 180, 0, 19, 27, 181, 0, 84, 177]]
theorem k_X7_things (j i : Nat) {b : Nat} (h : (B_X7_things[j]?.bind fun c => c[i]?) = some b) : s_by cX7_things (64 * j + i) b := s_byC (L := B_X7_things) (by decide +kernel) (by decide +kernel) j i h
theorem dX7_things_0 : decode cX7_things 0 = .ok (.iload_n 1, 1) := dz_27 (k_X7_things 0 0 rfl)
theorem dX7_things_1 : decode cX7_things 1 = .ok (.iconst 1, 1) := dz_4 (k_X7_things 0 1 rfl)
theorem dX7_things_2 : decode cX7_things 2 = .ok (.if_icmp .lt 8, 3) := dz_161 (k_X7_things 0 2 rfl) (k_X7_things 0 3 rfl) (k_X7_things 0 4 rfl) rfl
theorem dX7_things_5 : decode cX7_things 5 = .ok (.iload_n 1, 1) := dz_27 (k_X7_things 0 5 rfl)
theorem dX7_things_6 : decode cX7_things 6 = .ok (.iconst 3, 1) := dz_6 (k_X7_things 0 6 rfl)
theorem dX7_things_7 : decode cX7_things 7 = .ok (.if_icmp .le 13, 3) := dz_164 (k_X7_things 0 7 rfl) (k_X7_things 0 8 rfl) (k_X7_things 0 9 rfl) rfl
theorem dX7_things_10 : decode cX7_things 10 = .ok (.new 96, 3) := dz_187 (k_X7_things 0 10 rfl) (k_X7_things 0 11 rfl) (k_X7_things 0 12 rfl) rfl
theorem dX7_things_13 : decode cX7_things 13 = .ok (.dup, 1) := dz_89 (k_X7_things 0 13 rfl)
theorem dX7_things_14 : decode cX7_things 14 = .ok (.ldc 121, 2) := dz_18 (k_X7_things 0 14 rfl) (k_X7_things 0 15 rfl)
theorem dX7_things_16 : decode cX7_things 16 = .ok (.invokespecial 100, 3) := dz_183 (k_X7_things 0 16 rfl) (k_X7_things 0 17 rfl) (k_X7_things 0 18 rfl) rfl
theorem dX7_things_19 : decode cX7_things 19 = .ok (.athrow, 1) := dz_191 (k_X7_things 0 19 rfl)
theorem dX7_things_20 : decode cX7_things 20 = .ok (.aload_n 0, 1) := dz_42 (k_X7_things 0 20 rfl)
theorem dX7_things_21 : decode cX7_things 21 = .ok (.getfield 19, 3) := dz_180 (k_X7_things 0 21 rfl) (k_X7_things 0 22 rfl) (k_X7_things 0 23 rfl) rfl
theorem dX7_things_24 : decode cX7_things 24 = .ok (.getfield 103, 3) := dz_180 (k_X7_things 0 24 rfl) (k_X7_things 0 25 rfl) (k_X7_things 0 26 rfl) rfl
theorem dX7_things_27 : decode cX7_things 27 = .ok (.ifCond .le 13, 3) := dz_158 (k_X7_things 0 27 rfl) (k_X7_things 0 28 rfl) (k_X7_things 0 29 rfl) rfl
theorem dX7_things_30 : decode cX7_things 30 = .ok (.new 123, 3) := dz_187 (k_X7_things 0 30 rfl) (k_X7_things 0 31 rfl) (k_X7_things 0 32 rfl) rfl
theorem dX7_things_33 : decode cX7_things 33 = .ok (.dup, 1) := dz_89 (k_X7_things 0 33 rfl)
theorem dX7_things_34 : decode cX7_things 34 = .ok (.ldc 125, 2) := dz_18 (k_X7_things 0 34 rfl) (k_X7_things 0 35 rfl)
theorem dX7_things_36 : decode cX7_things 36 = .ok (.invokespecial 127, 3) := dz_183 (k_X7_things 0 36 rfl) (k_X7_things 0 37 rfl) (k_X7_things 0 38 rfl) rfl
theorem dX7_things_39 : decode cX7_things 39 = .ok (.athrow, 1) := dz_191 (k_X7_things 0 39 rfl)
theorem dX7_things_40 : decode cX7_things 40 = .ok (.aload_n 0, 1) := dz_42 (k_X7_things 0 40 rfl)
theorem dX7_things_41 : decode cX7_things 41 = .ok (.getfield 19, 3) := dz_180 (k_X7_things 0 41 rfl) (k_X7_things 0 42 rfl) (k_X7_things 0 43 rfl) rfl
theorem dX7_things_44 : decode cX7_things 44 = .ok (.iload_n 1, 1) := dz_27 (k_X7_things 0 44 rfl)
theorem dX7_things_45 : decode cX7_things 45 = .ok (.putfield 84, 3) := dz_181 (k_X7_things 0 45 rfl) (k_X7_things 0 46 rfl) (k_X7_things 0 47 rfl) rfl
theorem dX7_things_48 : decode cX7_things 48 = .ok (.return_, 1) := dz_177 (k_X7_things 0 48 rfl)
def B_X7_truths : List (List Nat) := [[42, 27, 182, 0, 137, 42, 180, 0, 40, 27, 182, 1, 2, 172]]
theorem k_X7_truths (j i : Nat) {b : Nat} (h : (B_X7_truths[j]?.bind fun c => c[i]?) = some b) : s_by cX7_truths (64 * j + i) b := s_byC (L := B_X7_truths) (by decide +kernel) (by decide +kernel) j i h
theorem dX7_truths_0 : decode cX7_truths 0 = .ok (.aload_n 0, 1) := dz_42 (k_X7_truths 0 0 rfl)
theorem dX7_truths_1 : decode cX7_truths 1 = .ok (.iload_n 1, 1) := dz_27 (k_X7_truths 0 1 rfl)
theorem dX7_truths_2 : decode cX7_truths 2 = .ok (.invokevirtual 137, 3) := dz_182 (k_X7_truths 0 2 rfl) (k_X7_truths 0 3 rfl) (k_X7_truths 0 4 rfl) rfl
theorem dX7_truths_5 : decode cX7_truths 5 = .ok (.aload_n 0, 1) := dz_42 (k_X7_truths 0 5 rfl)
theorem dX7_truths_6 : decode cX7_truths 6 = .ok (.getfield 40, 3) := dz_180 (k_X7_truths 0 6 rfl) (k_X7_truths 0 7 rfl) (k_X7_truths 0 8 rfl) rfl
theorem dX7_truths_9 : decode cX7_truths 9 = .ok (.iload_n 1, 1) := dz_27 (k_X7_truths 0 9 rfl)
theorem dX7_truths_10 : decode cX7_truths 10 = .ok (.invokevirtual 258, 3) := dz_182 (k_X7_truths 0 10 rfl) (k_X7_truths 0 11 rfl) (k_X7_truths 0 12 rfl) rfl
theorem dX7_truths_13 : decode cX7_truths 13 = .ok (.ireturn, 1) := dz_172 (k_X7_truths 0 13 rfl)
def B_X7_undo : List (List Nat) := [[27, 155, 0, 14, 27, 42, 180, 0, 19, 180, 1, 36, 161, 0, 14, 187, 0, 156, 89, 19, 1, 45, 183, 0, 160, 191, 42, 180, 0, 19, 27, 182, 1, 47, 154, 0, 7, 4, 167, 0, 4, 3, 61, 42, 180, 0, 19, 89, 180, 1, 50, 4, 27, 120, 128, 181, 1, 50, 28, 172]]
theorem k_X7_undo (j i : Nat) {b : Nat} (h : (B_X7_undo[j]?.bind fun c => c[i]?) = some b) : s_by cX7_undo (64 * j + i) b := s_byC (L := B_X7_undo) (by decide +kernel) (by decide +kernel) j i h
theorem dX7_undo_0 : decode cX7_undo 0 = .ok (.iload_n 1, 1) := dz_27 (k_X7_undo 0 0 rfl)
theorem dX7_undo_1 : decode cX7_undo 1 = .ok (.ifCond .lt 14, 3) := dz_155 (k_X7_undo 0 1 rfl) (k_X7_undo 0 2 rfl) (k_X7_undo 0 3 rfl) rfl
theorem dX7_undo_4 : decode cX7_undo 4 = .ok (.iload_n 1, 1) := dz_27 (k_X7_undo 0 4 rfl)
theorem dX7_undo_5 : decode cX7_undo 5 = .ok (.aload_n 0, 1) := dz_42 (k_X7_undo 0 5 rfl)
theorem dX7_undo_6 : decode cX7_undo 6 = .ok (.getfield 19, 3) := dz_180 (k_X7_undo 0 6 rfl) (k_X7_undo 0 7 rfl) (k_X7_undo 0 8 rfl) rfl
theorem dX7_undo_9 : decode cX7_undo 9 = .ok (.getfield 292, 3) := dz_180 (k_X7_undo 0 9 rfl) (k_X7_undo 0 10 rfl) (k_X7_undo 0 11 rfl) rfl
theorem dX7_undo_12 : decode cX7_undo 12 = .ok (.if_icmp .lt 14, 3) := dz_161 (k_X7_undo 0 12 rfl) (k_X7_undo 0 13 rfl) (k_X7_undo 0 14 rfl) rfl
theorem dX7_undo_15 : decode cX7_undo 15 = .ok (.new 156, 3) := dz_187 (k_X7_undo 0 15 rfl) (k_X7_undo 0 16 rfl) (k_X7_undo 0 17 rfl) rfl
theorem dX7_undo_18 : decode cX7_undo 18 = .ok (.dup, 1) := dz_89 (k_X7_undo 0 18 rfl)
theorem dX7_undo_19 : decode cX7_undo 19 = .ok (.ldc_w 301, 3) := dz_19 (k_X7_undo 0 19 rfl) (k_X7_undo 0 20 rfl) (k_X7_undo 0 21 rfl) rfl
theorem dX7_undo_22 : decode cX7_undo 22 = .ok (.invokespecial 160, 3) := dz_183 (k_X7_undo 0 22 rfl) (k_X7_undo 0 23 rfl) (k_X7_undo 0 24 rfl) rfl
theorem dX7_undo_25 : decode cX7_undo 25 = .ok (.athrow, 1) := dz_191 (k_X7_undo 0 25 rfl)
theorem dX7_undo_26 : decode cX7_undo 26 = .ok (.aload_n 0, 1) := dz_42 (k_X7_undo 0 26 rfl)
theorem dX7_undo_27 : decode cX7_undo 27 = .ok (.getfield 19, 3) := dz_180 (k_X7_undo 0 27 rfl) (k_X7_undo 0 28 rfl) (k_X7_undo 0 29 rfl) rfl
theorem dX7_undo_30 : decode cX7_undo 30 = .ok (.iload_n 1, 1) := dz_27 (k_X7_undo 0 30 rfl)
theorem dX7_undo_31 : decode cX7_undo 31 = .ok (.invokevirtual 303, 3) := dz_182 (k_X7_undo 0 31 rfl) (k_X7_undo 0 32 rfl) (k_X7_undo 0 33 rfl) rfl
theorem dX7_undo_34 : decode cX7_undo 34 = .ok (.ifCond .ne 7, 3) := dz_154 (k_X7_undo 0 34 rfl) (k_X7_undo 0 35 rfl) (k_X7_undo 0 36 rfl) rfl
theorem dX7_undo_37 : decode cX7_undo 37 = .ok (.iconst 1, 1) := dz_4 (k_X7_undo 0 37 rfl)
theorem dX7_undo_38 : decode cX7_undo 38 = .ok (.goto 4, 3) := dz_167 (k_X7_undo 0 38 rfl) (k_X7_undo 0 39 rfl) (k_X7_undo 0 40 rfl) rfl
theorem dX7_undo_41 : decode cX7_undo 41 = .ok (.iconst 0, 1) := dz_3 (k_X7_undo 0 41 rfl)
theorem dX7_undo_42 : decode cX7_undo 42 = .ok (.istore_n 2, 1) := dz_61 (k_X7_undo 0 42 rfl)
theorem dX7_undo_43 : decode cX7_undo 43 = .ok (.aload_n 0, 1) := dz_42 (k_X7_undo 0 43 rfl)
theorem dX7_undo_44 : decode cX7_undo 44 = .ok (.getfield 19, 3) := dz_180 (k_X7_undo 0 44 rfl) (k_X7_undo 0 45 rfl) (k_X7_undo 0 46 rfl) rfl
theorem dX7_undo_47 : decode cX7_undo 47 = .ok (.dup, 1) := dz_89 (k_X7_undo 0 47 rfl)
theorem dX7_undo_48 : decode cX7_undo 48 = .ok (.getfield 306, 3) := dz_180 (k_X7_undo 0 48 rfl) (k_X7_undo 0 49 rfl) (k_X7_undo 0 50 rfl) rfl
theorem dX7_undo_51 : decode cX7_undo 51 = .ok (.iconst 1, 1) := dz_4 (k_X7_undo 0 51 rfl)
theorem dX7_undo_52 : decode cX7_undo 52 = .ok (.iload_n 1, 1) := dz_27 (k_X7_undo 0 52 rfl)
theorem dX7_undo_53 : decode cX7_undo 53 = .ok (.ishl, 1) := dz_120 (k_X7_undo 0 53 rfl)
theorem dX7_undo_54 : decode cX7_undo 54 = .ok (.ior, 1) := dz_128 (k_X7_undo 0 54 rfl)
theorem dX7_undo_55 : decode cX7_undo 55 = .ok (.putfield 306, 3) := dz_181 (k_X7_undo 0 55 rfl) (k_X7_undo 0 56 rfl) (k_X7_undo 0 57 rfl) rfl
theorem dX7_undo_58 : decode cX7_undo 58 = .ok (.iload_n 2, 1) := dz_28 (k_X7_undo 0 58 rfl)
theorem dX7_undo_59 : decode cX7_undo 59 = .ok (.ireturn, 1) := dz_172 (k_X7_undo 0 59 rfl)
def B_X7_where : List (List Nat) := [[42, 3, 27, 28, 182, 0, 238, 42, 180, 0, 56, 182, 0, 247, 172]]
theorem k_X7_where (j i : Nat) {b : Nat} (h : (B_X7_where[j]?.bind fun c => c[i]?) = some b) : s_by cX7_where (64 * j + i) b := s_byC (L := B_X7_where) (by decide +kernel) (by decide +kernel) j i h
theorem dX7_where_0 : decode cX7_where 0 = .ok (.aload_n 0, 1) := dz_42 (k_X7_where 0 0 rfl)
theorem dX7_where_1 : decode cX7_where 1 = .ok (.iconst 0, 1) := dz_3 (k_X7_where 0 1 rfl)
theorem dX7_where_2 : decode cX7_where 2 = .ok (.iload_n 1, 1) := dz_27 (k_X7_where 0 2 rfl)
theorem dX7_where_3 : decode cX7_where 3 = .ok (.iload_n 2, 1) := dz_28 (k_X7_where 0 3 rfl)
theorem dX7_where_4 : decode cX7_where 4 = .ok (.invokevirtual 238, 3) := dz_182 (k_X7_where 0 4 rfl) (k_X7_where 0 5 rfl) (k_X7_where 0 6 rfl) rfl
theorem dX7_where_7 : decode cX7_where 7 = .ok (.aload_n 0, 1) := dz_42 (k_X7_where 0 7 rfl)
theorem dX7_where_8 : decode cX7_where 8 = .ok (.getfield 56, 3) := dz_180 (k_X7_where 0 8 rfl) (k_X7_where 0 9 rfl) (k_X7_where 0 10 rfl) rfl
theorem dX7_where_11 : decode cX7_where 11 = .ok (.invokevirtual 247, 3) := dz_182 (k_X7_where 0 11 rfl) (k_X7_where 0 12 rfl) (k_X7_where 0 13 rfl) rfl
theorem dX7_where_14 : decode cX7_where 14 = .ok (.ireturn, 1) := dz_172 (k_X7_where 0 14 rfl)
def B_X7_withdraw : List (List Nat) := [[42, 27, 182, 1, 8, 61, 42, 180, 0, 40, 28, 182, 1, 11, 172]]
theorem k_X7_withdraw (j i : Nat) {b : Nat} (h : (B_X7_withdraw[j]?.bind fun c => c[i]?) = some b) : s_by cX7_withdraw (64 * j + i) b := s_byC (L := B_X7_withdraw) (by decide +kernel) (by decide +kernel) j i h
theorem dX7_withdraw_0 : decode cX7_withdraw 0 = .ok (.aload_n 0, 1) := dz_42 (k_X7_withdraw 0 0 rfl)
theorem dX7_withdraw_1 : decode cX7_withdraw 1 = .ok (.iload_n 1, 1) := dz_27 (k_X7_withdraw 0 1 rfl)
theorem dX7_withdraw_2 : decode cX7_withdraw 2 = .ok (.invokevirtual 264, 3) := dz_182 (k_X7_withdraw 0 2 rfl) (k_X7_withdraw 0 3 rfl) (k_X7_withdraw 0 4 rfl) rfl
theorem dX7_withdraw_5 : decode cX7_withdraw 5 = .ok (.istore_n 2, 1) := dz_61 (k_X7_withdraw 0 5 rfl)
theorem dX7_withdraw_6 : decode cX7_withdraw 6 = .ok (.aload_n 0, 1) := dz_42 (k_X7_withdraw 0 6 rfl)
theorem dX7_withdraw_7 : decode cX7_withdraw 7 = .ok (.getfield 40, 3) := dz_180 (k_X7_withdraw 0 7 rfl) (k_X7_withdraw 0 8 rfl) (k_X7_withdraw 0 9 rfl) rfl
theorem dX7_withdraw_10 : decode cX7_withdraw 10 = .ok (.iload_n 2, 1) := dz_28 (k_X7_withdraw 0 10 rfl)
theorem dX7_withdraw_11 : decode cX7_withdraw 11 = .ok (.invokevirtual 267, 3) := dz_182 (k_X7_withdraw 0 11 rfl) (k_X7_withdraw 0 12 rfl) (k_X7_withdraw 0 13 rfl) rfl
theorem dX7_withdraw_14 : decode cX7_withdraw 14 = .ok (.ireturn, 1) := dz_172 (k_X7_withdraw 0 14 rfl)
def B_X7_worlds : List (List Nat) := [[42, 27, 182, 0, 128, 42, 180, 0, 40, 27, 182, 0, 144, 172]]
theorem k_X7_worlds (j i : Nat) {b : Nat} (h : (B_X7_worlds[j]?.bind fun c => c[i]?) = some b) : s_by cX7_worlds (64 * j + i) b := s_byC (L := B_X7_worlds) (by decide +kernel) (by decide +kernel) j i h
theorem dX7_worlds_0 : decode cX7_worlds 0 = .ok (.aload_n 0, 1) := dz_42 (k_X7_worlds 0 0 rfl)
theorem dX7_worlds_1 : decode cX7_worlds 1 = .ok (.iload_n 1, 1) := dz_27 (k_X7_worlds 0 1 rfl)
theorem dX7_worlds_2 : decode cX7_worlds 2 = .ok (.invokevirtual 128, 3) := dz_182 (k_X7_worlds 0 2 rfl) (k_X7_worlds 0 3 rfl) (k_X7_worlds 0 4 rfl) rfl
theorem dX7_worlds_5 : decode cX7_worlds 5 = .ok (.aload_n 0, 1) := dz_42 (k_X7_worlds 0 5 rfl)
theorem dX7_worlds_6 : decode cX7_worlds 6 = .ok (.getfield 40, 3) := dz_180 (k_X7_worlds 0 6 rfl) (k_X7_worlds 0 7 rfl) (k_X7_worlds 0 8 rfl) rfl
theorem dX7_worlds_9 : decode cX7_worlds 9 = .ok (.iload_n 1, 1) := dz_27 (k_X7_worlds 0 9 rfl)
theorem dX7_worlds_10 : decode cX7_worlds 10 = .ok (.invokevirtual 144, 3) := dz_182 (k_X7_worlds 0 10 rfl) (k_X7_worlds 0 11 rfl) (k_X7_worlds 0 12 rfl) rfl
theorem dX7_worlds_13 : decode cX7_worlds 13 = .ok (.ireturn, 1) := dz_172 (k_X7_worlds 0 13 rfl)
def B_X7_wrong : List (List Nat) := [[42, 180, 0, 49, 182, 0, 209, 42, 180, 0, 49, 182, 0, 215, 172]]
theorem k_X7_wrong (j i : Nat) {b : Nat} (h : (B_X7_wrong[j]?.bind fun c => c[i]?) = some b) : s_by cX7_wrong (64 * j + i) b := s_byC (L := B_X7_wrong) (by decide +kernel) (by decide +kernel) j i h
theorem dX7_wrong_0 : decode cX7_wrong 0 = .ok (.aload_n 0, 1) := dz_42 (k_X7_wrong 0 0 rfl)
theorem dX7_wrong_1 : decode cX7_wrong 1 = .ok (.getfield 49, 3) := dz_180 (k_X7_wrong 0 1 rfl) (k_X7_wrong 0 2 rfl) (k_X7_wrong 0 3 rfl) rfl
theorem dX7_wrong_4 : decode cX7_wrong 4 = .ok (.invokevirtual 209, 3) := dz_182 (k_X7_wrong 0 4 rfl) (k_X7_wrong 0 5 rfl) (k_X7_wrong 0 6 rfl) rfl
theorem dX7_wrong_7 : decode cX7_wrong 7 = .ok (.aload_n 0, 1) := dz_42 (k_X7_wrong 0 7 rfl)
theorem dX7_wrong_8 : decode cX7_wrong 8 = .ok (.getfield 49, 3) := dz_180 (k_X7_wrong 0 8 rfl) (k_X7_wrong 0 9 rfl) (k_X7_wrong 0 10 rfl) rfl
theorem dX7_wrong_11 : decode cX7_wrong 11 = .ok (.invokevirtual 215, 3) := dz_182 (k_X7_wrong 0 11 rfl) (k_X7_wrong 0 12 rfl) (k_X7_wrong 0 13 rfl) rfl
theorem dX7_wrong_14 : decode cX7_wrong 14 = .ok (.ireturn, 1) := dz_172 (k_X7_wrong 0 14 rfl)
def B_X8_adds : List (List Nat) := [[7, 42, 180, 1, 101, 104, 54, 5, 42, 180, 0, 92, 21, 5, 27, 79, 42, 180, 0, 92, 21, 5, 4, 96, 28, 79, 42, 180, 0, 92, 21, 5, 5, 96, 29, 79, 42, 180, 0, 92, 21, 5, 6, 96, 21, 4, 79, 42, 89, 180, 1, 101, 4, 96, 181, 1, 101, 177]]
theorem k_X8_adds (j i : Nat) {b : Nat} (h : (B_X8_adds[j]?.bind fun c => c[i]?) = some b) : s_by cX8_adds (64 * j + i) b := s_byC (L := B_X8_adds) (by decide +kernel) (by decide +kernel) j i h
theorem dX8_adds_0 : decode cX8_adds 0 = .ok (.iconst 4, 1) := dz_7 (k_X8_adds 0 0 rfl)
theorem dX8_adds_1 : decode cX8_adds 1 = .ok (.aload_n 0, 1) := dz_42 (k_X8_adds 0 1 rfl)
theorem dX8_adds_2 : decode cX8_adds 2 = .ok (.getfield 357, 3) := dz_180 (k_X8_adds 0 2 rfl) (k_X8_adds 0 3 rfl) (k_X8_adds 0 4 rfl) rfl
theorem dX8_adds_5 : decode cX8_adds 5 = .ok (.imul, 1) := dz_104 (k_X8_adds 0 5 rfl)
theorem dX8_adds_6 : decode cX8_adds 6 = .ok (.istore 5, 2) := dz_54 (k_X8_adds 0 6 rfl) (k_X8_adds 0 7 rfl)
theorem dX8_adds_8 : decode cX8_adds 8 = .ok (.aload_n 0, 1) := dz_42 (k_X8_adds 0 8 rfl)
theorem dX8_adds_9 : decode cX8_adds 9 = .ok (.getfield 92, 3) := dz_180 (k_X8_adds 0 9 rfl) (k_X8_adds 0 10 rfl) (k_X8_adds 0 11 rfl) rfl
theorem dX8_adds_12 : decode cX8_adds 12 = .ok (.iload 5, 2) := dz_21 (k_X8_adds 0 12 rfl) (k_X8_adds 0 13 rfl)
theorem dX8_adds_14 : decode cX8_adds 14 = .ok (.iload_n 1, 1) := dz_27 (k_X8_adds 0 14 rfl)
theorem dX8_adds_15 : decode cX8_adds 15 = .ok (.iastore, 1) := dz_79 (k_X8_adds 0 15 rfl)
theorem dX8_adds_16 : decode cX8_adds 16 = .ok (.aload_n 0, 1) := dz_42 (k_X8_adds 0 16 rfl)
theorem dX8_adds_17 : decode cX8_adds 17 = .ok (.getfield 92, 3) := dz_180 (k_X8_adds 0 17 rfl) (k_X8_adds 0 18 rfl) (k_X8_adds 0 19 rfl) rfl
theorem dX8_adds_20 : decode cX8_adds 20 = .ok (.iload 5, 2) := dz_21 (k_X8_adds 0 20 rfl) (k_X8_adds 0 21 rfl)
theorem dX8_adds_22 : decode cX8_adds 22 = .ok (.iconst 1, 1) := dz_4 (k_X8_adds 0 22 rfl)
theorem dX8_adds_23 : decode cX8_adds 23 = .ok (.iadd, 1) := dz_96 (k_X8_adds 0 23 rfl)
theorem dX8_adds_24 : decode cX8_adds 24 = .ok (.iload_n 2, 1) := dz_28 (k_X8_adds 0 24 rfl)
theorem dX8_adds_25 : decode cX8_adds 25 = .ok (.iastore, 1) := dz_79 (k_X8_adds 0 25 rfl)
theorem dX8_adds_26 : decode cX8_adds 26 = .ok (.aload_n 0, 1) := dz_42 (k_X8_adds 0 26 rfl)
theorem dX8_adds_27 : decode cX8_adds 27 = .ok (.getfield 92, 3) := dz_180 (k_X8_adds 0 27 rfl) (k_X8_adds 0 28 rfl) (k_X8_adds 0 29 rfl) rfl
theorem dX8_adds_30 : decode cX8_adds 30 = .ok (.iload 5, 2) := dz_21 (k_X8_adds 0 30 rfl) (k_X8_adds 0 31 rfl)
theorem dX8_adds_32 : decode cX8_adds 32 = .ok (.iconst 2, 1) := dz_5 (k_X8_adds 0 32 rfl)
theorem dX8_adds_33 : decode cX8_adds 33 = .ok (.iadd, 1) := dz_96 (k_X8_adds 0 33 rfl)
theorem dX8_adds_34 : decode cX8_adds 34 = .ok (.iload_n 3, 1) := dz_29 (k_X8_adds 0 34 rfl)
theorem dX8_adds_35 : decode cX8_adds 35 = .ok (.iastore, 1) := dz_79 (k_X8_adds 0 35 rfl)
theorem dX8_adds_36 : decode cX8_adds 36 = .ok (.aload_n 0, 1) := dz_42 (k_X8_adds 0 36 rfl)
theorem dX8_adds_37 : decode cX8_adds 37 = .ok (.getfield 92, 3) := dz_180 (k_X8_adds 0 37 rfl) (k_X8_adds 0 38 rfl) (k_X8_adds 0 39 rfl) rfl
theorem dX8_adds_40 : decode cX8_adds 40 = .ok (.iload 5, 2) := dz_21 (k_X8_adds 0 40 rfl) (k_X8_adds 0 41 rfl)
theorem dX8_adds_42 : decode cX8_adds 42 = .ok (.iconst 3, 1) := dz_6 (k_X8_adds 0 42 rfl)
theorem dX8_adds_43 : decode cX8_adds 43 = .ok (.iadd, 1) := dz_96 (k_X8_adds 0 43 rfl)
theorem dX8_adds_44 : decode cX8_adds 44 = .ok (.iload 4, 2) := dz_21 (k_X8_adds 0 44 rfl) (k_X8_adds 0 45 rfl)
theorem dX8_adds_46 : decode cX8_adds 46 = .ok (.iastore, 1) := dz_79 (k_X8_adds 0 46 rfl)
theorem dX8_adds_47 : decode cX8_adds 47 = .ok (.aload_n 0, 1) := dz_42 (k_X8_adds 0 47 rfl)
theorem dX8_adds_48 : decode cX8_adds 48 = .ok (.dup, 1) := dz_89 (k_X8_adds 0 48 rfl)
theorem dX8_adds_49 : decode cX8_adds 49 = .ok (.getfield 357, 3) := dz_180 (k_X8_adds 0 49 rfl) (k_X8_adds 0 50 rfl) (k_X8_adds 0 51 rfl) rfl
theorem dX8_adds_52 : decode cX8_adds 52 = .ok (.iconst 1, 1) := dz_4 (k_X8_adds 0 52 rfl)
theorem dX8_adds_53 : decode cX8_adds 53 = .ok (.iadd, 1) := dz_96 (k_X8_adds 0 53 rfl)
theorem dX8_adds_54 : decode cX8_adds 54 = .ok (.putfield 357, 3) := dz_181 (k_X8_adds 0 54 rfl) (k_X8_adds 0 55 rfl) (k_X8_adds 0 56 rfl) rfl
theorem dX8_adds_57 : decode cX8_adds 57 = .ok (.return_, 1) := dz_177 (k_X8_adds 0 57 rfl)
def B_X8_agree : List (List Nat) := [[42, 3, 181, 0, 3, 42, 27, 184, 0, 249, 154, 0, 10, 28, 184, 0, 249, 153, 0, 7, 4, 167, 0, 4, 3, 4, 182, 0, 224, 153, 0, 7, 3, 167, 0, 19, 42, 42, 27, 182, 0, 252, 42, 28, 182, 0, 252, 128, 2, 182, 1, 69, 172]]
theorem k_X8_agree (j i : Nat) {b : Nat} (h : (B_X8_agree[j]?.bind fun c => c[i]?) = some b) : s_by cX8_agree (64 * j + i) b := s_byC (L := B_X8_agree) (by decide +kernel) (by decide +kernel) j i h
theorem dX8_agree_0 : decode cX8_agree 0 = .ok (.aload_n 0, 1) := dz_42 (k_X8_agree 0 0 rfl)
theorem dX8_agree_1 : decode cX8_agree 1 = .ok (.iconst 0, 1) := dz_3 (k_X8_agree 0 1 rfl)
theorem dX8_agree_2 : decode cX8_agree 2 = .ok (.putfield 3, 3) := dz_181 (k_X8_agree 0 2 rfl) (k_X8_agree 0 3 rfl) (k_X8_agree 0 4 rfl) rfl
theorem dX8_agree_5 : decode cX8_agree 5 = .ok (.aload_n 0, 1) := dz_42 (k_X8_agree 0 5 rfl)
theorem dX8_agree_6 : decode cX8_agree 6 = .ok (.iload_n 1, 1) := dz_27 (k_X8_agree 0 6 rfl)
theorem dX8_agree_7 : decode cX8_agree 7 = .ok (.invokestatic 249, 3) := dz_184 (k_X8_agree 0 7 rfl) (k_X8_agree 0 8 rfl) (k_X8_agree 0 9 rfl) rfl
theorem dX8_agree_10 : decode cX8_agree 10 = .ok (.ifCond .ne 10, 3) := dz_154 (k_X8_agree 0 10 rfl) (k_X8_agree 0 11 rfl) (k_X8_agree 0 12 rfl) rfl
theorem dX8_agree_13 : decode cX8_agree 13 = .ok (.iload_n 2, 1) := dz_28 (k_X8_agree 0 13 rfl)
theorem dX8_agree_14 : decode cX8_agree 14 = .ok (.invokestatic 249, 3) := dz_184 (k_X8_agree 0 14 rfl) (k_X8_agree 0 15 rfl) (k_X8_agree 0 16 rfl) rfl
theorem dX8_agree_17 : decode cX8_agree 17 = .ok (.ifCond .eq 7, 3) := dz_153 (k_X8_agree 0 17 rfl) (k_X8_agree 0 18 rfl) (k_X8_agree 0 19 rfl) rfl
theorem dX8_agree_20 : decode cX8_agree 20 = .ok (.iconst 1, 1) := dz_4 (k_X8_agree 0 20 rfl)
theorem dX8_agree_21 : decode cX8_agree 21 = .ok (.goto 4, 3) := dz_167 (k_X8_agree 0 21 rfl) (k_X8_agree 0 22 rfl) (k_X8_agree 0 23 rfl) rfl
theorem dX8_agree_24 : decode cX8_agree 24 = .ok (.iconst 0, 1) := dz_3 (k_X8_agree 0 24 rfl)
theorem dX8_agree_25 : decode cX8_agree 25 = .ok (.iconst 1, 1) := dz_4 (k_X8_agree 0 25 rfl)
theorem dX8_agree_26 : decode cX8_agree 26 = .ok (.invokevirtual 224, 3) := dz_182 (k_X8_agree 0 26 rfl) (k_X8_agree 0 27 rfl) (k_X8_agree 0 28 rfl) rfl
theorem dX8_agree_29 : decode cX8_agree 29 = .ok (.ifCond .eq 7, 3) := dz_153 (k_X8_agree 0 29 rfl) (k_X8_agree 0 30 rfl) (k_X8_agree 0 31 rfl) rfl
theorem dX8_agree_32 : decode cX8_agree 32 = .ok (.iconst 0, 1) := dz_3 (k_X8_agree 0 32 rfl)
theorem dX8_agree_33 : decode cX8_agree 33 = .ok (.goto 19, 3) := dz_167 (k_X8_agree 0 33 rfl) (k_X8_agree 0 34 rfl) (k_X8_agree 0 35 rfl) rfl
theorem dX8_agree_36 : decode cX8_agree 36 = .ok (.aload_n 0, 1) := dz_42 (k_X8_agree 0 36 rfl)
theorem dX8_agree_37 : decode cX8_agree 37 = .ok (.aload_n 0, 1) := dz_42 (k_X8_agree 0 37 rfl)
theorem dX8_agree_38 : decode cX8_agree 38 = .ok (.iload_n 1, 1) := dz_27 (k_X8_agree 0 38 rfl)
theorem dX8_agree_39 : decode cX8_agree 39 = .ok (.invokevirtual 252, 3) := dz_182 (k_X8_agree 0 39 rfl) (k_X8_agree 0 40 rfl) (k_X8_agree 0 41 rfl) rfl
theorem dX8_agree_42 : decode cX8_agree 42 = .ok (.aload_n 0, 1) := dz_42 (k_X8_agree 0 42 rfl)
theorem dX8_agree_43 : decode cX8_agree 43 = .ok (.iload_n 2, 1) := dz_28 (k_X8_agree 0 43 rfl)
theorem dX8_agree_44 : decode cX8_agree 44 = .ok (.invokevirtual 252, 3) := dz_182 (k_X8_agree 0 44 rfl) (k_X8_agree 0 45 rfl) (k_X8_agree 0 46 rfl) rfl
theorem dX8_agree_47 : decode cX8_agree 47 = .ok (.ior, 1) := dz_128 (k_X8_agree 0 47 rfl)
theorem dX8_agree_48 : decode cX8_agree 48 = .ok (.iconst (-1), 1) := dz_2 (k_X8_agree 0 48 rfl)
theorem dX8_agree_49 : decode cX8_agree 49 = .ok (.invokevirtual 325, 3) := dz_182 (k_X8_agree 0 49 rfl) (k_X8_agree 0 50 rfl) (k_X8_agree 0 51 rfl) rfl
theorem dX8_agree_52 : decode cX8_agree 52 = .ok (.ireturn, 1) := dz_172 (k_X8_agree 0 52 rfl)
def B_X8_alike : List (List Nat) := [[42, 3, 181, 0, 3, 42, 42, 27, 182, 0, 231, 4, 182, 0, 224, 153, 0, 5, 3, 172, 3, 61, 3, 62, 29, 42, 182, 0, 103, 162, 0, 74, 4, 54, 4, 3, 54, 5, 21, 5, 42, 182, 0, 237, 162, 0, 38, 21, 4, 153, 0, 33, 42, 29, 21, 5, 182, 0, 243, 42, 27, 21, 5, 182], [0, 243, 160, 0, 7, 4, 167, 0, 4, 3, 54, 4, 132, 5, 1, 167, 255, 215, 28, 21, 4, 153, 0, 9, 4, 29, 120, 167, 0, 4, 3, 128, 61, 132, 3, 1, 167, 255, 180, 28, 172]]
theorem k_X8_alike (j i : Nat) {b : Nat} (h : (B_X8_alike[j]?.bind fun c => c[i]?) = some b) : s_by cX8_alike (64 * j + i) b := s_byC (L := B_X8_alike) (by decide +kernel) (by decide +kernel) j i h
theorem dX8_alike_0 : decode cX8_alike 0 = .ok (.aload_n 0, 1) := dz_42 (k_X8_alike 0 0 rfl)
theorem dX8_alike_1 : decode cX8_alike 1 = .ok (.iconst 0, 1) := dz_3 (k_X8_alike 0 1 rfl)
theorem dX8_alike_2 : decode cX8_alike 2 = .ok (.putfield 3, 3) := dz_181 (k_X8_alike 0 2 rfl) (k_X8_alike 0 3 rfl) (k_X8_alike 0 4 rfl) rfl
theorem dX8_alike_5 : decode cX8_alike 5 = .ok (.aload_n 0, 1) := dz_42 (k_X8_alike 0 5 rfl)
theorem dX8_alike_6 : decode cX8_alike 6 = .ok (.aload_n 0, 1) := dz_42 (k_X8_alike 0 6 rfl)
theorem dX8_alike_7 : decode cX8_alike 7 = .ok (.iload_n 1, 1) := dz_27 (k_X8_alike 0 7 rfl)
theorem dX8_alike_8 : decode cX8_alike 8 = .ok (.invokevirtual 231, 3) := dz_182 (k_X8_alike 0 8 rfl) (k_X8_alike 0 9 rfl) (k_X8_alike 0 10 rfl) rfl
theorem dX8_alike_11 : decode cX8_alike 11 = .ok (.iconst 1, 1) := dz_4 (k_X8_alike 0 11 rfl)
theorem dX8_alike_12 : decode cX8_alike 12 = .ok (.invokevirtual 224, 3) := dz_182 (k_X8_alike 0 12 rfl) (k_X8_alike 0 13 rfl) (k_X8_alike 0 14 rfl) rfl
theorem dX8_alike_15 : decode cX8_alike 15 = .ok (.ifCond .eq 5, 3) := dz_153 (k_X8_alike 0 15 rfl) (k_X8_alike 0 16 rfl) (k_X8_alike 0 17 rfl) rfl
theorem dX8_alike_18 : decode cX8_alike 18 = .ok (.iconst 0, 1) := dz_3 (k_X8_alike 0 18 rfl)
theorem dX8_alike_19 : decode cX8_alike 19 = .ok (.ireturn, 1) := dz_172 (k_X8_alike 0 19 rfl)
theorem dX8_alike_20 : decode cX8_alike 20 = .ok (.iconst 0, 1) := dz_3 (k_X8_alike 0 20 rfl)
theorem dX8_alike_21 : decode cX8_alike 21 = .ok (.istore_n 2, 1) := dz_61 (k_X8_alike 0 21 rfl)
theorem dX8_alike_22 : decode cX8_alike 22 = .ok (.iconst 0, 1) := dz_3 (k_X8_alike 0 22 rfl)
theorem dX8_alike_23 : decode cX8_alike 23 = .ok (.istore_n 3, 1) := dz_62 (k_X8_alike 0 23 rfl)
theorem dX8_alike_24 : decode cX8_alike 24 = .ok (.iload_n 3, 1) := dz_29 (k_X8_alike 0 24 rfl)
theorem dX8_alike_25 : decode cX8_alike 25 = .ok (.aload_n 0, 1) := dz_42 (k_X8_alike 0 25 rfl)
theorem dX8_alike_26 : decode cX8_alike 26 = .ok (.invokevirtual 103, 3) := dz_182 (k_X8_alike 0 26 rfl) (k_X8_alike 0 27 rfl) (k_X8_alike 0 28 rfl) rfl
theorem dX8_alike_29 : decode cX8_alike 29 = .ok (.if_icmp .ge 74, 3) := dz_162 (k_X8_alike 0 29 rfl) (k_X8_alike 0 30 rfl) (k_X8_alike 0 31 rfl) rfl
theorem dX8_alike_32 : decode cX8_alike 32 = .ok (.iconst 1, 1) := dz_4 (k_X8_alike 0 32 rfl)
theorem dX8_alike_33 : decode cX8_alike 33 = .ok (.istore 4, 2) := dz_54 (k_X8_alike 0 33 rfl) (k_X8_alike 0 34 rfl)
theorem dX8_alike_35 : decode cX8_alike 35 = .ok (.iconst 0, 1) := dz_3 (k_X8_alike 0 35 rfl)
theorem dX8_alike_36 : decode cX8_alike 36 = .ok (.istore 5, 2) := dz_54 (k_X8_alike 0 36 rfl) (k_X8_alike 0 37 rfl)
theorem dX8_alike_38 : decode cX8_alike 38 = .ok (.iload 5, 2) := dz_21 (k_X8_alike 0 38 rfl) (k_X8_alike 0 39 rfl)
theorem dX8_alike_40 : decode cX8_alike 40 = .ok (.aload_n 0, 1) := dz_42 (k_X8_alike 0 40 rfl)
theorem dX8_alike_41 : decode cX8_alike 41 = .ok (.invokevirtual 237, 3) := dz_182 (k_X8_alike 0 41 rfl) (k_X8_alike 0 42 rfl) (k_X8_alike 0 43 rfl) rfl
theorem dX8_alike_44 : decode cX8_alike 44 = .ok (.if_icmp .ge 38, 3) := dz_162 (k_X8_alike 0 44 rfl) (k_X8_alike 0 45 rfl) (k_X8_alike 0 46 rfl) rfl
theorem dX8_alike_47 : decode cX8_alike 47 = .ok (.iload 4, 2) := dz_21 (k_X8_alike 0 47 rfl) (k_X8_alike 0 48 rfl)
theorem dX8_alike_49 : decode cX8_alike 49 = .ok (.ifCond .eq 33, 3) := dz_153 (k_X8_alike 0 49 rfl) (k_X8_alike 0 50 rfl) (k_X8_alike 0 51 rfl) rfl
theorem dX8_alike_52 : decode cX8_alike 52 = .ok (.aload_n 0, 1) := dz_42 (k_X8_alike 0 52 rfl)
theorem dX8_alike_53 : decode cX8_alike 53 = .ok (.iload_n 3, 1) := dz_29 (k_X8_alike 0 53 rfl)
theorem dX8_alike_54 : decode cX8_alike 54 = .ok (.iload 5, 2) := dz_21 (k_X8_alike 0 54 rfl) (k_X8_alike 0 55 rfl)
theorem dX8_alike_56 : decode cX8_alike 56 = .ok (.invokevirtual 243, 3) := dz_182 (k_X8_alike 0 56 rfl) (k_X8_alike 0 57 rfl) (k_X8_alike 0 58 rfl) rfl
theorem dX8_alike_59 : decode cX8_alike 59 = .ok (.aload_n 0, 1) := dz_42 (k_X8_alike 0 59 rfl)
theorem dX8_alike_60 : decode cX8_alike 60 = .ok (.iload_n 1, 1) := dz_27 (k_X8_alike 0 60 rfl)
theorem dX8_alike_61 : decode cX8_alike 61 = .ok (.iload 5, 2) := dz_21 (k_X8_alike 0 61 rfl) (k_X8_alike 0 62 rfl)
theorem dX8_alike_63 : decode cX8_alike 63 = .ok (.invokevirtual 243, 3) := dz_182 (k_X8_alike 0 63 rfl) (k_X8_alike 1 0 rfl) (k_X8_alike 1 1 rfl) rfl
theorem dX8_alike_66 : decode cX8_alike 66 = .ok (.if_icmp .ne 7, 3) := dz_160 (k_X8_alike 1 2 rfl) (k_X8_alike 1 3 rfl) (k_X8_alike 1 4 rfl) rfl
theorem dX8_alike_69 : decode cX8_alike 69 = .ok (.iconst 1, 1) := dz_4 (k_X8_alike 1 5 rfl)
theorem dX8_alike_70 : decode cX8_alike 70 = .ok (.goto 4, 3) := dz_167 (k_X8_alike 1 6 rfl) (k_X8_alike 1 7 rfl) (k_X8_alike 1 8 rfl) rfl
theorem dX8_alike_73 : decode cX8_alike 73 = .ok (.iconst 0, 1) := dz_3 (k_X8_alike 1 9 rfl)
theorem dX8_alike_74 : decode cX8_alike 74 = .ok (.istore 4, 2) := dz_54 (k_X8_alike 1 10 rfl) (k_X8_alike 1 11 rfl)
theorem dX8_alike_76 : decode cX8_alike 76 = .ok (.iinc 5 1, 3) := dz_132 (k_X8_alike 1 12 rfl) (k_X8_alike 1 13 rfl) (k_X8_alike 1 14 rfl) rfl
theorem dX8_alike_79 : decode cX8_alike 79 = .ok (.goto (-41), 3) := dz_167 (k_X8_alike 1 15 rfl) (k_X8_alike 1 16 rfl) (k_X8_alike 1 17 rfl) rfl
theorem dX8_alike_82 : decode cX8_alike 82 = .ok (.iload_n 2, 1) := dz_28 (k_X8_alike 1 18 rfl)
theorem dX8_alike_83 : decode cX8_alike 83 = .ok (.iload 4, 2) := dz_21 (k_X8_alike 1 19 rfl) (k_X8_alike 1 20 rfl)
theorem dX8_alike_85 : decode cX8_alike 85 = .ok (.ifCond .eq 9, 3) := dz_153 (k_X8_alike 1 21 rfl) (k_X8_alike 1 22 rfl) (k_X8_alike 1 23 rfl) rfl
theorem dX8_alike_88 : decode cX8_alike 88 = .ok (.iconst 1, 1) := dz_4 (k_X8_alike 1 24 rfl)
theorem dX8_alike_89 : decode cX8_alike 89 = .ok (.iload_n 3, 1) := dz_29 (k_X8_alike 1 25 rfl)
theorem dX8_alike_90 : decode cX8_alike 90 = .ok (.ishl, 1) := dz_120 (k_X8_alike 1 26 rfl)
theorem dX8_alike_91 : decode cX8_alike 91 = .ok (.goto 4, 3) := dz_167 (k_X8_alike 1 27 rfl) (k_X8_alike 1 28 rfl) (k_X8_alike 1 29 rfl) rfl
theorem dX8_alike_94 : decode cX8_alike 94 = .ok (.iconst 0, 1) := dz_3 (k_X8_alike 1 30 rfl)
theorem dX8_alike_95 : decode cX8_alike 95 = .ok (.ior, 1) := dz_128 (k_X8_alike 1 31 rfl)
theorem dX8_alike_96 : decode cX8_alike 96 = .ok (.istore_n 2, 1) := dz_61 (k_X8_alike 1 32 rfl)
theorem dX8_alike_97 : decode cX8_alike 97 = .ok (.iinc 3 1, 3) := dz_132 (k_X8_alike 1 33 rfl) (k_X8_alike 1 34 rfl) (k_X8_alike 1 35 rfl) rfl
theorem dX8_alike_100 : decode cX8_alike 100 = .ok (.goto (-76), 3) := dz_167 (k_X8_alike 1 36 rfl) (k_X8_alike 1 37 rfl) (k_X8_alike 1 38 rfl) rfl
theorem dX8_alike_103 : decode cX8_alike 103 = .ok (.iload_n 2, 1) := dz_28 (k_X8_alike 1 39 rfl)
theorem dX8_alike_104 : decode cX8_alike 104 = .ok (.ireturn, 1) := dz_172 (k_X8_alike 1 40 rfl)
def B_X8_asked : List (List Nat) := [[27, 5, 162, 0, 7, 3, 167, 0, 54, 27, 5, 159, 0, 21, 27, 16, 7, 159, 0, 15, 27, 16, 10, 159, 0, 9, 27, 16, 14, 160, 0, 7, 5, 167, 0, 27, 27, 16, 9, 160, 0, 7, 6, 167, 0, 17, 27, 16, 12, 160, 0, 10, 42, 182, 0, 138, 167, 0, 4, 4, 172]]
theorem k_X8_asked (j i : Nat) {b : Nat} (h : (B_X8_asked[j]?.bind fun c => c[i]?) = some b) : s_by cX8_asked (64 * j + i) b := s_byC (L := B_X8_asked) (by decide +kernel) (by decide +kernel) j i h
theorem dX8_asked_0 : decode cX8_asked 0 = .ok (.iload_n 1, 1) := dz_27 (k_X8_asked 0 0 rfl)
theorem dX8_asked_1 : decode cX8_asked 1 = .ok (.iconst 2, 1) := dz_5 (k_X8_asked 0 1 rfl)
theorem dX8_asked_2 : decode cX8_asked 2 = .ok (.if_icmp .ge 7, 3) := dz_162 (k_X8_asked 0 2 rfl) (k_X8_asked 0 3 rfl) (k_X8_asked 0 4 rfl) rfl
theorem dX8_asked_5 : decode cX8_asked 5 = .ok (.iconst 0, 1) := dz_3 (k_X8_asked 0 5 rfl)
theorem dX8_asked_6 : decode cX8_asked 6 = .ok (.goto 54, 3) := dz_167 (k_X8_asked 0 6 rfl) (k_X8_asked 0 7 rfl) (k_X8_asked 0 8 rfl) rfl
theorem dX8_asked_9 : decode cX8_asked 9 = .ok (.iload_n 1, 1) := dz_27 (k_X8_asked 0 9 rfl)
theorem dX8_asked_10 : decode cX8_asked 10 = .ok (.iconst 2, 1) := dz_5 (k_X8_asked 0 10 rfl)
theorem dX8_asked_11 : decode cX8_asked 11 = .ok (.if_icmp .eq 21, 3) := dz_159 (k_X8_asked 0 11 rfl) (k_X8_asked 0 12 rfl) (k_X8_asked 0 13 rfl) rfl
theorem dX8_asked_14 : decode cX8_asked 14 = .ok (.iload_n 1, 1) := dz_27 (k_X8_asked 0 14 rfl)
theorem dX8_asked_15 : decode cX8_asked 15 = .ok (.bipush 7, 2) := dz_16 (k_X8_asked 0 15 rfl) (k_X8_asked 0 16 rfl) rfl
theorem dX8_asked_17 : decode cX8_asked 17 = .ok (.if_icmp .eq 15, 3) := dz_159 (k_X8_asked 0 17 rfl) (k_X8_asked 0 18 rfl) (k_X8_asked 0 19 rfl) rfl
theorem dX8_asked_20 : decode cX8_asked 20 = .ok (.iload_n 1, 1) := dz_27 (k_X8_asked 0 20 rfl)
theorem dX8_asked_21 : decode cX8_asked 21 = .ok (.bipush 10, 2) := dz_16 (k_X8_asked 0 21 rfl) (k_X8_asked 0 22 rfl) rfl
theorem dX8_asked_23 : decode cX8_asked 23 = .ok (.if_icmp .eq 9, 3) := dz_159 (k_X8_asked 0 23 rfl) (k_X8_asked 0 24 rfl) (k_X8_asked 0 25 rfl) rfl
theorem dX8_asked_26 : decode cX8_asked 26 = .ok (.iload_n 1, 1) := dz_27 (k_X8_asked 0 26 rfl)
theorem dX8_asked_27 : decode cX8_asked 27 = .ok (.bipush 14, 2) := dz_16 (k_X8_asked 0 27 rfl) (k_X8_asked 0 28 rfl) rfl
theorem dX8_asked_29 : decode cX8_asked 29 = .ok (.if_icmp .ne 7, 3) := dz_160 (k_X8_asked 0 29 rfl) (k_X8_asked 0 30 rfl) (k_X8_asked 0 31 rfl) rfl
theorem dX8_asked_32 : decode cX8_asked 32 = .ok (.iconst 2, 1) := dz_5 (k_X8_asked 0 32 rfl)
theorem dX8_asked_33 : decode cX8_asked 33 = .ok (.goto 27, 3) := dz_167 (k_X8_asked 0 33 rfl) (k_X8_asked 0 34 rfl) (k_X8_asked 0 35 rfl) rfl
theorem dX8_asked_36 : decode cX8_asked 36 = .ok (.iload_n 1, 1) := dz_27 (k_X8_asked 0 36 rfl)
theorem dX8_asked_37 : decode cX8_asked 37 = .ok (.bipush 9, 2) := dz_16 (k_X8_asked 0 37 rfl) (k_X8_asked 0 38 rfl) rfl
theorem dX8_asked_39 : decode cX8_asked 39 = .ok (.if_icmp .ne 7, 3) := dz_160 (k_X8_asked 0 39 rfl) (k_X8_asked 0 40 rfl) (k_X8_asked 0 41 rfl) rfl
theorem dX8_asked_42 : decode cX8_asked 42 = .ok (.iconst 3, 1) := dz_6 (k_X8_asked 0 42 rfl)
theorem dX8_asked_43 : decode cX8_asked 43 = .ok (.goto 17, 3) := dz_167 (k_X8_asked 0 43 rfl) (k_X8_asked 0 44 rfl) (k_X8_asked 0 45 rfl) rfl
theorem dX8_asked_46 : decode cX8_asked 46 = .ok (.iload_n 1, 1) := dz_27 (k_X8_asked 0 46 rfl)
theorem dX8_asked_47 : decode cX8_asked 47 = .ok (.bipush 12, 2) := dz_16 (k_X8_asked 0 47 rfl) (k_X8_asked 0 48 rfl) rfl
theorem dX8_asked_49 : decode cX8_asked 49 = .ok (.if_icmp .ne 10, 3) := dz_160 (k_X8_asked 0 49 rfl) (k_X8_asked 0 50 rfl) (k_X8_asked 0 51 rfl) rfl
theorem dX8_asked_52 : decode cX8_asked 52 = .ok (.aload_n 0, 1) := dz_42 (k_X8_asked 0 52 rfl)
theorem dX8_asked_53 : decode cX8_asked 53 = .ok (.invokevirtual 138, 3) := dz_182 (k_X8_asked 0 53 rfl) (k_X8_asked 0 54 rfl) (k_X8_asked 0 55 rfl) rfl
theorem dX8_asked_56 : decode cX8_asked 56 = .ok (.goto 4, 3) := dz_167 (k_X8_asked 0 56 rfl) (k_X8_asked 0 57 rfl) (k_X8_asked 0 58 rfl) rfl
theorem dX8_asked_59 : decode cX8_asked 59 = .ok (.iconst 1, 1) := dz_4 (k_X8_asked 0 59 rfl)
theorem dX8_asked_60 : decode cX8_asked 60 = .ok (.ireturn, 1) := dz_172 (k_X8_asked 0 60 rfl)
def B_X8_assumedAt : List (List Nat) := [[3, 61, 28, 42, 180, 1, 122, 162, 0, 21, 42, 180, 0, 86, 28, 46, 27, 160, 0, 5, 28, 172, 132, 2, 1, 167, 255, 233, 2, 172]]
theorem k_X8_assumedAt (j i : Nat) {b : Nat} (h : (B_X8_assumedAt[j]?.bind fun c => c[i]?) = some b) : s_by cX8_assumedAt (64 * j + i) b := s_byC (L := B_X8_assumedAt) (by decide +kernel) (by decide +kernel) j i h
theorem dX8_assumedAt_0 : decode cX8_assumedAt 0 = .ok (.iconst 0, 1) := dz_3 (k_X8_assumedAt 0 0 rfl)
theorem dX8_assumedAt_1 : decode cX8_assumedAt 1 = .ok (.istore_n 2, 1) := dz_61 (k_X8_assumedAt 0 1 rfl)
theorem dX8_assumedAt_2 : decode cX8_assumedAt 2 = .ok (.iload_n 2, 1) := dz_28 (k_X8_assumedAt 0 2 rfl)
theorem dX8_assumedAt_3 : decode cX8_assumedAt 3 = .ok (.aload_n 0, 1) := dz_42 (k_X8_assumedAt 0 3 rfl)
theorem dX8_assumedAt_4 : decode cX8_assumedAt 4 = .ok (.getfield 378, 3) := dz_180 (k_X8_assumedAt 0 4 rfl) (k_X8_assumedAt 0 5 rfl) (k_X8_assumedAt 0 6 rfl) rfl
theorem dX8_assumedAt_7 : decode cX8_assumedAt 7 = .ok (.if_icmp .ge 21, 3) := dz_162 (k_X8_assumedAt 0 7 rfl) (k_X8_assumedAt 0 8 rfl) (k_X8_assumedAt 0 9 rfl) rfl
theorem dX8_assumedAt_10 : decode cX8_assumedAt 10 = .ok (.aload_n 0, 1) := dz_42 (k_X8_assumedAt 0 10 rfl)
theorem dX8_assumedAt_11 : decode cX8_assumedAt 11 = .ok (.getfield 86, 3) := dz_180 (k_X8_assumedAt 0 11 rfl) (k_X8_assumedAt 0 12 rfl) (k_X8_assumedAt 0 13 rfl) rfl
theorem dX8_assumedAt_14 : decode cX8_assumedAt 14 = .ok (.iload_n 2, 1) := dz_28 (k_X8_assumedAt 0 14 rfl)
theorem dX8_assumedAt_15 : decode cX8_assumedAt 15 = .ok (.iaload, 1) := dz_46 (k_X8_assumedAt 0 15 rfl)
theorem dX8_assumedAt_16 : decode cX8_assumedAt 16 = .ok (.iload_n 1, 1) := dz_27 (k_X8_assumedAt 0 16 rfl)
theorem dX8_assumedAt_17 : decode cX8_assumedAt 17 = .ok (.if_icmp .ne 5, 3) := dz_160 (k_X8_assumedAt 0 17 rfl) (k_X8_assumedAt 0 18 rfl) (k_X8_assumedAt 0 19 rfl) rfl
theorem dX8_assumedAt_20 : decode cX8_assumedAt 20 = .ok (.iload_n 2, 1) := dz_28 (k_X8_assumedAt 0 20 rfl)
theorem dX8_assumedAt_21 : decode cX8_assumedAt 21 = .ok (.ireturn, 1) := dz_172 (k_X8_assumedAt 0 21 rfl)
theorem dX8_assumedAt_22 : decode cX8_assumedAt 22 = .ok (.iinc 2 1, 3) := dz_132 (k_X8_assumedAt 0 22 rfl) (k_X8_assumedAt 0 23 rfl) (k_X8_assumedAt 0 24 rfl) rfl
theorem dX8_assumedAt_25 : decode cX8_assumedAt 25 = .ok (.goto (-23), 3) := dz_167 (k_X8_assumedAt 0 25 rfl) (k_X8_assumedAt 0 26 rfl) (k_X8_assumedAt 0 27 rfl) rfl
theorem dX8_assumedAt_28 : decode cX8_assumedAt 28 = .ok (.iconst (-1), 1) := dz_2 (k_X8_assumedAt 0 28 rfl)
theorem dX8_assumedAt_29 : decode cX8_assumedAt 29 = .ok (.ireturn, 1) := dz_172 (k_X8_assumedAt 0 29 rfl)
def B_X8_at : List (List Nat) := [[42, 180, 0, 23, 16, 40, 27, 104, 28, 96, 46, 172]]
theorem k_X8_at (j i : Nat) {b : Nat} (h : (B_X8_at[j]?.bind fun c => c[i]?) = some b) : s_by cX8_at (64 * j + i) b := s_byC (L := B_X8_at) (by decide +kernel) (by decide +kernel) j i h
theorem dX8_at_0 : decode cX8_at 0 = .ok (.aload_n 0, 1) := dz_42 (k_X8_at 0 0 rfl)
theorem dX8_at_1 : decode cX8_at 1 = .ok (.getfield 23, 3) := dz_180 (k_X8_at 0 1 rfl) (k_X8_at 0 2 rfl) (k_X8_at 0 3 rfl) rfl
theorem dX8_at_4 : decode cX8_at 4 = .ok (.bipush 40, 2) := dz_16 (k_X8_at 0 4 rfl) (k_X8_at 0 5 rfl) rfl
theorem dX8_at_6 : decode cX8_at 6 = .ok (.iload_n 1, 1) := dz_27 (k_X8_at 0 6 rfl)
theorem dX8_at_7 : decode cX8_at 7 = .ok (.imul, 1) := dz_104 (k_X8_at 0 7 rfl)
theorem dX8_at_8 : decode cX8_at 8 = .ok (.iload_n 2, 1) := dz_28 (k_X8_at 0 8 rfl)
theorem dX8_at_9 : decode cX8_at 9 = .ok (.iadd, 1) := dz_96 (k_X8_at 0 9 rfl)
theorem dX8_at_10 : decode cX8_at 10 = .ok (.iaload, 1) := dz_46 (k_X8_at 0 10 rfl)
theorem dX8_at_11 : decode cX8_at 11 = .ok (.ireturn, 1) := dz_172 (k_X8_at 0 11 rfl)
def B_X8_back : List (List Nat) := [[42, 3, 181, 0, 3, 42, 180, 0, 96, 154, 0, 5, 3, 172, 3, 60, 27, 17, 6, 146, 162, 0, 21, 42, 180, 0, 13, 27, 42, 180, 0, 17, 27, 46, 79, 132, 1, 1, 167, 255, 234, 42, 182, 0, 100, 4, 172]]
theorem k_X8_back (j i : Nat) {b : Nat} (h : (B_X8_back[j]?.bind fun c => c[i]?) = some b) : s_by cX8_back (64 * j + i) b := s_byC (L := B_X8_back) (by decide +kernel) (by decide +kernel) j i h
theorem dX8_back_0 : decode cX8_back 0 = .ok (.aload_n 0, 1) := dz_42 (k_X8_back 0 0 rfl)
theorem dX8_back_1 : decode cX8_back 1 = .ok (.iconst 0, 1) := dz_3 (k_X8_back 0 1 rfl)
theorem dX8_back_2 : decode cX8_back 2 = .ok (.putfield 3, 3) := dz_181 (k_X8_back 0 2 rfl) (k_X8_back 0 3 rfl) (k_X8_back 0 4 rfl) rfl
theorem dX8_back_5 : decode cX8_back 5 = .ok (.aload_n 0, 1) := dz_42 (k_X8_back 0 5 rfl)
theorem dX8_back_6 : decode cX8_back 6 = .ok (.getfield 96, 3) := dz_180 (k_X8_back 0 6 rfl) (k_X8_back 0 7 rfl) (k_X8_back 0 8 rfl) rfl
theorem dX8_back_9 : decode cX8_back 9 = .ok (.ifCond .ne 5, 3) := dz_154 (k_X8_back 0 9 rfl) (k_X8_back 0 10 rfl) (k_X8_back 0 11 rfl) rfl
theorem dX8_back_12 : decode cX8_back 12 = .ok (.iconst 0, 1) := dz_3 (k_X8_back 0 12 rfl)
theorem dX8_back_13 : decode cX8_back 13 = .ok (.ireturn, 1) := dz_172 (k_X8_back 0 13 rfl)
theorem dX8_back_14 : decode cX8_back 14 = .ok (.iconst 0, 1) := dz_3 (k_X8_back 0 14 rfl)
theorem dX8_back_15 : decode cX8_back 15 = .ok (.istore_n 1, 1) := dz_60 (k_X8_back 0 15 rfl)
theorem dX8_back_16 : decode cX8_back 16 = .ok (.iload_n 1, 1) := dz_27 (k_X8_back 0 16 rfl)
theorem dX8_back_17 : decode cX8_back 17 = .ok (.sipush 1682, 3) := dz_17 (k_X8_back 0 17 rfl) (k_X8_back 0 18 rfl) (k_X8_back 0 19 rfl) rfl
theorem dX8_back_20 : decode cX8_back 20 = .ok (.if_icmp .ge 21, 3) := dz_162 (k_X8_back 0 20 rfl) (k_X8_back 0 21 rfl) (k_X8_back 0 22 rfl) rfl
theorem dX8_back_23 : decode cX8_back 23 = .ok (.aload_n 0, 1) := dz_42 (k_X8_back 0 23 rfl)
theorem dX8_back_24 : decode cX8_back 24 = .ok (.getfield 13, 3) := dz_180 (k_X8_back 0 24 rfl) (k_X8_back 0 25 rfl) (k_X8_back 0 26 rfl) rfl
theorem dX8_back_27 : decode cX8_back 27 = .ok (.iload_n 1, 1) := dz_27 (k_X8_back 0 27 rfl)
theorem dX8_back_28 : decode cX8_back 28 = .ok (.aload_n 0, 1) := dz_42 (k_X8_back 0 28 rfl)
theorem dX8_back_29 : decode cX8_back 29 = .ok (.getfield 17, 3) := dz_180 (k_X8_back 0 29 rfl) (k_X8_back 0 30 rfl) (k_X8_back 0 31 rfl) rfl
theorem dX8_back_32 : decode cX8_back 32 = .ok (.iload_n 1, 1) := dz_27 (k_X8_back 0 32 rfl)
theorem dX8_back_33 : decode cX8_back 33 = .ok (.iaload, 1) := dz_46 (k_X8_back 0 33 rfl)
theorem dX8_back_34 : decode cX8_back 34 = .ok (.iastore, 1) := dz_79 (k_X8_back 0 34 rfl)
theorem dX8_back_35 : decode cX8_back 35 = .ok (.iinc 1 1, 3) := dz_132 (k_X8_back 0 35 rfl) (k_X8_back 0 36 rfl) (k_X8_back 0 37 rfl) rfl
theorem dX8_back_38 : decode cX8_back 38 = .ok (.goto (-22), 3) := dz_167 (k_X8_back 0 38 rfl) (k_X8_back 0 39 rfl) (k_X8_back 0 40 rfl) rfl
theorem dX8_back_41 : decode cX8_back 41 = .ok (.aload_n 0, 1) := dz_42 (k_X8_back 0 41 rfl)
theorem dX8_back_42 : decode cX8_back 42 = .ok (.invokevirtual 100, 3) := dz_182 (k_X8_back 0 42 rfl) (k_X8_back 0 43 rfl) (k_X8_back 0 44 rfl) rfl
theorem dX8_back_45 : decode cX8_back 45 = .ok (.iconst 1, 1) := dz_4 (k_X8_back 0 45 rfl)
theorem dX8_back_46 : decode cX8_back 46 = .ok (.ireturn, 1) := dz_172 (k_X8_back 0 46 rfl)
def B_X8_beliefs : List (List Nat) := [[42, 3, 181, 0, 3, 42, 27, 184, 0, 249, 4, 182, 0, 224, 153, 0, 7, 3, 167, 0, 8, 42, 27, 182, 0, 252, 172]]
theorem k_X8_beliefs (j i : Nat) {b : Nat} (h : (B_X8_beliefs[j]?.bind fun c => c[i]?) = some b) : s_by cX8_beliefs (64 * j + i) b := s_byC (L := B_X8_beliefs) (by decide +kernel) (by decide +kernel) j i h
theorem dX8_beliefs_0 : decode cX8_beliefs 0 = .ok (.aload_n 0, 1) := dz_42 (k_X8_beliefs 0 0 rfl)
theorem dX8_beliefs_1 : decode cX8_beliefs 1 = .ok (.iconst 0, 1) := dz_3 (k_X8_beliefs 0 1 rfl)
theorem dX8_beliefs_2 : decode cX8_beliefs 2 = .ok (.putfield 3, 3) := dz_181 (k_X8_beliefs 0 2 rfl) (k_X8_beliefs 0 3 rfl) (k_X8_beliefs 0 4 rfl) rfl
theorem dX8_beliefs_5 : decode cX8_beliefs 5 = .ok (.aload_n 0, 1) := dz_42 (k_X8_beliefs 0 5 rfl)
theorem dX8_beliefs_6 : decode cX8_beliefs 6 = .ok (.iload_n 1, 1) := dz_27 (k_X8_beliefs 0 6 rfl)
theorem dX8_beliefs_7 : decode cX8_beliefs 7 = .ok (.invokestatic 249, 3) := dz_184 (k_X8_beliefs 0 7 rfl) (k_X8_beliefs 0 8 rfl) (k_X8_beliefs 0 9 rfl) rfl
theorem dX8_beliefs_10 : decode cX8_beliefs 10 = .ok (.iconst 1, 1) := dz_4 (k_X8_beliefs 0 10 rfl)
theorem dX8_beliefs_11 : decode cX8_beliefs 11 = .ok (.invokevirtual 224, 3) := dz_182 (k_X8_beliefs 0 11 rfl) (k_X8_beliefs 0 12 rfl) (k_X8_beliefs 0 13 rfl) rfl
theorem dX8_beliefs_14 : decode cX8_beliefs 14 = .ok (.ifCond .eq 7, 3) := dz_153 (k_X8_beliefs 0 14 rfl) (k_X8_beliefs 0 15 rfl) (k_X8_beliefs 0 16 rfl) rfl
theorem dX8_beliefs_17 : decode cX8_beliefs 17 = .ok (.iconst 0, 1) := dz_3 (k_X8_beliefs 0 17 rfl)
theorem dX8_beliefs_18 : decode cX8_beliefs 18 = .ok (.goto 8, 3) := dz_167 (k_X8_beliefs 0 18 rfl) (k_X8_beliefs 0 19 rfl) (k_X8_beliefs 0 20 rfl) rfl
theorem dX8_beliefs_21 : decode cX8_beliefs 21 = .ok (.aload_n 0, 1) := dz_42 (k_X8_beliefs 0 21 rfl)
theorem dX8_beliefs_22 : decode cX8_beliefs 22 = .ok (.iload_n 1, 1) := dz_27 (k_X8_beliefs 0 22 rfl)
theorem dX8_beliefs_23 : decode cX8_beliefs 23 = .ok (.invokevirtual 252, 3) := dz_182 (k_X8_beliefs 0 23 rfl) (k_X8_beliefs 0 24 rfl) (k_X8_beliefs 0 25 rfl) rfl
theorem dX8_beliefs_26 : decode cX8_beliefs 26 = .ok (.ireturn, 1) := dz_172 (k_X8_beliefs 0 26 rfl)
def B_X8_beliefsOf : List (List Nat) := [[42, 180, 0, 13, 16, 58, 27, 96, 46, 172]]
theorem k_X8_beliefsOf (j i : Nat) {b : Nat} (h : (B_X8_beliefsOf[j]?.bind fun c => c[i]?) = some b) : s_by cX8_beliefsOf (64 * j + i) b := s_byC (L := B_X8_beliefsOf) (by decide +kernel) (by decide +kernel) j i h
theorem dX8_beliefsOf_0 : decode cX8_beliefsOf 0 = .ok (.aload_n 0, 1) := dz_42 (k_X8_beliefsOf 0 0 rfl)
theorem dX8_beliefsOf_1 : decode cX8_beliefsOf 1 = .ok (.getfield 13, 3) := dz_180 (k_X8_beliefsOf 0 1 rfl) (k_X8_beliefsOf 0 2 rfl) (k_X8_beliefsOf 0 3 rfl) rfl
theorem dX8_beliefsOf_4 : decode cX8_beliefsOf 4 = .ok (.bipush 58, 2) := dz_16 (k_X8_beliefsOf 0 4 rfl) (k_X8_beliefsOf 0 5 rfl) rfl
theorem dX8_beliefsOf_6 : decode cX8_beliefsOf 6 = .ok (.iload_n 1, 1) := dz_27 (k_X8_beliefsOf 0 6 rfl)
theorem dX8_beliefsOf_7 : decode cX8_beliefsOf 7 = .ok (.iadd, 1) := dz_96 (k_X8_beliefsOf 0 7 rfl)
theorem dX8_beliefsOf_8 : decode cX8_beliefsOf 8 = .ok (.iaload, 1) := dz_46 (k_X8_beliefsOf 0 8 rfl)
theorem dX8_beliefsOf_9 : decode cX8_beliefsOf 9 = .ok (.ireturn, 1) := dz_172 (k_X8_beliefsOf 0 9 rfl)
def B_X8_believe : List (List Nat) := [[42, 3, 181, 0, 3, 42, 27, 184, 0, 249, 154, 0, 11, 42, 28, 182, 0, 231, 153, 0, 7, 4, 167, 0, 4, 3, 4, 182, 0, 224, 153, 0, 5, 3, 172, 42, 27, 182, 0, 252, 28, 122, 4, 126, 4, 160, 0, 7, 4, 167, 0, 4, 3, 54, 4, 21, 4, 29, 159, 0, 18, 42, 180, 0], [13, 16, 58, 27, 96, 92, 46, 4, 28, 120, 130, 79, 21, 4, 29, 159, 0, 7, 4, 167, 0, 4, 3, 172]]
theorem k_X8_believe (j i : Nat) {b : Nat} (h : (B_X8_believe[j]?.bind fun c => c[i]?) = some b) : s_by cX8_believe (64 * j + i) b := s_byC (L := B_X8_believe) (by decide +kernel) (by decide +kernel) j i h
theorem dX8_believe_0 : decode cX8_believe 0 = .ok (.aload_n 0, 1) := dz_42 (k_X8_believe 0 0 rfl)
theorem dX8_believe_1 : decode cX8_believe 1 = .ok (.iconst 0, 1) := dz_3 (k_X8_believe 0 1 rfl)
theorem dX8_believe_2 : decode cX8_believe 2 = .ok (.putfield 3, 3) := dz_181 (k_X8_believe 0 2 rfl) (k_X8_believe 0 3 rfl) (k_X8_believe 0 4 rfl) rfl
theorem dX8_believe_5 : decode cX8_believe 5 = .ok (.aload_n 0, 1) := dz_42 (k_X8_believe 0 5 rfl)
theorem dX8_believe_6 : decode cX8_believe 6 = .ok (.iload_n 1, 1) := dz_27 (k_X8_believe 0 6 rfl)
theorem dX8_believe_7 : decode cX8_believe 7 = .ok (.invokestatic 249, 3) := dz_184 (k_X8_believe 0 7 rfl) (k_X8_believe 0 8 rfl) (k_X8_believe 0 9 rfl) rfl
theorem dX8_believe_10 : decode cX8_believe 10 = .ok (.ifCond .ne 11, 3) := dz_154 (k_X8_believe 0 10 rfl) (k_X8_believe 0 11 rfl) (k_X8_believe 0 12 rfl) rfl
theorem dX8_believe_13 : decode cX8_believe 13 = .ok (.aload_n 0, 1) := dz_42 (k_X8_believe 0 13 rfl)
theorem dX8_believe_14 : decode cX8_believe 14 = .ok (.iload_n 2, 1) := dz_28 (k_X8_believe 0 14 rfl)
theorem dX8_believe_15 : decode cX8_believe 15 = .ok (.invokevirtual 231, 3) := dz_182 (k_X8_believe 0 15 rfl) (k_X8_believe 0 16 rfl) (k_X8_believe 0 17 rfl) rfl
theorem dX8_believe_18 : decode cX8_believe 18 = .ok (.ifCond .eq 7, 3) := dz_153 (k_X8_believe 0 18 rfl) (k_X8_believe 0 19 rfl) (k_X8_believe 0 20 rfl) rfl
theorem dX8_believe_21 : decode cX8_believe 21 = .ok (.iconst 1, 1) := dz_4 (k_X8_believe 0 21 rfl)
theorem dX8_believe_22 : decode cX8_believe 22 = .ok (.goto 4, 3) := dz_167 (k_X8_believe 0 22 rfl) (k_X8_believe 0 23 rfl) (k_X8_believe 0 24 rfl) rfl
theorem dX8_believe_25 : decode cX8_believe 25 = .ok (.iconst 0, 1) := dz_3 (k_X8_believe 0 25 rfl)
theorem dX8_believe_26 : decode cX8_believe 26 = .ok (.iconst 1, 1) := dz_4 (k_X8_believe 0 26 rfl)
theorem dX8_believe_27 : decode cX8_believe 27 = .ok (.invokevirtual 224, 3) := dz_182 (k_X8_believe 0 27 rfl) (k_X8_believe 0 28 rfl) (k_X8_believe 0 29 rfl) rfl
theorem dX8_believe_30 : decode cX8_believe 30 = .ok (.ifCond .eq 5, 3) := dz_153 (k_X8_believe 0 30 rfl) (k_X8_believe 0 31 rfl) (k_X8_believe 0 32 rfl) rfl
theorem dX8_believe_33 : decode cX8_believe 33 = .ok (.iconst 0, 1) := dz_3 (k_X8_believe 0 33 rfl)
theorem dX8_believe_34 : decode cX8_believe 34 = .ok (.ireturn, 1) := dz_172 (k_X8_believe 0 34 rfl)
theorem dX8_believe_35 : decode cX8_believe 35 = .ok (.aload_n 0, 1) := dz_42 (k_X8_believe 0 35 rfl)
theorem dX8_believe_36 : decode cX8_believe 36 = .ok (.iload_n 1, 1) := dz_27 (k_X8_believe 0 36 rfl)
theorem dX8_believe_37 : decode cX8_believe 37 = .ok (.invokevirtual 252, 3) := dz_182 (k_X8_believe 0 37 rfl) (k_X8_believe 0 38 rfl) (k_X8_believe 0 39 rfl) rfl
theorem dX8_believe_40 : decode cX8_believe 40 = .ok (.iload_n 2, 1) := dz_28 (k_X8_believe 0 40 rfl)
theorem dX8_believe_41 : decode cX8_believe 41 = .ok (.ishr, 1) := dz_122 (k_X8_believe 0 41 rfl)
theorem dX8_believe_42 : decode cX8_believe 42 = .ok (.iconst 1, 1) := dz_4 (k_X8_believe 0 42 rfl)
theorem dX8_believe_43 : decode cX8_believe 43 = .ok (.iand, 1) := dz_126 (k_X8_believe 0 43 rfl)
theorem dX8_believe_44 : decode cX8_believe 44 = .ok (.iconst 1, 1) := dz_4 (k_X8_believe 0 44 rfl)
theorem dX8_believe_45 : decode cX8_believe 45 = .ok (.if_icmp .ne 7, 3) := dz_160 (k_X8_believe 0 45 rfl) (k_X8_believe 0 46 rfl) (k_X8_believe 0 47 rfl) rfl
theorem dX8_believe_48 : decode cX8_believe 48 = .ok (.iconst 1, 1) := dz_4 (k_X8_believe 0 48 rfl)
theorem dX8_believe_49 : decode cX8_believe 49 = .ok (.goto 4, 3) := dz_167 (k_X8_believe 0 49 rfl) (k_X8_believe 0 50 rfl) (k_X8_believe 0 51 rfl) rfl
theorem dX8_believe_52 : decode cX8_believe 52 = .ok (.iconst 0, 1) := dz_3 (k_X8_believe 0 52 rfl)
theorem dX8_believe_53 : decode cX8_believe 53 = .ok (.istore 4, 2) := dz_54 (k_X8_believe 0 53 rfl) (k_X8_believe 0 54 rfl)
theorem dX8_believe_55 : decode cX8_believe 55 = .ok (.iload 4, 2) := dz_21 (k_X8_believe 0 55 rfl) (k_X8_believe 0 56 rfl)
theorem dX8_believe_57 : decode cX8_believe 57 = .ok (.iload_n 3, 1) := dz_29 (k_X8_believe 0 57 rfl)
theorem dX8_believe_58 : decode cX8_believe 58 = .ok (.if_icmp .eq 18, 3) := dz_159 (k_X8_believe 0 58 rfl) (k_X8_believe 0 59 rfl) (k_X8_believe 0 60 rfl) rfl
theorem dX8_believe_61 : decode cX8_believe 61 = .ok (.aload_n 0, 1) := dz_42 (k_X8_believe 0 61 rfl)
theorem dX8_believe_62 : decode cX8_believe 62 = .ok (.getfield 13, 3) := dz_180 (k_X8_believe 0 62 rfl) (k_X8_believe 0 63 rfl) (k_X8_believe 1 0 rfl) rfl
theorem dX8_believe_65 : decode cX8_believe 65 = .ok (.bipush 58, 2) := dz_16 (k_X8_believe 1 1 rfl) (k_X8_believe 1 2 rfl) rfl
theorem dX8_believe_67 : decode cX8_believe 67 = .ok (.iload_n 1, 1) := dz_27 (k_X8_believe 1 3 rfl)
theorem dX8_believe_68 : decode cX8_believe 68 = .ok (.iadd, 1) := dz_96 (k_X8_believe 1 4 rfl)
theorem dX8_believe_69 : decode cX8_believe 69 = .ok (.dup2, 1) := dz_92 (k_X8_believe 1 5 rfl)
theorem dX8_believe_70 : decode cX8_believe 70 = .ok (.iaload, 1) := dz_46 (k_X8_believe 1 6 rfl)
theorem dX8_believe_71 : decode cX8_believe 71 = .ok (.iconst 1, 1) := dz_4 (k_X8_believe 1 7 rfl)
theorem dX8_believe_72 : decode cX8_believe 72 = .ok (.iload_n 2, 1) := dz_28 (k_X8_believe 1 8 rfl)
theorem dX8_believe_73 : decode cX8_believe 73 = .ok (.ishl, 1) := dz_120 (k_X8_believe 1 9 rfl)
theorem dX8_believe_74 : decode cX8_believe 74 = .ok (.ixor, 1) := dz_130 (k_X8_believe 1 10 rfl)
theorem dX8_believe_75 : decode cX8_believe 75 = .ok (.iastore, 1) := dz_79 (k_X8_believe 1 11 rfl)
theorem dX8_believe_76 : decode cX8_believe 76 = .ok (.iload 4, 2) := dz_21 (k_X8_believe 1 12 rfl) (k_X8_believe 1 13 rfl)
theorem dX8_believe_78 : decode cX8_believe 78 = .ok (.iload_n 3, 1) := dz_29 (k_X8_believe 1 14 rfl)
theorem dX8_believe_79 : decode cX8_believe 79 = .ok (.if_icmp .eq 7, 3) := dz_159 (k_X8_believe 1 15 rfl) (k_X8_believe 1 16 rfl) (k_X8_believe 1 17 rfl) rfl
theorem dX8_believe_82 : decode cX8_believe 82 = .ok (.iconst 1, 1) := dz_4 (k_X8_believe 1 18 rfl)
theorem dX8_believe_83 : decode cX8_believe 83 = .ok (.goto 4, 3) := dz_167 (k_X8_believe 1 19 rfl) (k_X8_believe 1 20 rfl) (k_X8_believe 1 21 rfl) rfl
theorem dX8_believe_86 : decode cX8_believe 86 = .ok (.iconst 0, 1) := dz_3 (k_X8_believe 1 22 rfl)
theorem dX8_believe_87 : decode cX8_believe 87 = .ok (.ireturn, 1) := dz_172 (k_X8_believe 1 23 rfl)
