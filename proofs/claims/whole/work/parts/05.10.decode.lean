def B_X8_priceOf : List (List Nat) := [[42, 42, 27, 3, 182, 1, 0, 42, 27, 5, 182, 1, 0, 42, 27, 4, 182, 1, 0, 182, 1, 3, 172]]
theorem k_X8_priceOf (j i : Nat) {b : Nat} (h : (B_X8_priceOf[j]?.bind fun c => c[i]?) = some b) : s_by cX8_priceOf (64 * j + i) b := s_byC (L := B_X8_priceOf) (by decide +kernel) (by decide +kernel) j i h
theorem dX8_priceOf_0 : decode cX8_priceOf 0 = .ok (.aload_n 0, 1) := dz_42 (k_X8_priceOf 0 0 rfl)
theorem dX8_priceOf_1 : decode cX8_priceOf 1 = .ok (.aload_n 0, 1) := dz_42 (k_X8_priceOf 0 1 rfl)
theorem dX8_priceOf_2 : decode cX8_priceOf 2 = .ok (.iload_n 1, 1) := dz_27 (k_X8_priceOf 0 2 rfl)
theorem dX8_priceOf_3 : decode cX8_priceOf 3 = .ok (.iconst 0, 1) := dz_3 (k_X8_priceOf 0 3 rfl)
theorem dX8_priceOf_4 : decode cX8_priceOf 4 = .ok (.invokevirtual 256, 3) := dz_182 (k_X8_priceOf 0 4 rfl) (k_X8_priceOf 0 5 rfl) (k_X8_priceOf 0 6 rfl) rfl
theorem dX8_priceOf_7 : decode cX8_priceOf 7 = .ok (.aload_n 0, 1) := dz_42 (k_X8_priceOf 0 7 rfl)
theorem dX8_priceOf_8 : decode cX8_priceOf 8 = .ok (.iload_n 1, 1) := dz_27 (k_X8_priceOf 0 8 rfl)
theorem dX8_priceOf_9 : decode cX8_priceOf 9 = .ok (.iconst 2, 1) := dz_5 (k_X8_priceOf 0 9 rfl)
theorem dX8_priceOf_10 : decode cX8_priceOf 10 = .ok (.invokevirtual 256, 3) := dz_182 (k_X8_priceOf 0 10 rfl) (k_X8_priceOf 0 11 rfl) (k_X8_priceOf 0 12 rfl) rfl
theorem dX8_priceOf_13 : decode cX8_priceOf 13 = .ok (.aload_n 0, 1) := dz_42 (k_X8_priceOf 0 13 rfl)
theorem dX8_priceOf_14 : decode cX8_priceOf 14 = .ok (.iload_n 1, 1) := dz_27 (k_X8_priceOf 0 14 rfl)
theorem dX8_priceOf_15 : decode cX8_priceOf 15 = .ok (.iconst 1, 1) := dz_4 (k_X8_priceOf 0 15 rfl)
theorem dX8_priceOf_16 : decode cX8_priceOf 16 = .ok (.invokevirtual 256, 3) := dz_182 (k_X8_priceOf 0 16 rfl) (k_X8_priceOf 0 17 rfl) (k_X8_priceOf 0 18 rfl) rfl
theorem dX8_priceOf_19 : decode cX8_priceOf 19 = .ok (.invokevirtual 259, 3) := dz_182 (k_X8_priceOf 0 19 rfl) (k_X8_priceOf 0 20 rfl) (k_X8_priceOf 0 21 rfl) rfl
theorem dX8_priceOf_22 : decode cX8_priceOf 22 = .ok (.ireturn, 1) := dz_172 (k_X8_priceOf 0 22 rfl)
def B_X8_puts : List (List Nat) := [[42, 182, 0, 175, 154, 0, 5, 3, 172, 42, 180, 0, 23, 17, 10, 240, 42, 180, 0, 20, 16, 70, 46, 96, 27, 79, 42, 180, 0, 20, 16, 70, 92, 46, 4, 96, 79, 4, 172]]
theorem k_X8_puts (j i : Nat) {b : Nat} (h : (B_X8_puts[j]?.bind fun c => c[i]?) = some b) : s_by cX8_puts (64 * j + i) b := s_byC (L := B_X8_puts) (by decide +kernel) (by decide +kernel) j i h
theorem dX8_puts_0 : decode cX8_puts 0 = .ok (.aload_n 0, 1) := dz_42 (k_X8_puts 0 0 rfl)
theorem dX8_puts_1 : decode cX8_puts 1 = .ok (.invokevirtual 175, 3) := dz_182 (k_X8_puts 0 1 rfl) (k_X8_puts 0 2 rfl) (k_X8_puts 0 3 rfl) rfl
theorem dX8_puts_4 : decode cX8_puts 4 = .ok (.ifCond .ne 5, 3) := dz_154 (k_X8_puts 0 4 rfl) (k_X8_puts 0 5 rfl) (k_X8_puts 0 6 rfl) rfl
theorem dX8_puts_7 : decode cX8_puts 7 = .ok (.iconst 0, 1) := dz_3 (k_X8_puts 0 7 rfl)
theorem dX8_puts_8 : decode cX8_puts 8 = .ok (.ireturn, 1) := dz_172 (k_X8_puts 0 8 rfl)
theorem dX8_puts_9 : decode cX8_puts 9 = .ok (.aload_n 0, 1) := dz_42 (k_X8_puts 0 9 rfl)
theorem dX8_puts_10 : decode cX8_puts 10 = .ok (.getfield 23, 3) := dz_180 (k_X8_puts 0 10 rfl) (k_X8_puts 0 11 rfl) (k_X8_puts 0 12 rfl) rfl
theorem dX8_puts_13 : decode cX8_puts 13 = .ok (.sipush 2800, 3) := dz_17 (k_X8_puts 0 13 rfl) (k_X8_puts 0 14 rfl) (k_X8_puts 0 15 rfl) rfl
theorem dX8_puts_16 : decode cX8_puts 16 = .ok (.aload_n 0, 1) := dz_42 (k_X8_puts 0 16 rfl)
theorem dX8_puts_17 : decode cX8_puts 17 = .ok (.getfield 20, 3) := dz_180 (k_X8_puts 0 17 rfl) (k_X8_puts 0 18 rfl) (k_X8_puts 0 19 rfl) rfl
theorem dX8_puts_20 : decode cX8_puts 20 = .ok (.bipush 70, 2) := dz_16 (k_X8_puts 0 20 rfl) (k_X8_puts 0 21 rfl) rfl
theorem dX8_puts_22 : decode cX8_puts 22 = .ok (.iaload, 1) := dz_46 (k_X8_puts 0 22 rfl)
theorem dX8_puts_23 : decode cX8_puts 23 = .ok (.iadd, 1) := dz_96 (k_X8_puts 0 23 rfl)
theorem dX8_puts_24 : decode cX8_puts 24 = .ok (.iload_n 1, 1) := dz_27 (k_X8_puts 0 24 rfl)
theorem dX8_puts_25 : decode cX8_puts 25 = .ok (.iastore, 1) := dz_79 (k_X8_puts 0 25 rfl)
theorem dX8_puts_26 : decode cX8_puts 26 = .ok (.aload_n 0, 1) := dz_42 (k_X8_puts 0 26 rfl)
theorem dX8_puts_27 : decode cX8_puts 27 = .ok (.getfield 20, 3) := dz_180 (k_X8_puts 0 27 rfl) (k_X8_puts 0 28 rfl) (k_X8_puts 0 29 rfl) rfl
theorem dX8_puts_30 : decode cX8_puts 30 = .ok (.bipush 70, 2) := dz_16 (k_X8_puts 0 30 rfl) (k_X8_puts 0 31 rfl) rfl
theorem dX8_puts_32 : decode cX8_puts 32 = .ok (.dup2, 1) := dz_92 (k_X8_puts 0 32 rfl)
theorem dX8_puts_33 : decode cX8_puts 33 = .ok (.iaload, 1) := dz_46 (k_X8_puts 0 33 rfl)
theorem dX8_puts_34 : decode cX8_puts 34 = .ok (.iconst 1, 1) := dz_4 (k_X8_puts 0 34 rfl)
theorem dX8_puts_35 : decode cX8_puts 35 = .ok (.iadd, 1) := dz_96 (k_X8_puts 0 35 rfl)
theorem dX8_puts_36 : decode cX8_puts 36 = .ok (.iastore, 1) := dz_79 (k_X8_puts 0 36 rfl)
theorem dX8_puts_37 : decode cX8_puts 37 = .ok (.iconst 1, 1) := dz_4 (k_X8_puts 0 37 rfl)
theorem dX8_puts_38 : decode cX8_puts 38 = .ok (.ireturn, 1) := dz_172 (k_X8_puts 0 38 rfl)
def B_X8_readAnd : List (List Nat) := [[42, 180, 0, 20, 16, 70, 46, 60, 42, 182, 0, 194, 154, 0, 5, 3, 172, 42, 16, 38, 182, 0, 188, 153, 0, 29, 42, 182, 0, 175, 153, 0, 10, 42, 182, 0, 194, 154, 0, 5, 3, 172, 42, 27, 16, 13, 182, 0, 214, 167, 255, 224, 4, 172]]
theorem k_X8_readAnd (j i : Nat) {b : Nat} (h : (B_X8_readAnd[j]?.bind fun c => c[i]?) = some b) : s_by cX8_readAnd (64 * j + i) b := s_byC (L := B_X8_readAnd) (by decide +kernel) (by decide +kernel) j i h
theorem dX8_readAnd_0 : decode cX8_readAnd 0 = .ok (.aload_n 0, 1) := dz_42 (k_X8_readAnd 0 0 rfl)
theorem dX8_readAnd_1 : decode cX8_readAnd 1 = .ok (.getfield 20, 3) := dz_180 (k_X8_readAnd 0 1 rfl) (k_X8_readAnd 0 2 rfl) (k_X8_readAnd 0 3 rfl) rfl
theorem dX8_readAnd_4 : decode cX8_readAnd 4 = .ok (.bipush 70, 2) := dz_16 (k_X8_readAnd 0 4 rfl) (k_X8_readAnd 0 5 rfl) rfl
theorem dX8_readAnd_6 : decode cX8_readAnd 6 = .ok (.iaload, 1) := dz_46 (k_X8_readAnd 0 6 rfl)
theorem dX8_readAnd_7 : decode cX8_readAnd 7 = .ok (.istore_n 1, 1) := dz_60 (k_X8_readAnd 0 7 rfl)
theorem dX8_readAnd_8 : decode cX8_readAnd 8 = .ok (.aload_n 0, 1) := dz_42 (k_X8_readAnd 0 8 rfl)
theorem dX8_readAnd_9 : decode cX8_readAnd 9 = .ok (.invokevirtual 194, 3) := dz_182 (k_X8_readAnd 0 9 rfl) (k_X8_readAnd 0 10 rfl) (k_X8_readAnd 0 11 rfl) rfl
theorem dX8_readAnd_12 : decode cX8_readAnd 12 = .ok (.ifCond .ne 5, 3) := dz_154 (k_X8_readAnd 0 12 rfl) (k_X8_readAnd 0 13 rfl) (k_X8_readAnd 0 14 rfl) rfl
theorem dX8_readAnd_15 : decode cX8_readAnd 15 = .ok (.iconst 0, 1) := dz_3 (k_X8_readAnd 0 15 rfl)
theorem dX8_readAnd_16 : decode cX8_readAnd 16 = .ok (.ireturn, 1) := dz_172 (k_X8_readAnd 0 16 rfl)
theorem dX8_readAnd_17 : decode cX8_readAnd 17 = .ok (.aload_n 0, 1) := dz_42 (k_X8_readAnd 0 17 rfl)
theorem dX8_readAnd_18 : decode cX8_readAnd 18 = .ok (.bipush 38, 2) := dz_16 (k_X8_readAnd 0 18 rfl) (k_X8_readAnd 0 19 rfl) rfl
theorem dX8_readAnd_20 : decode cX8_readAnd 20 = .ok (.invokevirtual 188, 3) := dz_182 (k_X8_readAnd 0 20 rfl) (k_X8_readAnd 0 21 rfl) (k_X8_readAnd 0 22 rfl) rfl
theorem dX8_readAnd_23 : decode cX8_readAnd 23 = .ok (.ifCond .eq 29, 3) := dz_153 (k_X8_readAnd 0 23 rfl) (k_X8_readAnd 0 24 rfl) (k_X8_readAnd 0 25 rfl) rfl
theorem dX8_readAnd_26 : decode cX8_readAnd 26 = .ok (.aload_n 0, 1) := dz_42 (k_X8_readAnd 0 26 rfl)
theorem dX8_readAnd_27 : decode cX8_readAnd 27 = .ok (.invokevirtual 175, 3) := dz_182 (k_X8_readAnd 0 27 rfl) (k_X8_readAnd 0 28 rfl) (k_X8_readAnd 0 29 rfl) rfl
theorem dX8_readAnd_30 : decode cX8_readAnd 30 = .ok (.ifCond .eq 10, 3) := dz_153 (k_X8_readAnd 0 30 rfl) (k_X8_readAnd 0 31 rfl) (k_X8_readAnd 0 32 rfl) rfl
theorem dX8_readAnd_33 : decode cX8_readAnd 33 = .ok (.aload_n 0, 1) := dz_42 (k_X8_readAnd 0 33 rfl)
theorem dX8_readAnd_34 : decode cX8_readAnd 34 = .ok (.invokevirtual 194, 3) := dz_182 (k_X8_readAnd 0 34 rfl) (k_X8_readAnd 0 35 rfl) (k_X8_readAnd 0 36 rfl) rfl
theorem dX8_readAnd_37 : decode cX8_readAnd 37 = .ok (.ifCond .ne 5, 3) := dz_154 (k_X8_readAnd 0 37 rfl) (k_X8_readAnd 0 38 rfl) (k_X8_readAnd 0 39 rfl) rfl
theorem dX8_readAnd_40 : decode cX8_readAnd 40 = .ok (.iconst 0, 1) := dz_3 (k_X8_readAnd 0 40 rfl)
theorem dX8_readAnd_41 : decode cX8_readAnd 41 = .ok (.ireturn, 1) := dz_172 (k_X8_readAnd 0 41 rfl)
theorem dX8_readAnd_42 : decode cX8_readAnd 42 = .ok (.aload_n 0, 1) := dz_42 (k_X8_readAnd 0 42 rfl)
theorem dX8_readAnd_43 : decode cX8_readAnd 43 = .ok (.iload_n 1, 1) := dz_27 (k_X8_readAnd 0 43 rfl)
theorem dX8_readAnd_44 : decode cX8_readAnd 44 = .ok (.bipush 13, 2) := dz_16 (k_X8_readAnd 0 44 rfl) (k_X8_readAnd 0 45 rfl) rfl
theorem dX8_readAnd_46 : decode cX8_readAnd 46 = .ok (.invokevirtual 214, 3) := dz_182 (k_X8_readAnd 0 46 rfl) (k_X8_readAnd 0 47 rfl) (k_X8_readAnd 0 48 rfl) rfl
theorem dX8_readAnd_49 : decode cX8_readAnd 49 = .ok (.goto (-32), 3) := dz_167 (k_X8_readAnd 0 49 rfl) (k_X8_readAnd 0 50 rfl) (k_X8_readAnd 0 51 rfl) rfl
theorem dX8_readAnd_52 : decode cX8_readAnd 52 = .ok (.iconst 1, 1) := dz_4 (k_X8_readAnd 0 52 rfl)
theorem dX8_readAnd_53 : decode cX8_readAnd 53 = .ok (.ireturn, 1) := dz_172 (k_X8_readAnd 0 53 rfl)
def B_X8_readAtom : List (List Nat) := [[42, 180, 0, 158, 42, 180, 0, 148, 162, 0, 15, 42, 180, 0, 26, 42, 180, 0, 158, 51, 167, 0, 4, 3, 60, 42, 180, 0, 148, 42, 180, 0, 158, 100, 4, 160, 0, 24, 27, 16, 112, 161, 0, 18, 27, 16, 115, 163, 0, 12, 42, 27, 16, 112, 100, 182, 0, 182, 172, 27, 16, 102, 159, 0], [11, 27, 16, 103, 159, 0, 5, 3, 172, 42, 180, 0, 148, 42, 180, 0, 158, 100, 5, 160, 0, 50, 42, 180, 0, 26, 42, 180, 0, 158, 4, 96, 51, 16, 120, 160, 0, 34, 42, 180, 0, 185, 153, 0, 25, 42, 27, 16, 102, 160, 0, 7, 7, 167, 0, 4, 8, 182, 0, 182, 153, 0, 7, 4], [167, 0, 4, 3, 172, 42, 180, 0, 148, 42, 180, 0, 158, 100, 4, 163, 0, 14, 42, 16, 48, 16, 57, 182, 0, 154, 154, 0, 5, 3, 172, 42, 180, 0, 26, 42, 180, 0, 148, 51, 16, 48, 100, 61, 42, 180, 0, 172, 16, 40, 160, 0, 5, 3, 172, 28, 42, 182, 0, 138, 161, 0, 13, 42], [42, 180, 0, 148, 181, 0, 158, 3, 172, 42, 89, 180, 0, 148, 4, 96, 181, 0, 148, 42, 27, 16, 102, 160, 0, 8, 16, 6, 167, 0, 5, 16, 9, 28, 96, 182, 0, 182, 172]]
theorem k_X8_readAtom (j i : Nat) {b : Nat} (h : (B_X8_readAtom[j]?.bind fun c => c[i]?) = some b) : s_by cX8_readAtom (64 * j + i) b := s_byC (L := B_X8_readAtom) (by decide +kernel) (by decide +kernel) j i h
theorem dX8_readAtom_0 : decode cX8_readAtom 0 = .ok (.aload_n 0, 1) := dz_42 (k_X8_readAtom 0 0 rfl)
theorem dX8_readAtom_1 : decode cX8_readAtom 1 = .ok (.getfield 158, 3) := dz_180 (k_X8_readAtom 0 1 rfl) (k_X8_readAtom 0 2 rfl) (k_X8_readAtom 0 3 rfl) rfl
theorem dX8_readAtom_4 : decode cX8_readAtom 4 = .ok (.aload_n 0, 1) := dz_42 (k_X8_readAtom 0 4 rfl)
theorem dX8_readAtom_5 : decode cX8_readAtom 5 = .ok (.getfield 148, 3) := dz_180 (k_X8_readAtom 0 5 rfl) (k_X8_readAtom 0 6 rfl) (k_X8_readAtom 0 7 rfl) rfl
theorem dX8_readAtom_8 : decode cX8_readAtom 8 = .ok (.if_icmp .ge 15, 3) := dz_162 (k_X8_readAtom 0 8 rfl) (k_X8_readAtom 0 9 rfl) (k_X8_readAtom 0 10 rfl) rfl
theorem dX8_readAtom_11 : decode cX8_readAtom 11 = .ok (.aload_n 0, 1) := dz_42 (k_X8_readAtom 0 11 rfl)
theorem dX8_readAtom_12 : decode cX8_readAtom 12 = .ok (.getfield 26, 3) := dz_180 (k_X8_readAtom 0 12 rfl) (k_X8_readAtom 0 13 rfl) (k_X8_readAtom 0 14 rfl) rfl
theorem dX8_readAtom_15 : decode cX8_readAtom 15 = .ok (.aload_n 0, 1) := dz_42 (k_X8_readAtom 0 15 rfl)
theorem dX8_readAtom_16 : decode cX8_readAtom 16 = .ok (.getfield 158, 3) := dz_180 (k_X8_readAtom 0 16 rfl) (k_X8_readAtom 0 17 rfl) (k_X8_readAtom 0 18 rfl) rfl
theorem dX8_readAtom_19 : decode cX8_readAtom 19 = .ok (.baload, 1) := dz_51 (k_X8_readAtom 0 19 rfl)
theorem dX8_readAtom_20 : decode cX8_readAtom 20 = .ok (.goto 4, 3) := dz_167 (k_X8_readAtom 0 20 rfl) (k_X8_readAtom 0 21 rfl) (k_X8_readAtom 0 22 rfl) rfl
theorem dX8_readAtom_23 : decode cX8_readAtom 23 = .ok (.iconst 0, 1) := dz_3 (k_X8_readAtom 0 23 rfl)
theorem dX8_readAtom_24 : decode cX8_readAtom 24 = .ok (.istore_n 1, 1) := dz_60 (k_X8_readAtom 0 24 rfl)
theorem dX8_readAtom_25 : decode cX8_readAtom 25 = .ok (.aload_n 0, 1) := dz_42 (k_X8_readAtom 0 25 rfl)
theorem dX8_readAtom_26 : decode cX8_readAtom 26 = .ok (.getfield 148, 3) := dz_180 (k_X8_readAtom 0 26 rfl) (k_X8_readAtom 0 27 rfl) (k_X8_readAtom 0 28 rfl) rfl
theorem dX8_readAtom_29 : decode cX8_readAtom 29 = .ok (.aload_n 0, 1) := dz_42 (k_X8_readAtom 0 29 rfl)
theorem dX8_readAtom_30 : decode cX8_readAtom 30 = .ok (.getfield 158, 3) := dz_180 (k_X8_readAtom 0 30 rfl) (k_X8_readAtom 0 31 rfl) (k_X8_readAtom 0 32 rfl) rfl
theorem dX8_readAtom_33 : decode cX8_readAtom 33 = .ok (.isub, 1) := dz_100 (k_X8_readAtom 0 33 rfl)
theorem dX8_readAtom_34 : decode cX8_readAtom 34 = .ok (.iconst 1, 1) := dz_4 (k_X8_readAtom 0 34 rfl)
theorem dX8_readAtom_35 : decode cX8_readAtom 35 = .ok (.if_icmp .ne 24, 3) := dz_160 (k_X8_readAtom 0 35 rfl) (k_X8_readAtom 0 36 rfl) (k_X8_readAtom 0 37 rfl) rfl
theorem dX8_readAtom_38 : decode cX8_readAtom 38 = .ok (.iload_n 1, 1) := dz_27 (k_X8_readAtom 0 38 rfl)
theorem dX8_readAtom_39 : decode cX8_readAtom 39 = .ok (.bipush 112, 2) := dz_16 (k_X8_readAtom 0 39 rfl) (k_X8_readAtom 0 40 rfl) rfl
theorem dX8_readAtom_41 : decode cX8_readAtom 41 = .ok (.if_icmp .lt 18, 3) := dz_161 (k_X8_readAtom 0 41 rfl) (k_X8_readAtom 0 42 rfl) (k_X8_readAtom 0 43 rfl) rfl
theorem dX8_readAtom_44 : decode cX8_readAtom 44 = .ok (.iload_n 1, 1) := dz_27 (k_X8_readAtom 0 44 rfl)
theorem dX8_readAtom_45 : decode cX8_readAtom 45 = .ok (.bipush 115, 2) := dz_16 (k_X8_readAtom 0 45 rfl) (k_X8_readAtom 0 46 rfl) rfl
theorem dX8_readAtom_47 : decode cX8_readAtom 47 = .ok (.if_icmp .gt 12, 3) := dz_163 (k_X8_readAtom 0 47 rfl) (k_X8_readAtom 0 48 rfl) (k_X8_readAtom 0 49 rfl) rfl
theorem dX8_readAtom_50 : decode cX8_readAtom 50 = .ok (.aload_n 0, 1) := dz_42 (k_X8_readAtom 0 50 rfl)
theorem dX8_readAtom_51 : decode cX8_readAtom 51 = .ok (.iload_n 1, 1) := dz_27 (k_X8_readAtom 0 51 rfl)
theorem dX8_readAtom_52 : decode cX8_readAtom 52 = .ok (.bipush 112, 2) := dz_16 (k_X8_readAtom 0 52 rfl) (k_X8_readAtom 0 53 rfl) rfl
theorem dX8_readAtom_54 : decode cX8_readAtom 54 = .ok (.isub, 1) := dz_100 (k_X8_readAtom 0 54 rfl)
theorem dX8_readAtom_55 : decode cX8_readAtom 55 = .ok (.invokevirtual 182, 3) := dz_182 (k_X8_readAtom 0 55 rfl) (k_X8_readAtom 0 56 rfl) (k_X8_readAtom 0 57 rfl) rfl
theorem dX8_readAtom_58 : decode cX8_readAtom 58 = .ok (.ireturn, 1) := dz_172 (k_X8_readAtom 0 58 rfl)
theorem dX8_readAtom_59 : decode cX8_readAtom 59 = .ok (.iload_n 1, 1) := dz_27 (k_X8_readAtom 0 59 rfl)
theorem dX8_readAtom_60 : decode cX8_readAtom 60 = .ok (.bipush 102, 2) := dz_16 (k_X8_readAtom 0 60 rfl) (k_X8_readAtom 0 61 rfl) rfl
theorem dX8_readAtom_62 : decode cX8_readAtom 62 = .ok (.if_icmp .eq 11, 3) := dz_159 (k_X8_readAtom 0 62 rfl) (k_X8_readAtom 0 63 rfl) (k_X8_readAtom 1 0 rfl) rfl
theorem dX8_readAtom_65 : decode cX8_readAtom 65 = .ok (.iload_n 1, 1) := dz_27 (k_X8_readAtom 1 1 rfl)
theorem dX8_readAtom_66 : decode cX8_readAtom 66 = .ok (.bipush 103, 2) := dz_16 (k_X8_readAtom 1 2 rfl) (k_X8_readAtom 1 3 rfl) rfl
theorem dX8_readAtom_68 : decode cX8_readAtom 68 = .ok (.if_icmp .eq 5, 3) := dz_159 (k_X8_readAtom 1 4 rfl) (k_X8_readAtom 1 5 rfl) (k_X8_readAtom 1 6 rfl) rfl
theorem dX8_readAtom_71 : decode cX8_readAtom 71 = .ok (.iconst 0, 1) := dz_3 (k_X8_readAtom 1 7 rfl)
theorem dX8_readAtom_72 : decode cX8_readAtom 72 = .ok (.ireturn, 1) := dz_172 (k_X8_readAtom 1 8 rfl)
theorem dX8_readAtom_73 : decode cX8_readAtom 73 = .ok (.aload_n 0, 1) := dz_42 (k_X8_readAtom 1 9 rfl)
theorem dX8_readAtom_74 : decode cX8_readAtom 74 = .ok (.getfield 148, 3) := dz_180 (k_X8_readAtom 1 10 rfl) (k_X8_readAtom 1 11 rfl) (k_X8_readAtom 1 12 rfl) rfl
theorem dX8_readAtom_77 : decode cX8_readAtom 77 = .ok (.aload_n 0, 1) := dz_42 (k_X8_readAtom 1 13 rfl)
theorem dX8_readAtom_78 : decode cX8_readAtom 78 = .ok (.getfield 158, 3) := dz_180 (k_X8_readAtom 1 14 rfl) (k_X8_readAtom 1 15 rfl) (k_X8_readAtom 1 16 rfl) rfl
theorem dX8_readAtom_81 : decode cX8_readAtom 81 = .ok (.isub, 1) := dz_100 (k_X8_readAtom 1 17 rfl)
theorem dX8_readAtom_82 : decode cX8_readAtom 82 = .ok (.iconst 2, 1) := dz_5 (k_X8_readAtom 1 18 rfl)
theorem dX8_readAtom_83 : decode cX8_readAtom 83 = .ok (.if_icmp .ne 50, 3) := dz_160 (k_X8_readAtom 1 19 rfl) (k_X8_readAtom 1 20 rfl) (k_X8_readAtom 1 21 rfl) rfl
theorem dX8_readAtom_86 : decode cX8_readAtom 86 = .ok (.aload_n 0, 1) := dz_42 (k_X8_readAtom 1 22 rfl)
theorem dX8_readAtom_87 : decode cX8_readAtom 87 = .ok (.getfield 26, 3) := dz_180 (k_X8_readAtom 1 23 rfl) (k_X8_readAtom 1 24 rfl) (k_X8_readAtom 1 25 rfl) rfl
theorem dX8_readAtom_90 : decode cX8_readAtom 90 = .ok (.aload_n 0, 1) := dz_42 (k_X8_readAtom 1 26 rfl)
theorem dX8_readAtom_91 : decode cX8_readAtom 91 = .ok (.getfield 158, 3) := dz_180 (k_X8_readAtom 1 27 rfl) (k_X8_readAtom 1 28 rfl) (k_X8_readAtom 1 29 rfl) rfl
theorem dX8_readAtom_94 : decode cX8_readAtom 94 = .ok (.iconst 1, 1) := dz_4 (k_X8_readAtom 1 30 rfl)
theorem dX8_readAtom_95 : decode cX8_readAtom 95 = .ok (.iadd, 1) := dz_96 (k_X8_readAtom 1 31 rfl)
theorem dX8_readAtom_96 : decode cX8_readAtom 96 = .ok (.baload, 1) := dz_51 (k_X8_readAtom 1 32 rfl)
theorem dX8_readAtom_97 : decode cX8_readAtom 97 = .ok (.bipush 120, 2) := dz_16 (k_X8_readAtom 1 33 rfl) (k_X8_readAtom 1 34 rfl) rfl
theorem dX8_readAtom_99 : decode cX8_readAtom 99 = .ok (.if_icmp .ne 34, 3) := dz_160 (k_X8_readAtom 1 35 rfl) (k_X8_readAtom 1 36 rfl) (k_X8_readAtom 1 37 rfl) rfl
theorem dX8_readAtom_102 : decode cX8_readAtom 102 = .ok (.aload_n 0, 1) := dz_42 (k_X8_readAtom 1 38 rfl)
theorem dX8_readAtom_103 : decode cX8_readAtom 103 = .ok (.getfield 185, 3) := dz_180 (k_X8_readAtom 1 39 rfl) (k_X8_readAtom 1 40 rfl) (k_X8_readAtom 1 41 rfl) rfl
theorem dX8_readAtom_106 : decode cX8_readAtom 106 = .ok (.ifCond .eq 25, 3) := dz_153 (k_X8_readAtom 1 42 rfl) (k_X8_readAtom 1 43 rfl) (k_X8_readAtom 1 44 rfl) rfl
theorem dX8_readAtom_109 : decode cX8_readAtom 109 = .ok (.aload_n 0, 1) := dz_42 (k_X8_readAtom 1 45 rfl)
theorem dX8_readAtom_110 : decode cX8_readAtom 110 = .ok (.iload_n 1, 1) := dz_27 (k_X8_readAtom 1 46 rfl)
theorem dX8_readAtom_111 : decode cX8_readAtom 111 = .ok (.bipush 102, 2) := dz_16 (k_X8_readAtom 1 47 rfl) (k_X8_readAtom 1 48 rfl) rfl
theorem dX8_readAtom_113 : decode cX8_readAtom 113 = .ok (.if_icmp .ne 7, 3) := dz_160 (k_X8_readAtom 1 49 rfl) (k_X8_readAtom 1 50 rfl) (k_X8_readAtom 1 51 rfl) rfl
theorem dX8_readAtom_116 : decode cX8_readAtom 116 = .ok (.iconst 4, 1) := dz_7 (k_X8_readAtom 1 52 rfl)
theorem dX8_readAtom_117 : decode cX8_readAtom 117 = .ok (.goto 4, 3) := dz_167 (k_X8_readAtom 1 53 rfl) (k_X8_readAtom 1 54 rfl) (k_X8_readAtom 1 55 rfl) rfl
theorem dX8_readAtom_120 : decode cX8_readAtom 120 = .ok (.iconst 5, 1) := dz_8 (k_X8_readAtom 1 56 rfl)
theorem dX8_readAtom_121 : decode cX8_readAtom 121 = .ok (.invokevirtual 182, 3) := dz_182 (k_X8_readAtom 1 57 rfl) (k_X8_readAtom 1 58 rfl) (k_X8_readAtom 1 59 rfl) rfl
theorem dX8_readAtom_124 : decode cX8_readAtom 124 = .ok (.ifCond .eq 7, 3) := dz_153 (k_X8_readAtom 1 60 rfl) (k_X8_readAtom 1 61 rfl) (k_X8_readAtom 1 62 rfl) rfl
theorem dX8_readAtom_127 : decode cX8_readAtom 127 = .ok (.iconst 1, 1) := dz_4 (k_X8_readAtom 1 63 rfl)
theorem dX8_readAtom_128 : decode cX8_readAtom 128 = .ok (.goto 4, 3) := dz_167 (k_X8_readAtom 2 0 rfl) (k_X8_readAtom 2 1 rfl) (k_X8_readAtom 2 2 rfl) rfl
theorem dX8_readAtom_131 : decode cX8_readAtom 131 = .ok (.iconst 0, 1) := dz_3 (k_X8_readAtom 2 3 rfl)
theorem dX8_readAtom_132 : decode cX8_readAtom 132 = .ok (.ireturn, 1) := dz_172 (k_X8_readAtom 2 4 rfl)
theorem dX8_readAtom_133 : decode cX8_readAtom 133 = .ok (.aload_n 0, 1) := dz_42 (k_X8_readAtom 2 5 rfl)
theorem dX8_readAtom_134 : decode cX8_readAtom 134 = .ok (.getfield 148, 3) := dz_180 (k_X8_readAtom 2 6 rfl) (k_X8_readAtom 2 7 rfl) (k_X8_readAtom 2 8 rfl) rfl
theorem dX8_readAtom_137 : decode cX8_readAtom 137 = .ok (.aload_n 0, 1) := dz_42 (k_X8_readAtom 2 9 rfl)
theorem dX8_readAtom_138 : decode cX8_readAtom 138 = .ok (.getfield 158, 3) := dz_180 (k_X8_readAtom 2 10 rfl) (k_X8_readAtom 2 11 rfl) (k_X8_readAtom 2 12 rfl) rfl
theorem dX8_readAtom_141 : decode cX8_readAtom 141 = .ok (.isub, 1) := dz_100 (k_X8_readAtom 2 13 rfl)
theorem dX8_readAtom_142 : decode cX8_readAtom 142 = .ok (.iconst 1, 1) := dz_4 (k_X8_readAtom 2 14 rfl)
theorem dX8_readAtom_143 : decode cX8_readAtom 143 = .ok (.if_icmp .gt 14, 3) := dz_163 (k_X8_readAtom 2 15 rfl) (k_X8_readAtom 2 16 rfl) (k_X8_readAtom 2 17 rfl) rfl
theorem dX8_readAtom_146 : decode cX8_readAtom 146 = .ok (.aload_n 0, 1) := dz_42 (k_X8_readAtom 2 18 rfl)
theorem dX8_readAtom_147 : decode cX8_readAtom 147 = .ok (.bipush 48, 2) := dz_16 (k_X8_readAtom 2 19 rfl) (k_X8_readAtom 2 20 rfl) rfl
theorem dX8_readAtom_149 : decode cX8_readAtom 149 = .ok (.bipush 57, 2) := dz_16 (k_X8_readAtom 2 21 rfl) (k_X8_readAtom 2 22 rfl) rfl
theorem dX8_readAtom_151 : decode cX8_readAtom 151 = .ok (.invokevirtual 154, 3) := dz_182 (k_X8_readAtom 2 23 rfl) (k_X8_readAtom 2 24 rfl) (k_X8_readAtom 2 25 rfl) rfl
theorem dX8_readAtom_154 : decode cX8_readAtom 154 = .ok (.ifCond .ne 5, 3) := dz_154 (k_X8_readAtom 2 26 rfl) (k_X8_readAtom 2 27 rfl) (k_X8_readAtom 2 28 rfl) rfl
theorem dX8_readAtom_157 : decode cX8_readAtom 157 = .ok (.iconst 0, 1) := dz_3 (k_X8_readAtom 2 29 rfl)
theorem dX8_readAtom_158 : decode cX8_readAtom 158 = .ok (.ireturn, 1) := dz_172 (k_X8_readAtom 2 30 rfl)
theorem dX8_readAtom_159 : decode cX8_readAtom 159 = .ok (.aload_n 0, 1) := dz_42 (k_X8_readAtom 2 31 rfl)
theorem dX8_readAtom_160 : decode cX8_readAtom 160 = .ok (.getfield 26, 3) := dz_180 (k_X8_readAtom 2 32 rfl) (k_X8_readAtom 2 33 rfl) (k_X8_readAtom 2 34 rfl) rfl
theorem dX8_readAtom_163 : decode cX8_readAtom 163 = .ok (.aload_n 0, 1) := dz_42 (k_X8_readAtom 2 35 rfl)
theorem dX8_readAtom_164 : decode cX8_readAtom 164 = .ok (.getfield 148, 3) := dz_180 (k_X8_readAtom 2 36 rfl) (k_X8_readAtom 2 37 rfl) (k_X8_readAtom 2 38 rfl) rfl
theorem dX8_readAtom_167 : decode cX8_readAtom 167 = .ok (.baload, 1) := dz_51 (k_X8_readAtom 2 39 rfl)
theorem dX8_readAtom_168 : decode cX8_readAtom 168 = .ok (.bipush 48, 2) := dz_16 (k_X8_readAtom 2 40 rfl) (k_X8_readAtom 2 41 rfl) rfl
theorem dX8_readAtom_170 : decode cX8_readAtom 170 = .ok (.isub, 1) := dz_100 (k_X8_readAtom 2 42 rfl)
theorem dX8_readAtom_171 : decode cX8_readAtom 171 = .ok (.istore_n 2, 1) := dz_61 (k_X8_readAtom 2 43 rfl)
theorem dX8_readAtom_172 : decode cX8_readAtom 172 = .ok (.aload_n 0, 1) := dz_42 (k_X8_readAtom 2 44 rfl)
theorem dX8_readAtom_173 : decode cX8_readAtom 173 = .ok (.getfield 172, 3) := dz_180 (k_X8_readAtom 2 45 rfl) (k_X8_readAtom 2 46 rfl) (k_X8_readAtom 2 47 rfl) rfl
theorem dX8_readAtom_176 : decode cX8_readAtom 176 = .ok (.bipush 40, 2) := dz_16 (k_X8_readAtom 2 48 rfl) (k_X8_readAtom 2 49 rfl) rfl
theorem dX8_readAtom_178 : decode cX8_readAtom 178 = .ok (.if_icmp .ne 5, 3) := dz_160 (k_X8_readAtom 2 50 rfl) (k_X8_readAtom 2 51 rfl) (k_X8_readAtom 2 52 rfl) rfl
theorem dX8_readAtom_181 : decode cX8_readAtom 181 = .ok (.iconst 0, 1) := dz_3 (k_X8_readAtom 2 53 rfl)
theorem dX8_readAtom_182 : decode cX8_readAtom 182 = .ok (.ireturn, 1) := dz_172 (k_X8_readAtom 2 54 rfl)
theorem dX8_readAtom_183 : decode cX8_readAtom 183 = .ok (.iload_n 2, 1) := dz_28 (k_X8_readAtom 2 55 rfl)
theorem dX8_readAtom_184 : decode cX8_readAtom 184 = .ok (.aload_n 0, 1) := dz_42 (k_X8_readAtom 2 56 rfl)
theorem dX8_readAtom_185 : decode cX8_readAtom 185 = .ok (.invokevirtual 138, 3) := dz_182 (k_X8_readAtom 2 57 rfl) (k_X8_readAtom 2 58 rfl) (k_X8_readAtom 2 59 rfl) rfl
theorem dX8_readAtom_188 : decode cX8_readAtom 188 = .ok (.if_icmp .lt 13, 3) := dz_161 (k_X8_readAtom 2 60 rfl) (k_X8_readAtom 2 61 rfl) (k_X8_readAtom 2 62 rfl) rfl
theorem dX8_readAtom_191 : decode cX8_readAtom 191 = .ok (.aload_n 0, 1) := dz_42 (k_X8_readAtom 2 63 rfl)
theorem dX8_readAtom_192 : decode cX8_readAtom 192 = .ok (.aload_n 0, 1) := dz_42 (k_X8_readAtom 3 0 rfl)
theorem dX8_readAtom_193 : decode cX8_readAtom 193 = .ok (.getfield 148, 3) := dz_180 (k_X8_readAtom 3 1 rfl) (k_X8_readAtom 3 2 rfl) (k_X8_readAtom 3 3 rfl) rfl
theorem dX8_readAtom_196 : decode cX8_readAtom 196 = .ok (.putfield 158, 3) := dz_181 (k_X8_readAtom 3 4 rfl) (k_X8_readAtom 3 5 rfl) (k_X8_readAtom 3 6 rfl) rfl
theorem dX8_readAtom_199 : decode cX8_readAtom 199 = .ok (.iconst 0, 1) := dz_3 (k_X8_readAtom 3 7 rfl)
theorem dX8_readAtom_200 : decode cX8_readAtom 200 = .ok (.ireturn, 1) := dz_172 (k_X8_readAtom 3 8 rfl)
theorem dX8_readAtom_201 : decode cX8_readAtom 201 = .ok (.aload_n 0, 1) := dz_42 (k_X8_readAtom 3 9 rfl)
theorem dX8_readAtom_202 : decode cX8_readAtom 202 = .ok (.dup, 1) := dz_89 (k_X8_readAtom 3 10 rfl)
theorem dX8_readAtom_203 : decode cX8_readAtom 203 = .ok (.getfield 148, 3) := dz_180 (k_X8_readAtom 3 11 rfl) (k_X8_readAtom 3 12 rfl) (k_X8_readAtom 3 13 rfl) rfl
theorem dX8_readAtom_206 : decode cX8_readAtom 206 = .ok (.iconst 1, 1) := dz_4 (k_X8_readAtom 3 14 rfl)
theorem dX8_readAtom_207 : decode cX8_readAtom 207 = .ok (.iadd, 1) := dz_96 (k_X8_readAtom 3 15 rfl)
theorem dX8_readAtom_208 : decode cX8_readAtom 208 = .ok (.putfield 148, 3) := dz_181 (k_X8_readAtom 3 16 rfl) (k_X8_readAtom 3 17 rfl) (k_X8_readAtom 3 18 rfl) rfl
theorem dX8_readAtom_211 : decode cX8_readAtom 211 = .ok (.aload_n 0, 1) := dz_42 (k_X8_readAtom 3 19 rfl)
theorem dX8_readAtom_212 : decode cX8_readAtom 212 = .ok (.iload_n 1, 1) := dz_27 (k_X8_readAtom 3 20 rfl)
theorem dX8_readAtom_213 : decode cX8_readAtom 213 = .ok (.bipush 102, 2) := dz_16 (k_X8_readAtom 3 21 rfl) (k_X8_readAtom 3 22 rfl) rfl
theorem dX8_readAtom_215 : decode cX8_readAtom 215 = .ok (.if_icmp .ne 8, 3) := dz_160 (k_X8_readAtom 3 23 rfl) (k_X8_readAtom 3 24 rfl) (k_X8_readAtom 3 25 rfl) rfl
theorem dX8_readAtom_218 : decode cX8_readAtom 218 = .ok (.bipush 6, 2) := dz_16 (k_X8_readAtom 3 26 rfl) (k_X8_readAtom 3 27 rfl) rfl
theorem dX8_readAtom_220 : decode cX8_readAtom 220 = .ok (.goto 5, 3) := dz_167 (k_X8_readAtom 3 28 rfl) (k_X8_readAtom 3 29 rfl) (k_X8_readAtom 3 30 rfl) rfl
theorem dX8_readAtom_223 : decode cX8_readAtom 223 = .ok (.bipush 9, 2) := dz_16 (k_X8_readAtom 3 31 rfl) (k_X8_readAtom 3 32 rfl) rfl
theorem dX8_readAtom_225 : decode cX8_readAtom 225 = .ok (.iload_n 2, 1) := dz_28 (k_X8_readAtom 3 33 rfl)
theorem dX8_readAtom_226 : decode cX8_readAtom 226 = .ok (.iadd, 1) := dz_96 (k_X8_readAtom 3 34 rfl)
theorem dX8_readAtom_227 : decode cX8_readAtom 227 = .ok (.invokevirtual 182, 3) := dz_182 (k_X8_readAtom 3 35 rfl) (k_X8_readAtom 3 36 rfl) (k_X8_readAtom 3 37 rfl) rfl
theorem dX8_readAtom_230 : decode cX8_readAtom 230 = .ok (.ireturn, 1) := dz_172 (k_X8_readAtom 3 38 rfl)
def B_X8_readFormula : List (List Nat) := [[42, 180, 0, 20, 16, 70, 46, 60, 42, 182, 0, 221, 154, 0, 5, 3, 172, 42, 16, 62, 182, 0, 188, 154, 0, 5, 4, 172, 42, 182, 0, 191, 153, 0, 17, 42, 182, 0, 175, 153, 0, 10, 42, 182, 0, 197, 154, 0, 5, 3, 172, 42, 89, 180, 0, 179, 4, 100, 181, 0, 179, 42, 27, 16], [15, 182, 0, 214, 4, 172]]
theorem k_X8_readFormula (j i : Nat) {b : Nat} (h : (B_X8_readFormula[j]?.bind fun c => c[i]?) = some b) : s_by cX8_readFormula (64 * j + i) b := s_byC (L := B_X8_readFormula) (by decide +kernel) (by decide +kernel) j i h
theorem dX8_readFormula_0 : decode cX8_readFormula 0 = .ok (.aload_n 0, 1) := dz_42 (k_X8_readFormula 0 0 rfl)
theorem dX8_readFormula_1 : decode cX8_readFormula 1 = .ok (.getfield 20, 3) := dz_180 (k_X8_readFormula 0 1 rfl) (k_X8_readFormula 0 2 rfl) (k_X8_readFormula 0 3 rfl) rfl
theorem dX8_readFormula_4 : decode cX8_readFormula 4 = .ok (.bipush 70, 2) := dz_16 (k_X8_readFormula 0 4 rfl) (k_X8_readFormula 0 5 rfl) rfl
theorem dX8_readFormula_6 : decode cX8_readFormula 6 = .ok (.iaload, 1) := dz_46 (k_X8_readFormula 0 6 rfl)
theorem dX8_readFormula_7 : decode cX8_readFormula 7 = .ok (.istore_n 1, 1) := dz_60 (k_X8_readFormula 0 7 rfl)
theorem dX8_readFormula_8 : decode cX8_readFormula 8 = .ok (.aload_n 0, 1) := dz_42 (k_X8_readFormula 0 8 rfl)
theorem dX8_readFormula_9 : decode cX8_readFormula 9 = .ok (.invokevirtual 221, 3) := dz_182 (k_X8_readFormula 0 9 rfl) (k_X8_readFormula 0 10 rfl) (k_X8_readFormula 0 11 rfl) rfl
theorem dX8_readFormula_12 : decode cX8_readFormula 12 = .ok (.ifCond .ne 5, 3) := dz_154 (k_X8_readFormula 0 12 rfl) (k_X8_readFormula 0 13 rfl) (k_X8_readFormula 0 14 rfl) rfl
theorem dX8_readFormula_15 : decode cX8_readFormula 15 = .ok (.iconst 0, 1) := dz_3 (k_X8_readFormula 0 15 rfl)
theorem dX8_readFormula_16 : decode cX8_readFormula 16 = .ok (.ireturn, 1) := dz_172 (k_X8_readFormula 0 16 rfl)
theorem dX8_readFormula_17 : decode cX8_readFormula 17 = .ok (.aload_n 0, 1) := dz_42 (k_X8_readFormula 0 17 rfl)
theorem dX8_readFormula_18 : decode cX8_readFormula 18 = .ok (.bipush 62, 2) := dz_16 (k_X8_readFormula 0 18 rfl) (k_X8_readFormula 0 19 rfl) rfl
theorem dX8_readFormula_20 : decode cX8_readFormula 20 = .ok (.invokevirtual 188, 3) := dz_182 (k_X8_readFormula 0 20 rfl) (k_X8_readFormula 0 21 rfl) (k_X8_readFormula 0 22 rfl) rfl
theorem dX8_readFormula_23 : decode cX8_readFormula 23 = .ok (.ifCond .ne 5, 3) := dz_154 (k_X8_readFormula 0 23 rfl) (k_X8_readFormula 0 24 rfl) (k_X8_readFormula 0 25 rfl) rfl
theorem dX8_readFormula_26 : decode cX8_readFormula 26 = .ok (.iconst 1, 1) := dz_4 (k_X8_readFormula 0 26 rfl)
theorem dX8_readFormula_27 : decode cX8_readFormula 27 = .ok (.ireturn, 1) := dz_172 (k_X8_readFormula 0 27 rfl)
theorem dX8_readFormula_28 : decode cX8_readFormula 28 = .ok (.aload_n 0, 1) := dz_42 (k_X8_readFormula 0 28 rfl)
theorem dX8_readFormula_29 : decode cX8_readFormula 29 = .ok (.invokevirtual 191, 3) := dz_182 (k_X8_readFormula 0 29 rfl) (k_X8_readFormula 0 30 rfl) (k_X8_readFormula 0 31 rfl) rfl
theorem dX8_readFormula_32 : decode cX8_readFormula 32 = .ok (.ifCond .eq 17, 3) := dz_153 (k_X8_readFormula 0 32 rfl) (k_X8_readFormula 0 33 rfl) (k_X8_readFormula 0 34 rfl) rfl
theorem dX8_readFormula_35 : decode cX8_readFormula 35 = .ok (.aload_n 0, 1) := dz_42 (k_X8_readFormula 0 35 rfl)
theorem dX8_readFormula_36 : decode cX8_readFormula 36 = .ok (.invokevirtual 175, 3) := dz_182 (k_X8_readFormula 0 36 rfl) (k_X8_readFormula 0 37 rfl) (k_X8_readFormula 0 38 rfl) rfl
theorem dX8_readFormula_39 : decode cX8_readFormula 39 = .ok (.ifCond .eq 10, 3) := dz_153 (k_X8_readFormula 0 39 rfl) (k_X8_readFormula 0 40 rfl) (k_X8_readFormula 0 41 rfl) rfl
theorem dX8_readFormula_42 : decode cX8_readFormula 42 = .ok (.aload_n 0, 1) := dz_42 (k_X8_readFormula 0 42 rfl)
theorem dX8_readFormula_43 : decode cX8_readFormula 43 = .ok (.invokevirtual 197, 3) := dz_182 (k_X8_readFormula 0 43 rfl) (k_X8_readFormula 0 44 rfl) (k_X8_readFormula 0 45 rfl) rfl
theorem dX8_readFormula_46 : decode cX8_readFormula 46 = .ok (.ifCond .ne 5, 3) := dz_154 (k_X8_readFormula 0 46 rfl) (k_X8_readFormula 0 47 rfl) (k_X8_readFormula 0 48 rfl) rfl
theorem dX8_readFormula_49 : decode cX8_readFormula 49 = .ok (.iconst 0, 1) := dz_3 (k_X8_readFormula 0 49 rfl)
theorem dX8_readFormula_50 : decode cX8_readFormula 50 = .ok (.ireturn, 1) := dz_172 (k_X8_readFormula 0 50 rfl)
theorem dX8_readFormula_51 : decode cX8_readFormula 51 = .ok (.aload_n 0, 1) := dz_42 (k_X8_readFormula 0 51 rfl)
theorem dX8_readFormula_52 : decode cX8_readFormula 52 = .ok (.dup, 1) := dz_89 (k_X8_readFormula 0 52 rfl)
theorem dX8_readFormula_53 : decode cX8_readFormula 53 = .ok (.getfield 179, 3) := dz_180 (k_X8_readFormula 0 53 rfl) (k_X8_readFormula 0 54 rfl) (k_X8_readFormula 0 55 rfl) rfl
theorem dX8_readFormula_56 : decode cX8_readFormula 56 = .ok (.iconst 1, 1) := dz_4 (k_X8_readFormula 0 56 rfl)
theorem dX8_readFormula_57 : decode cX8_readFormula 57 = .ok (.isub, 1) := dz_100 (k_X8_readFormula 0 57 rfl)
theorem dX8_readFormula_58 : decode cX8_readFormula 58 = .ok (.putfield 179, 3) := dz_181 (k_X8_readFormula 0 58 rfl) (k_X8_readFormula 0 59 rfl) (k_X8_readFormula 0 60 rfl) rfl
theorem dX8_readFormula_61 : decode cX8_readFormula 61 = .ok (.aload_n 0, 1) := dz_42 (k_X8_readFormula 0 61 rfl)
theorem dX8_readFormula_62 : decode cX8_readFormula 62 = .ok (.iload_n 1, 1) := dz_27 (k_X8_readFormula 0 62 rfl)
theorem dX8_readFormula_63 : decode cX8_readFormula 63 = .ok (.bipush 15, 2) := dz_16 (k_X8_readFormula 0 63 rfl) (k_X8_readFormula 1 0 rfl) rfl
theorem dX8_readFormula_65 : decode cX8_readFormula 65 = .ok (.invokevirtual 214, 3) := dz_182 (k_X8_readFormula 1 1 rfl) (k_X8_readFormula 1 2 rfl) (k_X8_readFormula 1 3 rfl) rfl
theorem dX8_readFormula_68 : decode cX8_readFormula 68 = .ok (.iconst 1, 1) := dz_4 (k_X8_readFormula 1 4 rfl)
theorem dX8_readFormula_69 : decode cX8_readFormula 69 = .ok (.ireturn, 1) := dz_172 (k_X8_readFormula 1 5 rfl)
def B_X8_readOr : List (List Nat) := [[42, 180, 0, 20, 16, 70, 46, 60, 42, 182, 0, 218, 154, 0, 5, 3, 172, 42, 16, 124, 182, 0, 188, 153, 0, 29, 42, 182, 0, 175, 153, 0, 10, 42, 182, 0, 218, 154, 0, 5, 3, 172, 42, 27, 16, 14, 182, 0, 214, 167, 255, 224, 4, 172]]
theorem k_X8_readOr (j i : Nat) {b : Nat} (h : (B_X8_readOr[j]?.bind fun c => c[i]?) = some b) : s_by cX8_readOr (64 * j + i) b := s_byC (L := B_X8_readOr) (by decide +kernel) (by decide +kernel) j i h
theorem dX8_readOr_0 : decode cX8_readOr 0 = .ok (.aload_n 0, 1) := dz_42 (k_X8_readOr 0 0 rfl)
theorem dX8_readOr_1 : decode cX8_readOr 1 = .ok (.getfield 20, 3) := dz_180 (k_X8_readOr 0 1 rfl) (k_X8_readOr 0 2 rfl) (k_X8_readOr 0 3 rfl) rfl
theorem dX8_readOr_4 : decode cX8_readOr 4 = .ok (.bipush 70, 2) := dz_16 (k_X8_readOr 0 4 rfl) (k_X8_readOr 0 5 rfl) rfl
theorem dX8_readOr_6 : decode cX8_readOr 6 = .ok (.iaload, 1) := dz_46 (k_X8_readOr 0 6 rfl)
theorem dX8_readOr_7 : decode cX8_readOr 7 = .ok (.istore_n 1, 1) := dz_60 (k_X8_readOr 0 7 rfl)
theorem dX8_readOr_8 : decode cX8_readOr 8 = .ok (.aload_n 0, 1) := dz_42 (k_X8_readOr 0 8 rfl)
theorem dX8_readOr_9 : decode cX8_readOr 9 = .ok (.invokevirtual 218, 3) := dz_182 (k_X8_readOr 0 9 rfl) (k_X8_readOr 0 10 rfl) (k_X8_readOr 0 11 rfl) rfl
theorem dX8_readOr_12 : decode cX8_readOr 12 = .ok (.ifCond .ne 5, 3) := dz_154 (k_X8_readOr 0 12 rfl) (k_X8_readOr 0 13 rfl) (k_X8_readOr 0 14 rfl) rfl
theorem dX8_readOr_15 : decode cX8_readOr 15 = .ok (.iconst 0, 1) := dz_3 (k_X8_readOr 0 15 rfl)
theorem dX8_readOr_16 : decode cX8_readOr 16 = .ok (.ireturn, 1) := dz_172 (k_X8_readOr 0 16 rfl)
theorem dX8_readOr_17 : decode cX8_readOr 17 = .ok (.aload_n 0, 1) := dz_42 (k_X8_readOr 0 17 rfl)
theorem dX8_readOr_18 : decode cX8_readOr 18 = .ok (.bipush 124, 2) := dz_16 (k_X8_readOr 0 18 rfl) (k_X8_readOr 0 19 rfl) rfl
theorem dX8_readOr_20 : decode cX8_readOr 20 = .ok (.invokevirtual 188, 3) := dz_182 (k_X8_readOr 0 20 rfl) (k_X8_readOr 0 21 rfl) (k_X8_readOr 0 22 rfl) rfl
theorem dX8_readOr_23 : decode cX8_readOr 23 = .ok (.ifCond .eq 29, 3) := dz_153 (k_X8_readOr 0 23 rfl) (k_X8_readOr 0 24 rfl) (k_X8_readOr 0 25 rfl) rfl
theorem dX8_readOr_26 : decode cX8_readOr 26 = .ok (.aload_n 0, 1) := dz_42 (k_X8_readOr 0 26 rfl)
theorem dX8_readOr_27 : decode cX8_readOr 27 = .ok (.invokevirtual 175, 3) := dz_182 (k_X8_readOr 0 27 rfl) (k_X8_readOr 0 28 rfl) (k_X8_readOr 0 29 rfl) rfl
theorem dX8_readOr_30 : decode cX8_readOr 30 = .ok (.ifCond .eq 10, 3) := dz_153 (k_X8_readOr 0 30 rfl) (k_X8_readOr 0 31 rfl) (k_X8_readOr 0 32 rfl) rfl
theorem dX8_readOr_33 : decode cX8_readOr 33 = .ok (.aload_n 0, 1) := dz_42 (k_X8_readOr 0 33 rfl)
theorem dX8_readOr_34 : decode cX8_readOr 34 = .ok (.invokevirtual 218, 3) := dz_182 (k_X8_readOr 0 34 rfl) (k_X8_readOr 0 35 rfl) (k_X8_readOr 0 36 rfl) rfl
theorem dX8_readOr_37 : decode cX8_readOr 37 = .ok (.ifCond .ne 5, 3) := dz_154 (k_X8_readOr 0 37 rfl) (k_X8_readOr 0 38 rfl) (k_X8_readOr 0 39 rfl) rfl
theorem dX8_readOr_40 : decode cX8_readOr 40 = .ok (.iconst 0, 1) := dz_3 (k_X8_readOr 0 40 rfl)
theorem dX8_readOr_41 : decode cX8_readOr 41 = .ok (.ireturn, 1) := dz_172 (k_X8_readOr 0 41 rfl)
theorem dX8_readOr_42 : decode cX8_readOr 42 = .ok (.aload_n 0, 1) := dz_42 (k_X8_readOr 0 42 rfl)
theorem dX8_readOr_43 : decode cX8_readOr 43 = .ok (.iload_n 1, 1) := dz_27 (k_X8_readOr 0 43 rfl)
theorem dX8_readOr_44 : decode cX8_readOr 44 = .ok (.bipush 14, 2) := dz_16 (k_X8_readOr 0 44 rfl) (k_X8_readOr 0 45 rfl) rfl
theorem dX8_readOr_46 : decode cX8_readOr 46 = .ok (.invokevirtual 214, 3) := dz_182 (k_X8_readOr 0 46 rfl) (k_X8_readOr 0 47 rfl) (k_X8_readOr 0 48 rfl) rfl
theorem dX8_readOr_49 : decode cX8_readOr 49 = .ok (.goto (-32), 3) := dz_167 (k_X8_readOr 0 49 rfl) (k_X8_readOr 0 50 rfl) (k_X8_readOr 0 51 rfl) rfl
theorem dX8_readOr_52 : decode cX8_readOr 52 = .ok (.iconst 1, 1) := dz_4 (k_X8_readOr 0 52 rfl)
theorem dX8_readOr_53 : decode cX8_readOr 53 = .ok (.ireturn, 1) := dz_172 (k_X8_readOr 0 53 rfl)
def B_X8_readUnit : List (List Nat) := [[42, 16, 45, 182, 0, 188, 153, 0, 40, 42, 182, 0, 191, 153, 0, 19, 42, 16, 12, 182, 0, 182, 153, 0, 10, 42, 182, 0, 194, 154, 0, 5, 3, 172, 42, 89, 180, 0, 179, 4, 100, 181, 0, 179, 4, 172, 42, 16, 40, 182, 0, 188, 153, 0, 36, 42, 182, 0, 191, 153, 0, 10, 42, 182], [0, 197, 154, 0, 5, 3, 172, 42, 89, 180, 0, 179, 4, 100, 181, 0, 179, 42, 16, 41, 182, 0, 188, 172, 42, 182, 0, 200, 42, 18, 203, 182, 0, 205, 60, 27, 154, 0, 17, 42, 18, 209, 182, 0, 205, 154, 0, 8, 42, 182, 0, 211, 172, 42, 180, 0, 185, 154, 0, 28, 42, 182, 0, 191], [153, 0, 21, 42, 27, 153, 0, 8, 16, 16, 167, 0, 5, 16, 17, 182, 0, 182, 154, 0, 5, 3, 172, 42, 4, 181, 0, 185, 42, 182, 0, 194, 154, 0, 5, 3, 172, 42, 3, 181, 0, 185, 42, 89, 180, 0, 179, 4, 100, 181, 0, 179, 4, 172]]
theorem k_X8_readUnit (j i : Nat) {b : Nat} (h : (B_X8_readUnit[j]?.bind fun c => c[i]?) = some b) : s_by cX8_readUnit (64 * j + i) b := s_byC (L := B_X8_readUnit) (by decide +kernel) (by decide +kernel) j i h
theorem dX8_readUnit_0 : decode cX8_readUnit 0 = .ok (.aload_n 0, 1) := dz_42 (k_X8_readUnit 0 0 rfl)
theorem dX8_readUnit_1 : decode cX8_readUnit 1 = .ok (.bipush 45, 2) := dz_16 (k_X8_readUnit 0 1 rfl) (k_X8_readUnit 0 2 rfl) rfl
theorem dX8_readUnit_3 : decode cX8_readUnit 3 = .ok (.invokevirtual 188, 3) := dz_182 (k_X8_readUnit 0 3 rfl) (k_X8_readUnit 0 4 rfl) (k_X8_readUnit 0 5 rfl) rfl
theorem dX8_readUnit_6 : decode cX8_readUnit 6 = .ok (.ifCond .eq 40, 3) := dz_153 (k_X8_readUnit 0 6 rfl) (k_X8_readUnit 0 7 rfl) (k_X8_readUnit 0 8 rfl) rfl
theorem dX8_readUnit_9 : decode cX8_readUnit 9 = .ok (.aload_n 0, 1) := dz_42 (k_X8_readUnit 0 9 rfl)
theorem dX8_readUnit_10 : decode cX8_readUnit 10 = .ok (.invokevirtual 191, 3) := dz_182 (k_X8_readUnit 0 10 rfl) (k_X8_readUnit 0 11 rfl) (k_X8_readUnit 0 12 rfl) rfl
theorem dX8_readUnit_13 : decode cX8_readUnit 13 = .ok (.ifCond .eq 19, 3) := dz_153 (k_X8_readUnit 0 13 rfl) (k_X8_readUnit 0 14 rfl) (k_X8_readUnit 0 15 rfl) rfl
theorem dX8_readUnit_16 : decode cX8_readUnit 16 = .ok (.aload_n 0, 1) := dz_42 (k_X8_readUnit 0 16 rfl)
theorem dX8_readUnit_17 : decode cX8_readUnit 17 = .ok (.bipush 12, 2) := dz_16 (k_X8_readUnit 0 17 rfl) (k_X8_readUnit 0 18 rfl) rfl
theorem dX8_readUnit_19 : decode cX8_readUnit 19 = .ok (.invokevirtual 182, 3) := dz_182 (k_X8_readUnit 0 19 rfl) (k_X8_readUnit 0 20 rfl) (k_X8_readUnit 0 21 rfl) rfl
theorem dX8_readUnit_22 : decode cX8_readUnit 22 = .ok (.ifCond .eq 10, 3) := dz_153 (k_X8_readUnit 0 22 rfl) (k_X8_readUnit 0 23 rfl) (k_X8_readUnit 0 24 rfl) rfl
theorem dX8_readUnit_25 : decode cX8_readUnit 25 = .ok (.aload_n 0, 1) := dz_42 (k_X8_readUnit 0 25 rfl)
theorem dX8_readUnit_26 : decode cX8_readUnit 26 = .ok (.invokevirtual 194, 3) := dz_182 (k_X8_readUnit 0 26 rfl) (k_X8_readUnit 0 27 rfl) (k_X8_readUnit 0 28 rfl) rfl
theorem dX8_readUnit_29 : decode cX8_readUnit 29 = .ok (.ifCond .ne 5, 3) := dz_154 (k_X8_readUnit 0 29 rfl) (k_X8_readUnit 0 30 rfl) (k_X8_readUnit 0 31 rfl) rfl
theorem dX8_readUnit_32 : decode cX8_readUnit 32 = .ok (.iconst 0, 1) := dz_3 (k_X8_readUnit 0 32 rfl)
theorem dX8_readUnit_33 : decode cX8_readUnit 33 = .ok (.ireturn, 1) := dz_172 (k_X8_readUnit 0 33 rfl)
theorem dX8_readUnit_34 : decode cX8_readUnit 34 = .ok (.aload_n 0, 1) := dz_42 (k_X8_readUnit 0 34 rfl)
theorem dX8_readUnit_35 : decode cX8_readUnit 35 = .ok (.dup, 1) := dz_89 (k_X8_readUnit 0 35 rfl)
theorem dX8_readUnit_36 : decode cX8_readUnit 36 = .ok (.getfield 179, 3) := dz_180 (k_X8_readUnit 0 36 rfl) (k_X8_readUnit 0 37 rfl) (k_X8_readUnit 0 38 rfl) rfl
theorem dX8_readUnit_39 : decode cX8_readUnit 39 = .ok (.iconst 1, 1) := dz_4 (k_X8_readUnit 0 39 rfl)
theorem dX8_readUnit_40 : decode cX8_readUnit 40 = .ok (.isub, 1) := dz_100 (k_X8_readUnit 0 40 rfl)
theorem dX8_readUnit_41 : decode cX8_readUnit 41 = .ok (.putfield 179, 3) := dz_181 (k_X8_readUnit 0 41 rfl) (k_X8_readUnit 0 42 rfl) (k_X8_readUnit 0 43 rfl) rfl
theorem dX8_readUnit_44 : decode cX8_readUnit 44 = .ok (.iconst 1, 1) := dz_4 (k_X8_readUnit 0 44 rfl)
theorem dX8_readUnit_45 : decode cX8_readUnit 45 = .ok (.ireturn, 1) := dz_172 (k_X8_readUnit 0 45 rfl)
theorem dX8_readUnit_46 : decode cX8_readUnit 46 = .ok (.aload_n 0, 1) := dz_42 (k_X8_readUnit 0 46 rfl)
theorem dX8_readUnit_47 : decode cX8_readUnit 47 = .ok (.bipush 40, 2) := dz_16 (k_X8_readUnit 0 47 rfl) (k_X8_readUnit 0 48 rfl) rfl
theorem dX8_readUnit_49 : decode cX8_readUnit 49 = .ok (.invokevirtual 188, 3) := dz_182 (k_X8_readUnit 0 49 rfl) (k_X8_readUnit 0 50 rfl) (k_X8_readUnit 0 51 rfl) rfl
theorem dX8_readUnit_52 : decode cX8_readUnit 52 = .ok (.ifCond .eq 36, 3) := dz_153 (k_X8_readUnit 0 52 rfl) (k_X8_readUnit 0 53 rfl) (k_X8_readUnit 0 54 rfl) rfl
theorem dX8_readUnit_55 : decode cX8_readUnit 55 = .ok (.aload_n 0, 1) := dz_42 (k_X8_readUnit 0 55 rfl)
theorem dX8_readUnit_56 : decode cX8_readUnit 56 = .ok (.invokevirtual 191, 3) := dz_182 (k_X8_readUnit 0 56 rfl) (k_X8_readUnit 0 57 rfl) (k_X8_readUnit 0 58 rfl) rfl
theorem dX8_readUnit_59 : decode cX8_readUnit 59 = .ok (.ifCond .eq 10, 3) := dz_153 (k_X8_readUnit 0 59 rfl) (k_X8_readUnit 0 60 rfl) (k_X8_readUnit 0 61 rfl) rfl
theorem dX8_readUnit_62 : decode cX8_readUnit 62 = .ok (.aload_n 0, 1) := dz_42 (k_X8_readUnit 0 62 rfl)
theorem dX8_readUnit_63 : decode cX8_readUnit 63 = .ok (.invokevirtual 197, 3) := dz_182 (k_X8_readUnit 0 63 rfl) (k_X8_readUnit 1 0 rfl) (k_X8_readUnit 1 1 rfl) rfl
theorem dX8_readUnit_66 : decode cX8_readUnit 66 = .ok (.ifCond .ne 5, 3) := dz_154 (k_X8_readUnit 1 2 rfl) (k_X8_readUnit 1 3 rfl) (k_X8_readUnit 1 4 rfl) rfl
theorem dX8_readUnit_69 : decode cX8_readUnit 69 = .ok (.iconst 0, 1) := dz_3 (k_X8_readUnit 1 5 rfl)
theorem dX8_readUnit_70 : decode cX8_readUnit 70 = .ok (.ireturn, 1) := dz_172 (k_X8_readUnit 1 6 rfl)
theorem dX8_readUnit_71 : decode cX8_readUnit 71 = .ok (.aload_n 0, 1) := dz_42 (k_X8_readUnit 1 7 rfl)
theorem dX8_readUnit_72 : decode cX8_readUnit 72 = .ok (.dup, 1) := dz_89 (k_X8_readUnit 1 8 rfl)
theorem dX8_readUnit_73 : decode cX8_readUnit 73 = .ok (.getfield 179, 3) := dz_180 (k_X8_readUnit 1 9 rfl) (k_X8_readUnit 1 10 rfl) (k_X8_readUnit 1 11 rfl) rfl
theorem dX8_readUnit_76 : decode cX8_readUnit 76 = .ok (.iconst 1, 1) := dz_4 (k_X8_readUnit 1 12 rfl)
theorem dX8_readUnit_77 : decode cX8_readUnit 77 = .ok (.isub, 1) := dz_100 (k_X8_readUnit 1 13 rfl)
theorem dX8_readUnit_78 : decode cX8_readUnit 78 = .ok (.putfield 179, 3) := dz_181 (k_X8_readUnit 1 14 rfl) (k_X8_readUnit 1 15 rfl) (k_X8_readUnit 1 16 rfl) rfl
theorem dX8_readUnit_81 : decode cX8_readUnit 81 = .ok (.aload_n 0, 1) := dz_42 (k_X8_readUnit 1 17 rfl)
theorem dX8_readUnit_82 : decode cX8_readUnit 82 = .ok (.bipush 41, 2) := dz_16 (k_X8_readUnit 1 18 rfl) (k_X8_readUnit 1 19 rfl) rfl
theorem dX8_readUnit_84 : decode cX8_readUnit 84 = .ok (.invokevirtual 188, 3) := dz_182 (k_X8_readUnit 1 20 rfl) (k_X8_readUnit 1 21 rfl) (k_X8_readUnit 1 22 rfl) rfl
theorem dX8_readUnit_87 : decode cX8_readUnit 87 = .ok (.ireturn, 1) := dz_172 (k_X8_readUnit 1 23 rfl)
theorem dX8_readUnit_88 : decode cX8_readUnit 88 = .ok (.aload_n 0, 1) := dz_42 (k_X8_readUnit 1 24 rfl)
theorem dX8_readUnit_89 : decode cX8_readUnit 89 = .ok (.invokevirtual 200, 3) := dz_182 (k_X8_readUnit 1 25 rfl) (k_X8_readUnit 1 26 rfl) (k_X8_readUnit 1 27 rfl) rfl
theorem dX8_readUnit_92 : decode cX8_readUnit 92 = .ok (.aload_n 0, 1) := dz_42 (k_X8_readUnit 1 28 rfl)
theorem dX8_readUnit_93 : decode cX8_readUnit 93 = .ok (.ldc 203, 2) := dz_18 (k_X8_readUnit 1 29 rfl) (k_X8_readUnit 1 30 rfl)
theorem dX8_readUnit_95 : decode cX8_readUnit 95 = .ok (.invokevirtual 205, 3) := dz_182 (k_X8_readUnit 1 31 rfl) (k_X8_readUnit 1 32 rfl) (k_X8_readUnit 1 33 rfl) rfl
theorem dX8_readUnit_98 : decode cX8_readUnit 98 = .ok (.istore_n 1, 1) := dz_60 (k_X8_readUnit 1 34 rfl)
theorem dX8_readUnit_99 : decode cX8_readUnit 99 = .ok (.iload_n 1, 1) := dz_27 (k_X8_readUnit 1 35 rfl)
theorem dX8_readUnit_100 : decode cX8_readUnit 100 = .ok (.ifCond .ne 17, 3) := dz_154 (k_X8_readUnit 1 36 rfl) (k_X8_readUnit 1 37 rfl) (k_X8_readUnit 1 38 rfl) rfl
theorem dX8_readUnit_103 : decode cX8_readUnit 103 = .ok (.aload_n 0, 1) := dz_42 (k_X8_readUnit 1 39 rfl)
theorem dX8_readUnit_104 : decode cX8_readUnit 104 = .ok (.ldc 209, 2) := dz_18 (k_X8_readUnit 1 40 rfl) (k_X8_readUnit 1 41 rfl)
theorem dX8_readUnit_106 : decode cX8_readUnit 106 = .ok (.invokevirtual 205, 3) := dz_182 (k_X8_readUnit 1 42 rfl) (k_X8_readUnit 1 43 rfl) (k_X8_readUnit 1 44 rfl) rfl
theorem dX8_readUnit_109 : decode cX8_readUnit 109 = .ok (.ifCond .ne 8, 3) := dz_154 (k_X8_readUnit 1 45 rfl) (k_X8_readUnit 1 46 rfl) (k_X8_readUnit 1 47 rfl) rfl
theorem dX8_readUnit_112 : decode cX8_readUnit 112 = .ok (.aload_n 0, 1) := dz_42 (k_X8_readUnit 1 48 rfl)
theorem dX8_readUnit_113 : decode cX8_readUnit 113 = .ok (.invokevirtual 211, 3) := dz_182 (k_X8_readUnit 1 49 rfl) (k_X8_readUnit 1 50 rfl) (k_X8_readUnit 1 51 rfl) rfl
theorem dX8_readUnit_116 : decode cX8_readUnit 116 = .ok (.ireturn, 1) := dz_172 (k_X8_readUnit 1 52 rfl)
theorem dX8_readUnit_117 : decode cX8_readUnit 117 = .ok (.aload_n 0, 1) := dz_42 (k_X8_readUnit 1 53 rfl)
theorem dX8_readUnit_118 : decode cX8_readUnit 118 = .ok (.getfield 185, 3) := dz_180 (k_X8_readUnit 1 54 rfl) (k_X8_readUnit 1 55 rfl) (k_X8_readUnit 1 56 rfl) rfl
theorem dX8_readUnit_121 : decode cX8_readUnit 121 = .ok (.ifCond .ne 28, 3) := dz_154 (k_X8_readUnit 1 57 rfl) (k_X8_readUnit 1 58 rfl) (k_X8_readUnit 1 59 rfl) rfl
theorem dX8_readUnit_124 : decode cX8_readUnit 124 = .ok (.aload_n 0, 1) := dz_42 (k_X8_readUnit 1 60 rfl)
theorem dX8_readUnit_125 : decode cX8_readUnit 125 = .ok (.invokevirtual 191, 3) := dz_182 (k_X8_readUnit 1 61 rfl) (k_X8_readUnit 1 62 rfl) (k_X8_readUnit 1 63 rfl) rfl
theorem dX8_readUnit_128 : decode cX8_readUnit 128 = .ok (.ifCond .eq 21, 3) := dz_153 (k_X8_readUnit 2 0 rfl) (k_X8_readUnit 2 1 rfl) (k_X8_readUnit 2 2 rfl) rfl
theorem dX8_readUnit_131 : decode cX8_readUnit 131 = .ok (.aload_n 0, 1) := dz_42 (k_X8_readUnit 2 3 rfl)
theorem dX8_readUnit_132 : decode cX8_readUnit 132 = .ok (.iload_n 1, 1) := dz_27 (k_X8_readUnit 2 4 rfl)
theorem dX8_readUnit_133 : decode cX8_readUnit 133 = .ok (.ifCond .eq 8, 3) := dz_153 (k_X8_readUnit 2 5 rfl) (k_X8_readUnit 2 6 rfl) (k_X8_readUnit 2 7 rfl) rfl
theorem dX8_readUnit_136 : decode cX8_readUnit 136 = .ok (.bipush 16, 2) := dz_16 (k_X8_readUnit 2 8 rfl) (k_X8_readUnit 2 9 rfl) rfl
theorem dX8_readUnit_138 : decode cX8_readUnit 138 = .ok (.goto 5, 3) := dz_167 (k_X8_readUnit 2 10 rfl) (k_X8_readUnit 2 11 rfl) (k_X8_readUnit 2 12 rfl) rfl
theorem dX8_readUnit_141 : decode cX8_readUnit 141 = .ok (.bipush 17, 2) := dz_16 (k_X8_readUnit 2 13 rfl) (k_X8_readUnit 2 14 rfl) rfl
theorem dX8_readUnit_143 : decode cX8_readUnit 143 = .ok (.invokevirtual 182, 3) := dz_182 (k_X8_readUnit 2 15 rfl) (k_X8_readUnit 2 16 rfl) (k_X8_readUnit 2 17 rfl) rfl
theorem dX8_readUnit_146 : decode cX8_readUnit 146 = .ok (.ifCond .ne 5, 3) := dz_154 (k_X8_readUnit 2 18 rfl) (k_X8_readUnit 2 19 rfl) (k_X8_readUnit 2 20 rfl) rfl
theorem dX8_readUnit_149 : decode cX8_readUnit 149 = .ok (.iconst 0, 1) := dz_3 (k_X8_readUnit 2 21 rfl)
theorem dX8_readUnit_150 : decode cX8_readUnit 150 = .ok (.ireturn, 1) := dz_172 (k_X8_readUnit 2 22 rfl)
theorem dX8_readUnit_151 : decode cX8_readUnit 151 = .ok (.aload_n 0, 1) := dz_42 (k_X8_readUnit 2 23 rfl)
theorem dX8_readUnit_152 : decode cX8_readUnit 152 = .ok (.iconst 1, 1) := dz_4 (k_X8_readUnit 2 24 rfl)
theorem dX8_readUnit_153 : decode cX8_readUnit 153 = .ok (.putfield 185, 3) := dz_181 (k_X8_readUnit 2 25 rfl) (k_X8_readUnit 2 26 rfl) (k_X8_readUnit 2 27 rfl) rfl
theorem dX8_readUnit_156 : decode cX8_readUnit 156 = .ok (.aload_n 0, 1) := dz_42 (k_X8_readUnit 2 28 rfl)
theorem dX8_readUnit_157 : decode cX8_readUnit 157 = .ok (.invokevirtual 194, 3) := dz_182 (k_X8_readUnit 2 29 rfl) (k_X8_readUnit 2 30 rfl) (k_X8_readUnit 2 31 rfl) rfl
theorem dX8_readUnit_160 : decode cX8_readUnit 160 = .ok (.ifCond .ne 5, 3) := dz_154 (k_X8_readUnit 2 32 rfl) (k_X8_readUnit 2 33 rfl) (k_X8_readUnit 2 34 rfl) rfl
theorem dX8_readUnit_163 : decode cX8_readUnit 163 = .ok (.iconst 0, 1) := dz_3 (k_X8_readUnit 2 35 rfl)
theorem dX8_readUnit_164 : decode cX8_readUnit 164 = .ok (.ireturn, 1) := dz_172 (k_X8_readUnit 2 36 rfl)
theorem dX8_readUnit_165 : decode cX8_readUnit 165 = .ok (.aload_n 0, 1) := dz_42 (k_X8_readUnit 2 37 rfl)
theorem dX8_readUnit_166 : decode cX8_readUnit 166 = .ok (.iconst 0, 1) := dz_3 (k_X8_readUnit 2 38 rfl)
theorem dX8_readUnit_167 : decode cX8_readUnit 167 = .ok (.putfield 185, 3) := dz_181 (k_X8_readUnit 2 39 rfl) (k_X8_readUnit 2 40 rfl) (k_X8_readUnit 2 41 rfl) rfl
theorem dX8_readUnit_170 : decode cX8_readUnit 170 = .ok (.aload_n 0, 1) := dz_42 (k_X8_readUnit 2 42 rfl)
theorem dX8_readUnit_171 : decode cX8_readUnit 171 = .ok (.dup, 1) := dz_89 (k_X8_readUnit 2 43 rfl)
theorem dX8_readUnit_172 : decode cX8_readUnit 172 = .ok (.getfield 179, 3) := dz_180 (k_X8_readUnit 2 44 rfl) (k_X8_readUnit 2 45 rfl) (k_X8_readUnit 2 46 rfl) rfl
theorem dX8_readUnit_175 : decode cX8_readUnit 175 = .ok (.iconst 1, 1) := dz_4 (k_X8_readUnit 2 47 rfl)
theorem dX8_readUnit_176 : decode cX8_readUnit 176 = .ok (.isub, 1) := dz_100 (k_X8_readUnit 2 48 rfl)
theorem dX8_readUnit_177 : decode cX8_readUnit 177 = .ok (.putfield 179, 3) := dz_181 (k_X8_readUnit 2 49 rfl) (k_X8_readUnit 2 50 rfl) (k_X8_readUnit 2 51 rfl) rfl
theorem dX8_readUnit_180 : decode cX8_readUnit 180 = .ok (.iconst 1, 1) := dz_4 (k_X8_readUnit 2 52 rfl)
theorem dX8_readUnit_181 : decode cX8_readUnit 181 = .ok (.ireturn, 1) := dz_172 (k_X8_readUnit 2 53 rfl)
def B_X8_receipts : List (List Nat) := [[42, 180, 0, 13, 6, 46, 172]]
theorem k_X8_receipts (j i : Nat) {b : Nat} (h : (B_X8_receipts[j]?.bind fun c => c[i]?) = some b) : s_by cX8_receipts (64 * j + i) b := s_byC (L := B_X8_receipts) (by decide +kernel) (by decide +kernel) j i h
theorem dX8_receipts_0 : decode cX8_receipts 0 = .ok (.aload_n 0, 1) := dz_42 (k_X8_receipts 0 0 rfl)
theorem dX8_receipts_1 : decode cX8_receipts 1 = .ok (.getfield 13, 3) := dz_180 (k_X8_receipts 0 1 rfl) (k_X8_receipts 0 2 rfl) (k_X8_receipts 0 3 rfl) rfl
theorem dX8_receipts_4 : decode cX8_receipts 4 = .ok (.iconst 3, 1) := dz_6 (k_X8_receipts 0 4 rfl)
theorem dX8_receipts_5 : decode cX8_receipts 5 = .ok (.iaload, 1) := dz_46 (k_X8_receipts 0 5 rfl)
theorem dX8_receipts_6 : decode cX8_receipts 6 = .ok (.ireturn, 1) := dz_172 (k_X8_receipts 0 6 rfl)
def B_X8_refunds : List (List Nat) := [[42, 3, 181, 0, 3, 42, 27, 3, 16, 31, 184, 0, 107, 154, 0, 7, 4, 167, 0, 4, 3, 4, 182, 0, 224, 153, 0, 5, 3, 172, 42, 182, 1, 57, 3, 61, 3, 62, 29, 42, 182, 1, 175, 162, 0, 28, 28, 42, 29, 27, 182, 1, 193, 153, 0, 9, 4, 29, 120, 167, 0, 4, 3, 128], [61, 132, 3, 1, 167, 255, 226, 28, 172]]
theorem k_X8_refunds (j i : Nat) {b : Nat} (h : (B_X8_refunds[j]?.bind fun c => c[i]?) = some b) : s_by cX8_refunds (64 * j + i) b := s_byC (L := B_X8_refunds) (by decide +kernel) (by decide +kernel) j i h
theorem dX8_refunds_0 : decode cX8_refunds 0 = .ok (.aload_n 0, 1) := dz_42 (k_X8_refunds 0 0 rfl)
theorem dX8_refunds_1 : decode cX8_refunds 1 = .ok (.iconst 0, 1) := dz_3 (k_X8_refunds 0 1 rfl)
theorem dX8_refunds_2 : decode cX8_refunds 2 = .ok (.putfield 3, 3) := dz_181 (k_X8_refunds 0 2 rfl) (k_X8_refunds 0 3 rfl) (k_X8_refunds 0 4 rfl) rfl
theorem dX8_refunds_5 : decode cX8_refunds 5 = .ok (.aload_n 0, 1) := dz_42 (k_X8_refunds 0 5 rfl)
theorem dX8_refunds_6 : decode cX8_refunds 6 = .ok (.iload_n 1, 1) := dz_27 (k_X8_refunds 0 6 rfl)
theorem dX8_refunds_7 : decode cX8_refunds 7 = .ok (.iconst 0, 1) := dz_3 (k_X8_refunds 0 7 rfl)
theorem dX8_refunds_8 : decode cX8_refunds 8 = .ok (.bipush 31, 2) := dz_16 (k_X8_refunds 0 8 rfl) (k_X8_refunds 0 9 rfl) rfl
theorem dX8_refunds_10 : decode cX8_refunds 10 = .ok (.invokestatic 107, 3) := dz_184 (k_X8_refunds 0 10 rfl) (k_X8_refunds 0 11 rfl) (k_X8_refunds 0 12 rfl) rfl
theorem dX8_refunds_13 : decode cX8_refunds 13 = .ok (.ifCond .ne 7, 3) := dz_154 (k_X8_refunds 0 13 rfl) (k_X8_refunds 0 14 rfl) (k_X8_refunds 0 15 rfl) rfl
theorem dX8_refunds_16 : decode cX8_refunds 16 = .ok (.iconst 1, 1) := dz_4 (k_X8_refunds 0 16 rfl)
theorem dX8_refunds_17 : decode cX8_refunds 17 = .ok (.goto 4, 3) := dz_167 (k_X8_refunds 0 17 rfl) (k_X8_refunds 0 18 rfl) (k_X8_refunds 0 19 rfl) rfl
theorem dX8_refunds_20 : decode cX8_refunds 20 = .ok (.iconst 0, 1) := dz_3 (k_X8_refunds 0 20 rfl)
theorem dX8_refunds_21 : decode cX8_refunds 21 = .ok (.iconst 1, 1) := dz_4 (k_X8_refunds 0 21 rfl)
theorem dX8_refunds_22 : decode cX8_refunds 22 = .ok (.invokevirtual 224, 3) := dz_182 (k_X8_refunds 0 22 rfl) (k_X8_refunds 0 23 rfl) (k_X8_refunds 0 24 rfl) rfl
theorem dX8_refunds_25 : decode cX8_refunds 25 = .ok (.ifCond .eq 5, 3) := dz_153 (k_X8_refunds 0 25 rfl) (k_X8_refunds 0 26 rfl) (k_X8_refunds 0 27 rfl) rfl
theorem dX8_refunds_28 : decode cX8_refunds 28 = .ok (.iconst 0, 1) := dz_3 (k_X8_refunds 0 28 rfl)
theorem dX8_refunds_29 : decode cX8_refunds 29 = .ok (.ireturn, 1) := dz_172 (k_X8_refunds 0 29 rfl)
theorem dX8_refunds_30 : decode cX8_refunds 30 = .ok (.aload_n 0, 1) := dz_42 (k_X8_refunds 0 30 rfl)
theorem dX8_refunds_31 : decode cX8_refunds 31 = .ok (.invokevirtual 313, 3) := dz_182 (k_X8_refunds 0 31 rfl) (k_X8_refunds 0 32 rfl) (k_X8_refunds 0 33 rfl) rfl
theorem dX8_refunds_34 : decode cX8_refunds 34 = .ok (.iconst 0, 1) := dz_3 (k_X8_refunds 0 34 rfl)
theorem dX8_refunds_35 : decode cX8_refunds 35 = .ok (.istore_n 2, 1) := dz_61 (k_X8_refunds 0 35 rfl)
theorem dX8_refunds_36 : decode cX8_refunds 36 = .ok (.iconst 0, 1) := dz_3 (k_X8_refunds 0 36 rfl)
theorem dX8_refunds_37 : decode cX8_refunds 37 = .ok (.istore_n 3, 1) := dz_62 (k_X8_refunds 0 37 rfl)
theorem dX8_refunds_38 : decode cX8_refunds 38 = .ok (.iload_n 3, 1) := dz_29 (k_X8_refunds 0 38 rfl)
theorem dX8_refunds_39 : decode cX8_refunds 39 = .ok (.aload_n 0, 1) := dz_42 (k_X8_refunds 0 39 rfl)
theorem dX8_refunds_40 : decode cX8_refunds 40 = .ok (.invokevirtual 431, 3) := dz_182 (k_X8_refunds 0 40 rfl) (k_X8_refunds 0 41 rfl) (k_X8_refunds 0 42 rfl) rfl
theorem dX8_refunds_43 : decode cX8_refunds 43 = .ok (.if_icmp .ge 28, 3) := dz_162 (k_X8_refunds 0 43 rfl) (k_X8_refunds 0 44 rfl) (k_X8_refunds 0 45 rfl) rfl
theorem dX8_refunds_46 : decode cX8_refunds 46 = .ok (.iload_n 2, 1) := dz_28 (k_X8_refunds 0 46 rfl)
theorem dX8_refunds_47 : decode cX8_refunds 47 = .ok (.aload_n 0, 1) := dz_42 (k_X8_refunds 0 47 rfl)
theorem dX8_refunds_48 : decode cX8_refunds 48 = .ok (.iload_n 3, 1) := dz_29 (k_X8_refunds 0 48 rfl)
theorem dX8_refunds_49 : decode cX8_refunds 49 = .ok (.iload_n 1, 1) := dz_27 (k_X8_refunds 0 49 rfl)
theorem dX8_refunds_50 : decode cX8_refunds 50 = .ok (.invokevirtual 449, 3) := dz_182 (k_X8_refunds 0 50 rfl) (k_X8_refunds 0 51 rfl) (k_X8_refunds 0 52 rfl) rfl
theorem dX8_refunds_53 : decode cX8_refunds 53 = .ok (.ifCond .eq 9, 3) := dz_153 (k_X8_refunds 0 53 rfl) (k_X8_refunds 0 54 rfl) (k_X8_refunds 0 55 rfl) rfl
theorem dX8_refunds_56 : decode cX8_refunds 56 = .ok (.iconst 1, 1) := dz_4 (k_X8_refunds 0 56 rfl)
theorem dX8_refunds_57 : decode cX8_refunds 57 = .ok (.iload_n 3, 1) := dz_29 (k_X8_refunds 0 57 rfl)
theorem dX8_refunds_58 : decode cX8_refunds 58 = .ok (.ishl, 1) := dz_120 (k_X8_refunds 0 58 rfl)
theorem dX8_refunds_59 : decode cX8_refunds 59 = .ok (.goto 4, 3) := dz_167 (k_X8_refunds 0 59 rfl) (k_X8_refunds 0 60 rfl) (k_X8_refunds 0 61 rfl) rfl
theorem dX8_refunds_62 : decode cX8_refunds 62 = .ok (.iconst 0, 1) := dz_3 (k_X8_refunds 0 62 rfl)
theorem dX8_refunds_63 : decode cX8_refunds 63 = .ok (.ior, 1) := dz_128 (k_X8_refunds 0 63 rfl)
theorem dX8_refunds_64 : decode cX8_refunds 64 = .ok (.istore_n 2, 1) := dz_61 (k_X8_refunds 1 0 rfl)
theorem dX8_refunds_65 : decode cX8_refunds 65 = .ok (.iinc 3 1, 3) := dz_132 (k_X8_refunds 1 1 rfl) (k_X8_refunds 1 2 rfl) (k_X8_refunds 1 3 rfl) rfl
theorem dX8_refunds_68 : decode cX8_refunds 68 = .ok (.goto (-30), 3) := dz_167 (k_X8_refunds 1 4 rfl) (k_X8_refunds 1 5 rfl) (k_X8_refunds 1 6 rfl) rfl
theorem dX8_refunds_71 : decode cX8_refunds 71 = .ok (.iload_n 2, 1) := dz_28 (k_X8_refunds 1 7 rfl)
theorem dX8_refunds_72 : decode cX8_refunds 72 = .ok (.ireturn, 1) := dz_172 (k_X8_refunds 1 8 rfl)
def B_X8_relates : List (List Nat) := [[42, 3, 181, 1, 122, 3, 61, 28, 42, 180, 1, 104, 162, 0, 207, 16, 30, 28, 96, 62, 42, 180, 0, 59, 28, 42, 29, 3, 182, 0, 114, 79, 42, 180, 0, 59, 28, 46, 184, 0, 118, 54, 4, 42, 180, 0, 62, 28, 21, 4, 153, 0, 19, 42, 29, 4, 42, 29, 4, 182, 0, 132, 2, 182], [1, 118, 167, 0, 31, 42, 180, 0, 59, 28, 46, 16, 12, 160, 0, 19, 42, 29, 4, 42, 180, 0, 20, 29, 46, 2, 182, 1, 118, 167, 0, 4, 2, 79, 42, 180, 0, 65, 28, 21, 4, 153, 0, 24, 42, 29, 42, 29, 4, 182, 0, 132, 42, 180, 0, 20, 29, 46, 2, 182, 1, 118, 167, 0], [4, 2, 79, 3, 54, 5, 21, 5, 42, 182, 0, 138, 162, 0, 61, 42, 180, 0, 68, 6, 28, 104, 21, 5, 96, 42, 180, 0, 59, 28, 46, 184, 0, 122, 153, 0, 31, 42, 180, 0, 59, 28, 46, 16, 12, 159, 0, 20, 42, 29, 4, 42, 180, 0, 20, 29, 46, 21, 5, 182, 1, 118, 167, 0], [4, 2, 79, 132, 5, 1, 167, 255, 192, 42, 180, 0, 71, 28, 42, 29, 27, 182, 1, 25, 84, 132, 2, 1, 167, 255, 47, 3, 61, 28, 42, 180, 1, 104, 162, 0, 75, 42, 180, 1, 122, 6, 162, 0, 67, 42, 180, 0, 59, 28, 46, 16, 15, 160, 0, 50, 42, 180, 0, 62, 28, 46, 155, 0], [41, 42, 42, 180, 0, 62, 28, 46, 182, 1, 125, 156, 0, 28, 42, 180, 0, 86, 42, 180, 1, 122, 42, 180, 0, 62, 28, 46, 79, 42, 89, 180, 1, 122, 4, 96, 181, 1, 122, 132, 2, 1, 167, 255, 179, 3, 61, 28, 42, 180, 1, 104, 162, 0, 163, 3, 62, 29, 42, 180, 1, 104, 162, 0], [147, 16, 40, 28, 104, 29, 96, 54, 4, 42, 180, 0, 74, 21, 4, 42, 16, 30, 28, 96, 16, 16, 16, 30, 29, 96, 182, 1, 40, 84, 42, 180, 0, 77, 21, 4, 42, 16, 30, 28, 96, 16, 30, 29, 96, 182, 1, 34, 84, 42, 180, 0, 80, 21, 4, 42, 180, 0, 59, 28, 46, 16, 14, 160], [0, 25, 42, 16, 30, 28, 96, 4, 42, 16, 30, 28, 96, 4, 182, 0, 132, 29, 182, 1, 128, 167, 0, 4, 2, 79, 42, 180, 0, 83, 21, 4, 42, 180, 0, 59, 28, 46, 16, 14, 160, 0, 33, 42, 16, 30, 28, 96, 42, 16, 30, 28, 96, 4, 182, 0, 132, 42, 180, 0, 20, 16, 30, 28], [96, 46, 29, 182, 1, 128, 167, 0, 4, 2, 79, 132, 3, 1, 167, 255, 107, 132, 2, 1, 167, 255, 91, 177]]
theorem k_X8_relates (j i : Nat) {b : Nat} (h : (B_X8_relates[j]?.bind fun c => c[i]?) = some b) : s_by cX8_relates (64 * j + i) b := s_byC (L := B_X8_relates) (by decide +kernel) (by decide +kernel) j i h
theorem dX8_relates_0 : decode cX8_relates 0 = .ok (.aload_n 0, 1) := dz_42 (k_X8_relates 0 0 rfl)
theorem dX8_relates_1 : decode cX8_relates 1 = .ok (.iconst 0, 1) := dz_3 (k_X8_relates 0 1 rfl)
theorem dX8_relates_2 : decode cX8_relates 2 = .ok (.putfield 378, 3) := dz_181 (k_X8_relates 0 2 rfl) (k_X8_relates 0 3 rfl) (k_X8_relates 0 4 rfl) rfl
theorem dX8_relates_5 : decode cX8_relates 5 = .ok (.iconst 0, 1) := dz_3 (k_X8_relates 0 5 rfl)
theorem dX8_relates_6 : decode cX8_relates 6 = .ok (.istore_n 2, 1) := dz_61 (k_X8_relates 0 6 rfl)
theorem dX8_relates_7 : decode cX8_relates 7 = .ok (.iload_n 2, 1) := dz_28 (k_X8_relates 0 7 rfl)
theorem dX8_relates_8 : decode cX8_relates 8 = .ok (.aload_n 0, 1) := dz_42 (k_X8_relates 0 8 rfl)
theorem dX8_relates_9 : decode cX8_relates 9 = .ok (.getfield 360, 3) := dz_180 (k_X8_relates 0 9 rfl) (k_X8_relates 0 10 rfl) (k_X8_relates 0 11 rfl) rfl
theorem dX8_relates_12 : decode cX8_relates 12 = .ok (.if_icmp .ge 207, 3) := dz_162 (k_X8_relates 0 12 rfl) (k_X8_relates 0 13 rfl) (k_X8_relates 0 14 rfl) rfl
theorem dX8_relates_15 : decode cX8_relates 15 = .ok (.bipush 30, 2) := dz_16 (k_X8_relates 0 15 rfl) (k_X8_relates 0 16 rfl) rfl
theorem dX8_relates_17 : decode cX8_relates 17 = .ok (.iload_n 2, 1) := dz_28 (k_X8_relates 0 17 rfl)
theorem dX8_relates_18 : decode cX8_relates 18 = .ok (.iadd, 1) := dz_96 (k_X8_relates 0 18 rfl)
theorem dX8_relates_19 : decode cX8_relates 19 = .ok (.istore_n 3, 1) := dz_62 (k_X8_relates 0 19 rfl)
theorem dX8_relates_20 : decode cX8_relates 20 = .ok (.aload_n 0, 1) := dz_42 (k_X8_relates 0 20 rfl)
theorem dX8_relates_21 : decode cX8_relates 21 = .ok (.getfield 59, 3) := dz_180 (k_X8_relates 0 21 rfl) (k_X8_relates 0 22 rfl) (k_X8_relates 0 23 rfl) rfl
theorem dX8_relates_24 : decode cX8_relates 24 = .ok (.iload_n 2, 1) := dz_28 (k_X8_relates 0 24 rfl)
theorem dX8_relates_25 : decode cX8_relates 25 = .ok (.aload_n 0, 1) := dz_42 (k_X8_relates 0 25 rfl)
theorem dX8_relates_26 : decode cX8_relates 26 = .ok (.iload_n 3, 1) := dz_29 (k_X8_relates 0 26 rfl)
theorem dX8_relates_27 : decode cX8_relates 27 = .ok (.iconst 0, 1) := dz_3 (k_X8_relates 0 27 rfl)
theorem dX8_relates_28 : decode cX8_relates 28 = .ok (.invokevirtual 114, 3) := dz_182 (k_X8_relates 0 28 rfl) (k_X8_relates 0 29 rfl) (k_X8_relates 0 30 rfl) rfl
theorem dX8_relates_31 : decode cX8_relates 31 = .ok (.iastore, 1) := dz_79 (k_X8_relates 0 31 rfl)
theorem dX8_relates_32 : decode cX8_relates 32 = .ok (.aload_n 0, 1) := dz_42 (k_X8_relates 0 32 rfl)
theorem dX8_relates_33 : decode cX8_relates 33 = .ok (.getfield 59, 3) := dz_180 (k_X8_relates 0 33 rfl) (k_X8_relates 0 34 rfl) (k_X8_relates 0 35 rfl) rfl
theorem dX8_relates_36 : decode cX8_relates 36 = .ok (.iload_n 2, 1) := dz_28 (k_X8_relates 0 36 rfl)
theorem dX8_relates_37 : decode cX8_relates 37 = .ok (.iaload, 1) := dz_46 (k_X8_relates 0 37 rfl)
theorem dX8_relates_38 : decode cX8_relates 38 = .ok (.invokestatic 118, 3) := dz_184 (k_X8_relates 0 38 rfl) (k_X8_relates 0 39 rfl) (k_X8_relates 0 40 rfl) rfl
theorem dX8_relates_41 : decode cX8_relates 41 = .ok (.istore 4, 2) := dz_54 (k_X8_relates 0 41 rfl) (k_X8_relates 0 42 rfl)
theorem dX8_relates_43 : decode cX8_relates 43 = .ok (.aload_n 0, 1) := dz_42 (k_X8_relates 0 43 rfl)
theorem dX8_relates_44 : decode cX8_relates 44 = .ok (.getfield 62, 3) := dz_180 (k_X8_relates 0 44 rfl) (k_X8_relates 0 45 rfl) (k_X8_relates 0 46 rfl) rfl
theorem dX8_relates_47 : decode cX8_relates 47 = .ok (.iload_n 2, 1) := dz_28 (k_X8_relates 0 47 rfl)
theorem dX8_relates_48 : decode cX8_relates 48 = .ok (.iload 4, 2) := dz_21 (k_X8_relates 0 48 rfl) (k_X8_relates 0 49 rfl)
theorem dX8_relates_50 : decode cX8_relates 50 = .ok (.ifCond .eq 19, 3) := dz_153 (k_X8_relates 0 50 rfl) (k_X8_relates 0 51 rfl) (k_X8_relates 0 52 rfl) rfl
theorem dX8_relates_53 : decode cX8_relates 53 = .ok (.aload_n 0, 1) := dz_42 (k_X8_relates 0 53 rfl)
theorem dX8_relates_54 : decode cX8_relates 54 = .ok (.iload_n 3, 1) := dz_29 (k_X8_relates 0 54 rfl)
theorem dX8_relates_55 : decode cX8_relates 55 = .ok (.iconst 1, 1) := dz_4 (k_X8_relates 0 55 rfl)
theorem dX8_relates_56 : decode cX8_relates 56 = .ok (.aload_n 0, 1) := dz_42 (k_X8_relates 0 56 rfl)
theorem dX8_relates_57 : decode cX8_relates 57 = .ok (.iload_n 3, 1) := dz_29 (k_X8_relates 0 57 rfl)
theorem dX8_relates_58 : decode cX8_relates 58 = .ok (.iconst 1, 1) := dz_4 (k_X8_relates 0 58 rfl)
theorem dX8_relates_59 : decode cX8_relates 59 = .ok (.invokevirtual 132, 3) := dz_182 (k_X8_relates 0 59 rfl) (k_X8_relates 0 60 rfl) (k_X8_relates 0 61 rfl) rfl
theorem dX8_relates_62 : decode cX8_relates 62 = .ok (.iconst (-1), 1) := dz_2 (k_X8_relates 0 62 rfl)
theorem dX8_relates_63 : decode cX8_relates 63 = .ok (.invokevirtual 374, 3) := dz_182 (k_X8_relates 0 63 rfl) (k_X8_relates 1 0 rfl) (k_X8_relates 1 1 rfl) rfl
theorem dX8_relates_66 : decode cX8_relates 66 = .ok (.goto 31, 3) := dz_167 (k_X8_relates 1 2 rfl) (k_X8_relates 1 3 rfl) (k_X8_relates 1 4 rfl) rfl
theorem dX8_relates_69 : decode cX8_relates 69 = .ok (.aload_n 0, 1) := dz_42 (k_X8_relates 1 5 rfl)
theorem dX8_relates_70 : decode cX8_relates 70 = .ok (.getfield 59, 3) := dz_180 (k_X8_relates 1 6 rfl) (k_X8_relates 1 7 rfl) (k_X8_relates 1 8 rfl) rfl
theorem dX8_relates_73 : decode cX8_relates 73 = .ok (.iload_n 2, 1) := dz_28 (k_X8_relates 1 9 rfl)
theorem dX8_relates_74 : decode cX8_relates 74 = .ok (.iaload, 1) := dz_46 (k_X8_relates 1 10 rfl)
theorem dX8_relates_75 : decode cX8_relates 75 = .ok (.bipush 12, 2) := dz_16 (k_X8_relates 1 11 rfl) (k_X8_relates 1 12 rfl) rfl
theorem dX8_relates_77 : decode cX8_relates 77 = .ok (.if_icmp .ne 19, 3) := dz_160 (k_X8_relates 1 13 rfl) (k_X8_relates 1 14 rfl) (k_X8_relates 1 15 rfl) rfl
theorem dX8_relates_80 : decode cX8_relates 80 = .ok (.aload_n 0, 1) := dz_42 (k_X8_relates 1 16 rfl)
theorem dX8_relates_81 : decode cX8_relates 81 = .ok (.iload_n 3, 1) := dz_29 (k_X8_relates 1 17 rfl)
theorem dX8_relates_82 : decode cX8_relates 82 = .ok (.iconst 1, 1) := dz_4 (k_X8_relates 1 18 rfl)
theorem dX8_relates_83 : decode cX8_relates 83 = .ok (.aload_n 0, 1) := dz_42 (k_X8_relates 1 19 rfl)
theorem dX8_relates_84 : decode cX8_relates 84 = .ok (.getfield 20, 3) := dz_180 (k_X8_relates 1 20 rfl) (k_X8_relates 1 21 rfl) (k_X8_relates 1 22 rfl) rfl
theorem dX8_relates_87 : decode cX8_relates 87 = .ok (.iload_n 3, 1) := dz_29 (k_X8_relates 1 23 rfl)
theorem dX8_relates_88 : decode cX8_relates 88 = .ok (.iaload, 1) := dz_46 (k_X8_relates 1 24 rfl)
theorem dX8_relates_89 : decode cX8_relates 89 = .ok (.iconst (-1), 1) := dz_2 (k_X8_relates 1 25 rfl)
theorem dX8_relates_90 : decode cX8_relates 90 = .ok (.invokevirtual 374, 3) := dz_182 (k_X8_relates 1 26 rfl) (k_X8_relates 1 27 rfl) (k_X8_relates 1 28 rfl) rfl
theorem dX8_relates_93 : decode cX8_relates 93 = .ok (.goto 4, 3) := dz_167 (k_X8_relates 1 29 rfl) (k_X8_relates 1 30 rfl) (k_X8_relates 1 31 rfl) rfl
theorem dX8_relates_96 : decode cX8_relates 96 = .ok (.iconst (-1), 1) := dz_2 (k_X8_relates 1 32 rfl)
theorem dX8_relates_97 : decode cX8_relates 97 = .ok (.iastore, 1) := dz_79 (k_X8_relates 1 33 rfl)
theorem dX8_relates_98 : decode cX8_relates 98 = .ok (.aload_n 0, 1) := dz_42 (k_X8_relates 1 34 rfl)
theorem dX8_relates_99 : decode cX8_relates 99 = .ok (.getfield 65, 3) := dz_180 (k_X8_relates 1 35 rfl) (k_X8_relates 1 36 rfl) (k_X8_relates 1 37 rfl) rfl
theorem dX8_relates_102 : decode cX8_relates 102 = .ok (.iload_n 2, 1) := dz_28 (k_X8_relates 1 38 rfl)
theorem dX8_relates_103 : decode cX8_relates 103 = .ok (.iload 4, 2) := dz_21 (k_X8_relates 1 39 rfl) (k_X8_relates 1 40 rfl)
theorem dX8_relates_105 : decode cX8_relates 105 = .ok (.ifCond .eq 24, 3) := dz_153 (k_X8_relates 1 41 rfl) (k_X8_relates 1 42 rfl) (k_X8_relates 1 43 rfl) rfl
theorem dX8_relates_108 : decode cX8_relates 108 = .ok (.aload_n 0, 1) := dz_42 (k_X8_relates 1 44 rfl)
theorem dX8_relates_109 : decode cX8_relates 109 = .ok (.iload_n 3, 1) := dz_29 (k_X8_relates 1 45 rfl)
theorem dX8_relates_110 : decode cX8_relates 110 = .ok (.aload_n 0, 1) := dz_42 (k_X8_relates 1 46 rfl)
theorem dX8_relates_111 : decode cX8_relates 111 = .ok (.iload_n 3, 1) := dz_29 (k_X8_relates 1 47 rfl)
theorem dX8_relates_112 : decode cX8_relates 112 = .ok (.iconst 1, 1) := dz_4 (k_X8_relates 1 48 rfl)
theorem dX8_relates_113 : decode cX8_relates 113 = .ok (.invokevirtual 132, 3) := dz_182 (k_X8_relates 1 49 rfl) (k_X8_relates 1 50 rfl) (k_X8_relates 1 51 rfl) rfl
theorem dX8_relates_116 : decode cX8_relates 116 = .ok (.aload_n 0, 1) := dz_42 (k_X8_relates 1 52 rfl)
theorem dX8_relates_117 : decode cX8_relates 117 = .ok (.getfield 20, 3) := dz_180 (k_X8_relates 1 53 rfl) (k_X8_relates 1 54 rfl) (k_X8_relates 1 55 rfl) rfl
theorem dX8_relates_120 : decode cX8_relates 120 = .ok (.iload_n 3, 1) := dz_29 (k_X8_relates 1 56 rfl)
theorem dX8_relates_121 : decode cX8_relates 121 = .ok (.iaload, 1) := dz_46 (k_X8_relates 1 57 rfl)
theorem dX8_relates_122 : decode cX8_relates 122 = .ok (.iconst (-1), 1) := dz_2 (k_X8_relates 1 58 rfl)
theorem dX8_relates_123 : decode cX8_relates 123 = .ok (.invokevirtual 374, 3) := dz_182 (k_X8_relates 1 59 rfl) (k_X8_relates 1 60 rfl) (k_X8_relates 1 61 rfl) rfl
theorem dX8_relates_126 : decode cX8_relates 126 = .ok (.goto 4, 3) := dz_167 (k_X8_relates 1 62 rfl) (k_X8_relates 1 63 rfl) (k_X8_relates 2 0 rfl) rfl
theorem dX8_relates_129 : decode cX8_relates 129 = .ok (.iconst (-1), 1) := dz_2 (k_X8_relates 2 1 rfl)
theorem dX8_relates_130 : decode cX8_relates 130 = .ok (.iastore, 1) := dz_79 (k_X8_relates 2 2 rfl)
theorem dX8_relates_131 : decode cX8_relates 131 = .ok (.iconst 0, 1) := dz_3 (k_X8_relates 2 3 rfl)
theorem dX8_relates_132 : decode cX8_relates 132 = .ok (.istore 5, 2) := dz_54 (k_X8_relates 2 4 rfl) (k_X8_relates 2 5 rfl)
theorem dX8_relates_134 : decode cX8_relates 134 = .ok (.iload 5, 2) := dz_21 (k_X8_relates 2 6 rfl) (k_X8_relates 2 7 rfl)
theorem dX8_relates_136 : decode cX8_relates 136 = .ok (.aload_n 0, 1) := dz_42 (k_X8_relates 2 8 rfl)
theorem dX8_relates_137 : decode cX8_relates 137 = .ok (.invokevirtual 138, 3) := dz_182 (k_X8_relates 2 9 rfl) (k_X8_relates 2 10 rfl) (k_X8_relates 2 11 rfl) rfl
theorem dX8_relates_140 : decode cX8_relates 140 = .ok (.if_icmp .ge 61, 3) := dz_162 (k_X8_relates 2 12 rfl) (k_X8_relates 2 13 rfl) (k_X8_relates 2 14 rfl) rfl
theorem dX8_relates_143 : decode cX8_relates 143 = .ok (.aload_n 0, 1) := dz_42 (k_X8_relates 2 15 rfl)
theorem dX8_relates_144 : decode cX8_relates 144 = .ok (.getfield 68, 3) := dz_180 (k_X8_relates 2 16 rfl) (k_X8_relates 2 17 rfl) (k_X8_relates 2 18 rfl) rfl
theorem dX8_relates_147 : decode cX8_relates 147 = .ok (.iconst 3, 1) := dz_6 (k_X8_relates 2 19 rfl)
theorem dX8_relates_148 : decode cX8_relates 148 = .ok (.iload_n 2, 1) := dz_28 (k_X8_relates 2 20 rfl)
theorem dX8_relates_149 : decode cX8_relates 149 = .ok (.imul, 1) := dz_104 (k_X8_relates 2 21 rfl)
theorem dX8_relates_150 : decode cX8_relates 150 = .ok (.iload 5, 2) := dz_21 (k_X8_relates 2 22 rfl) (k_X8_relates 2 23 rfl)
theorem dX8_relates_152 : decode cX8_relates 152 = .ok (.iadd, 1) := dz_96 (k_X8_relates 2 24 rfl)
theorem dX8_relates_153 : decode cX8_relates 153 = .ok (.aload_n 0, 1) := dz_42 (k_X8_relates 2 25 rfl)
theorem dX8_relates_154 : decode cX8_relates 154 = .ok (.getfield 59, 3) := dz_180 (k_X8_relates 2 26 rfl) (k_X8_relates 2 27 rfl) (k_X8_relates 2 28 rfl) rfl
theorem dX8_relates_157 : decode cX8_relates 157 = .ok (.iload_n 2, 1) := dz_28 (k_X8_relates 2 29 rfl)
theorem dX8_relates_158 : decode cX8_relates 158 = .ok (.iaload, 1) := dz_46 (k_X8_relates 2 30 rfl)
theorem dX8_relates_159 : decode cX8_relates 159 = .ok (.invokestatic 122, 3) := dz_184 (k_X8_relates 2 31 rfl) (k_X8_relates 2 32 rfl) (k_X8_relates 2 33 rfl) rfl
theorem dX8_relates_162 : decode cX8_relates 162 = .ok (.ifCond .eq 31, 3) := dz_153 (k_X8_relates 2 34 rfl) (k_X8_relates 2 35 rfl) (k_X8_relates 2 36 rfl) rfl
theorem dX8_relates_165 : decode cX8_relates 165 = .ok (.aload_n 0, 1) := dz_42 (k_X8_relates 2 37 rfl)
theorem dX8_relates_166 : decode cX8_relates 166 = .ok (.getfield 59, 3) := dz_180 (k_X8_relates 2 38 rfl) (k_X8_relates 2 39 rfl) (k_X8_relates 2 40 rfl) rfl
theorem dX8_relates_169 : decode cX8_relates 169 = .ok (.iload_n 2, 1) := dz_28 (k_X8_relates 2 41 rfl)
theorem dX8_relates_170 : decode cX8_relates 170 = .ok (.iaload, 1) := dz_46 (k_X8_relates 2 42 rfl)
theorem dX8_relates_171 : decode cX8_relates 171 = .ok (.bipush 12, 2) := dz_16 (k_X8_relates 2 43 rfl) (k_X8_relates 2 44 rfl) rfl
theorem dX8_relates_173 : decode cX8_relates 173 = .ok (.if_icmp .eq 20, 3) := dz_159 (k_X8_relates 2 45 rfl) (k_X8_relates 2 46 rfl) (k_X8_relates 2 47 rfl) rfl
theorem dX8_relates_176 : decode cX8_relates 176 = .ok (.aload_n 0, 1) := dz_42 (k_X8_relates 2 48 rfl)
theorem dX8_relates_177 : decode cX8_relates 177 = .ok (.iload_n 3, 1) := dz_29 (k_X8_relates 2 49 rfl)
theorem dX8_relates_178 : decode cX8_relates 178 = .ok (.iconst 1, 1) := dz_4 (k_X8_relates 2 50 rfl)
theorem dX8_relates_179 : decode cX8_relates 179 = .ok (.aload_n 0, 1) := dz_42 (k_X8_relates 2 51 rfl)
theorem dX8_relates_180 : decode cX8_relates 180 = .ok (.getfield 20, 3) := dz_180 (k_X8_relates 2 52 rfl) (k_X8_relates 2 53 rfl) (k_X8_relates 2 54 rfl) rfl
theorem dX8_relates_183 : decode cX8_relates 183 = .ok (.iload_n 3, 1) := dz_29 (k_X8_relates 2 55 rfl)
theorem dX8_relates_184 : decode cX8_relates 184 = .ok (.iaload, 1) := dz_46 (k_X8_relates 2 56 rfl)
theorem dX8_relates_185 : decode cX8_relates 185 = .ok (.iload 5, 2) := dz_21 (k_X8_relates 2 57 rfl) (k_X8_relates 2 58 rfl)
theorem dX8_relates_187 : decode cX8_relates 187 = .ok (.invokevirtual 374, 3) := dz_182 (k_X8_relates 2 59 rfl) (k_X8_relates 2 60 rfl) (k_X8_relates 2 61 rfl) rfl
theorem dX8_relates_190 : decode cX8_relates 190 = .ok (.goto 4, 3) := dz_167 (k_X8_relates 2 62 rfl) (k_X8_relates 2 63 rfl) (k_X8_relates 3 0 rfl) rfl
theorem dX8_relates_193 : decode cX8_relates 193 = .ok (.iconst (-1), 1) := dz_2 (k_X8_relates 3 1 rfl)
theorem dX8_relates_194 : decode cX8_relates 194 = .ok (.iastore, 1) := dz_79 (k_X8_relates 3 2 rfl)
theorem dX8_relates_195 : decode cX8_relates 195 = .ok (.iinc 5 1, 3) := dz_132 (k_X8_relates 3 3 rfl) (k_X8_relates 3 4 rfl) (k_X8_relates 3 5 rfl) rfl
theorem dX8_relates_198 : decode cX8_relates 198 = .ok (.goto (-64), 3) := dz_167 (k_X8_relates 3 6 rfl) (k_X8_relates 3 7 rfl) (k_X8_relates 3 8 rfl) rfl
theorem dX8_relates_201 : decode cX8_relates 201 = .ok (.aload_n 0, 1) := dz_42 (k_X8_relates 3 9 rfl)
theorem dX8_relates_202 : decode cX8_relates 202 = .ok (.getfield 71, 3) := dz_180 (k_X8_relates 3 10 rfl) (k_X8_relates 3 11 rfl) (k_X8_relates 3 12 rfl) rfl
theorem dX8_relates_205 : decode cX8_relates 205 = .ok (.iload_n 2, 1) := dz_28 (k_X8_relates 3 13 rfl)
theorem dX8_relates_206 : decode cX8_relates 206 = .ok (.aload_n 0, 1) := dz_42 (k_X8_relates 3 14 rfl)
theorem dX8_relates_207 : decode cX8_relates 207 = .ok (.iload_n 3, 1) := dz_29 (k_X8_relates 3 15 rfl)
theorem dX8_relates_208 : decode cX8_relates 208 = .ok (.iload_n 1, 1) := dz_27 (k_X8_relates 3 16 rfl)
theorem dX8_relates_209 : decode cX8_relates 209 = .ok (.invokevirtual 281, 3) := dz_182 (k_X8_relates 3 17 rfl) (k_X8_relates 3 18 rfl) (k_X8_relates 3 19 rfl) rfl
theorem dX8_relates_212 : decode cX8_relates 212 = .ok (.bastore, 1) := dz_84 (k_X8_relates 3 20 rfl)
theorem dX8_relates_213 : decode cX8_relates 213 = .ok (.iinc 2 1, 3) := dz_132 (k_X8_relates 3 21 rfl) (k_X8_relates 3 22 rfl) (k_X8_relates 3 23 rfl) rfl
theorem dX8_relates_216 : decode cX8_relates 216 = .ok (.goto (-209), 3) := dz_167 (k_X8_relates 3 24 rfl) (k_X8_relates 3 25 rfl) (k_X8_relates 3 26 rfl) rfl
theorem dX8_relates_219 : decode cX8_relates 219 = .ok (.iconst 0, 1) := dz_3 (k_X8_relates 3 27 rfl)
theorem dX8_relates_220 : decode cX8_relates 220 = .ok (.istore_n 2, 1) := dz_61 (k_X8_relates 3 28 rfl)
theorem dX8_relates_221 : decode cX8_relates 221 = .ok (.iload_n 2, 1) := dz_28 (k_X8_relates 3 29 rfl)
theorem dX8_relates_222 : decode cX8_relates 222 = .ok (.aload_n 0, 1) := dz_42 (k_X8_relates 3 30 rfl)
theorem dX8_relates_223 : decode cX8_relates 223 = .ok (.getfield 360, 3) := dz_180 (k_X8_relates 3 31 rfl) (k_X8_relates 3 32 rfl) (k_X8_relates 3 33 rfl) rfl
theorem dX8_relates_226 : decode cX8_relates 226 = .ok (.if_icmp .ge 75, 3) := dz_162 (k_X8_relates 3 34 rfl) (k_X8_relates 3 35 rfl) (k_X8_relates 3 36 rfl) rfl
theorem dX8_relates_229 : decode cX8_relates 229 = .ok (.aload_n 0, 1) := dz_42 (k_X8_relates 3 37 rfl)
theorem dX8_relates_230 : decode cX8_relates 230 = .ok (.getfield 378, 3) := dz_180 (k_X8_relates 3 38 rfl) (k_X8_relates 3 39 rfl) (k_X8_relates 3 40 rfl) rfl
theorem dX8_relates_233 : decode cX8_relates 233 = .ok (.iconst 3, 1) := dz_6 (k_X8_relates 3 41 rfl)
theorem dX8_relates_234 : decode cX8_relates 234 = .ok (.if_icmp .ge 67, 3) := dz_162 (k_X8_relates 3 42 rfl) (k_X8_relates 3 43 rfl) (k_X8_relates 3 44 rfl) rfl
theorem dX8_relates_237 : decode cX8_relates 237 = .ok (.aload_n 0, 1) := dz_42 (k_X8_relates 3 45 rfl)
theorem dX8_relates_238 : decode cX8_relates 238 = .ok (.getfield 59, 3) := dz_180 (k_X8_relates 3 46 rfl) (k_X8_relates 3 47 rfl) (k_X8_relates 3 48 rfl) rfl
theorem dX8_relates_241 : decode cX8_relates 241 = .ok (.iload_n 2, 1) := dz_28 (k_X8_relates 3 49 rfl)
theorem dX8_relates_242 : decode cX8_relates 242 = .ok (.iaload, 1) := dz_46 (k_X8_relates 3 50 rfl)
theorem dX8_relates_243 : decode cX8_relates 243 = .ok (.bipush 15, 2) := dz_16 (k_X8_relates 3 51 rfl) (k_X8_relates 3 52 rfl) rfl
theorem dX8_relates_245 : decode cX8_relates 245 = .ok (.if_icmp .ne 50, 3) := dz_160 (k_X8_relates 3 53 rfl) (k_X8_relates 3 54 rfl) (k_X8_relates 3 55 rfl) rfl
theorem dX8_relates_248 : decode cX8_relates 248 = .ok (.aload_n 0, 1) := dz_42 (k_X8_relates 3 56 rfl)
theorem dX8_relates_249 : decode cX8_relates 249 = .ok (.getfield 62, 3) := dz_180 (k_X8_relates 3 57 rfl) (k_X8_relates 3 58 rfl) (k_X8_relates 3 59 rfl) rfl
theorem dX8_relates_252 : decode cX8_relates 252 = .ok (.iload_n 2, 1) := dz_28 (k_X8_relates 3 60 rfl)
theorem dX8_relates_253 : decode cX8_relates 253 = .ok (.iaload, 1) := dz_46 (k_X8_relates 3 61 rfl)
theorem dX8_relates_254 : decode cX8_relates 254 = .ok (.ifCond .lt 41, 3) := dz_155 (k_X8_relates 3 62 rfl) (k_X8_relates 3 63 rfl) (k_X8_relates 4 0 rfl) rfl
theorem dX8_relates_257 : decode cX8_relates 257 = .ok (.aload_n 0, 1) := dz_42 (k_X8_relates 4 1 rfl)
theorem dX8_relates_258 : decode cX8_relates 258 = .ok (.aload_n 0, 1) := dz_42 (k_X8_relates 4 2 rfl)
theorem dX8_relates_259 : decode cX8_relates 259 = .ok (.getfield 62, 3) := dz_180 (k_X8_relates 4 3 rfl) (k_X8_relates 4 4 rfl) (k_X8_relates 4 5 rfl) rfl
theorem dX8_relates_262 : decode cX8_relates 262 = .ok (.iload_n 2, 1) := dz_28 (k_X8_relates 4 6 rfl)
theorem dX8_relates_263 : decode cX8_relates 263 = .ok (.iaload, 1) := dz_46 (k_X8_relates 4 7 rfl)
theorem dX8_relates_264 : decode cX8_relates 264 = .ok (.invokevirtual 381, 3) := dz_182 (k_X8_relates 4 8 rfl) (k_X8_relates 4 9 rfl) (k_X8_relates 4 10 rfl) rfl
theorem dX8_relates_267 : decode cX8_relates 267 = .ok (.ifCond .ge 28, 3) := dz_156 (k_X8_relates 4 11 rfl) (k_X8_relates 4 12 rfl) (k_X8_relates 4 13 rfl) rfl
theorem dX8_relates_270 : decode cX8_relates 270 = .ok (.aload_n 0, 1) := dz_42 (k_X8_relates 4 14 rfl)
theorem dX8_relates_271 : decode cX8_relates 271 = .ok (.getfield 86, 3) := dz_180 (k_X8_relates 4 15 rfl) (k_X8_relates 4 16 rfl) (k_X8_relates 4 17 rfl) rfl
theorem dX8_relates_274 : decode cX8_relates 274 = .ok (.aload_n 0, 1) := dz_42 (k_X8_relates 4 18 rfl)
theorem dX8_relates_275 : decode cX8_relates 275 = .ok (.getfield 378, 3) := dz_180 (k_X8_relates 4 19 rfl) (k_X8_relates 4 20 rfl) (k_X8_relates 4 21 rfl) rfl
theorem dX8_relates_278 : decode cX8_relates 278 = .ok (.aload_n 0, 1) := dz_42 (k_X8_relates 4 22 rfl)
theorem dX8_relates_279 : decode cX8_relates 279 = .ok (.getfield 62, 3) := dz_180 (k_X8_relates 4 23 rfl) (k_X8_relates 4 24 rfl) (k_X8_relates 4 25 rfl) rfl
theorem dX8_relates_282 : decode cX8_relates 282 = .ok (.iload_n 2, 1) := dz_28 (k_X8_relates 4 26 rfl)
theorem dX8_relates_283 : decode cX8_relates 283 = .ok (.iaload, 1) := dz_46 (k_X8_relates 4 27 rfl)
theorem dX8_relates_284 : decode cX8_relates 284 = .ok (.iastore, 1) := dz_79 (k_X8_relates 4 28 rfl)
theorem dX8_relates_285 : decode cX8_relates 285 = .ok (.aload_n 0, 1) := dz_42 (k_X8_relates 4 29 rfl)
theorem dX8_relates_286 : decode cX8_relates 286 = .ok (.dup, 1) := dz_89 (k_X8_relates 4 30 rfl)
theorem dX8_relates_287 : decode cX8_relates 287 = .ok (.getfield 378, 3) := dz_180 (k_X8_relates 4 31 rfl) (k_X8_relates 4 32 rfl) (k_X8_relates 4 33 rfl) rfl
theorem dX8_relates_290 : decode cX8_relates 290 = .ok (.iconst 1, 1) := dz_4 (k_X8_relates 4 34 rfl)
theorem dX8_relates_291 : decode cX8_relates 291 = .ok (.iadd, 1) := dz_96 (k_X8_relates 4 35 rfl)
theorem dX8_relates_292 : decode cX8_relates 292 = .ok (.putfield 378, 3) := dz_181 (k_X8_relates 4 36 rfl) (k_X8_relates 4 37 rfl) (k_X8_relates 4 38 rfl) rfl
theorem dX8_relates_295 : decode cX8_relates 295 = .ok (.iinc 2 1, 3) := dz_132 (k_X8_relates 4 39 rfl) (k_X8_relates 4 40 rfl) (k_X8_relates 4 41 rfl) rfl
theorem dX8_relates_298 : decode cX8_relates 298 = .ok (.goto (-77), 3) := dz_167 (k_X8_relates 4 42 rfl) (k_X8_relates 4 43 rfl) (k_X8_relates 4 44 rfl) rfl
theorem dX8_relates_301 : decode cX8_relates 301 = .ok (.iconst 0, 1) := dz_3 (k_X8_relates 4 45 rfl)
theorem dX8_relates_302 : decode cX8_relates 302 = .ok (.istore_n 2, 1) := dz_61 (k_X8_relates 4 46 rfl)
theorem dX8_relates_303 : decode cX8_relates 303 = .ok (.iload_n 2, 1) := dz_28 (k_X8_relates 4 47 rfl)
theorem dX8_relates_304 : decode cX8_relates 304 = .ok (.aload_n 0, 1) := dz_42 (k_X8_relates 4 48 rfl)
theorem dX8_relates_305 : decode cX8_relates 305 = .ok (.getfield 360, 3) := dz_180 (k_X8_relates 4 49 rfl) (k_X8_relates 4 50 rfl) (k_X8_relates 4 51 rfl) rfl
theorem dX8_relates_308 : decode cX8_relates 308 = .ok (.if_icmp .ge 163, 3) := dz_162 (k_X8_relates 4 52 rfl) (k_X8_relates 4 53 rfl) (k_X8_relates 4 54 rfl) rfl
theorem dX8_relates_311 : decode cX8_relates 311 = .ok (.iconst 0, 1) := dz_3 (k_X8_relates 4 55 rfl)
theorem dX8_relates_312 : decode cX8_relates 312 = .ok (.istore_n 3, 1) := dz_62 (k_X8_relates 4 56 rfl)
theorem dX8_relates_313 : decode cX8_relates 313 = .ok (.iload_n 3, 1) := dz_29 (k_X8_relates 4 57 rfl)
theorem dX8_relates_314 : decode cX8_relates 314 = .ok (.aload_n 0, 1) := dz_42 (k_X8_relates 4 58 rfl)
theorem dX8_relates_315 : decode cX8_relates 315 = .ok (.getfield 360, 3) := dz_180 (k_X8_relates 4 59 rfl) (k_X8_relates 4 60 rfl) (k_X8_relates 4 61 rfl) rfl
theorem dX8_relates_318 : decode cX8_relates 318 = .ok (.if_icmp .ge 147, 3) := dz_162 (k_X8_relates 4 62 rfl) (k_X8_relates 4 63 rfl) (k_X8_relates 5 0 rfl) rfl
theorem dX8_relates_321 : decode cX8_relates 321 = .ok (.bipush 40, 2) := dz_16 (k_X8_relates 5 1 rfl) (k_X8_relates 5 2 rfl) rfl
theorem dX8_relates_323 : decode cX8_relates 323 = .ok (.iload_n 2, 1) := dz_28 (k_X8_relates 5 3 rfl)
theorem dX8_relates_324 : decode cX8_relates 324 = .ok (.imul, 1) := dz_104 (k_X8_relates 5 4 rfl)
theorem dX8_relates_325 : decode cX8_relates 325 = .ok (.iload_n 3, 1) := dz_29 (k_X8_relates 5 5 rfl)
theorem dX8_relates_326 : decode cX8_relates 326 = .ok (.iadd, 1) := dz_96 (k_X8_relates 5 6 rfl)
theorem dX8_relates_327 : decode cX8_relates 327 = .ok (.istore 4, 2) := dz_54 (k_X8_relates 5 7 rfl) (k_X8_relates 5 8 rfl)
theorem dX8_relates_329 : decode cX8_relates 329 = .ok (.aload_n 0, 1) := dz_42 (k_X8_relates 5 9 rfl)
theorem dX8_relates_330 : decode cX8_relates 330 = .ok (.getfield 74, 3) := dz_180 (k_X8_relates 5 10 rfl) (k_X8_relates 5 11 rfl) (k_X8_relates 5 12 rfl) rfl
theorem dX8_relates_333 : decode cX8_relates 333 = .ok (.iload 4, 2) := dz_21 (k_X8_relates 5 13 rfl) (k_X8_relates 5 14 rfl)
theorem dX8_relates_335 : decode cX8_relates 335 = .ok (.aload_n 0, 1) := dz_42 (k_X8_relates 5 15 rfl)
theorem dX8_relates_336 : decode cX8_relates 336 = .ok (.bipush 30, 2) := dz_16 (k_X8_relates 5 16 rfl) (k_X8_relates 5 17 rfl) rfl
theorem dX8_relates_338 : decode cX8_relates 338 = .ok (.iload_n 2, 1) := dz_28 (k_X8_relates 5 18 rfl)
theorem dX8_relates_339 : decode cX8_relates 339 = .ok (.iadd, 1) := dz_96 (k_X8_relates 5 19 rfl)
theorem dX8_relates_340 : decode cX8_relates 340 = .ok (.bipush 16, 2) := dz_16 (k_X8_relates 5 20 rfl) (k_X8_relates 5 21 rfl) rfl
theorem dX8_relates_342 : decode cX8_relates 342 = .ok (.bipush 30, 2) := dz_16 (k_X8_relates 5 22 rfl) (k_X8_relates 5 23 rfl) rfl
theorem dX8_relates_344 : decode cX8_relates 344 = .ok (.iload_n 3, 1) := dz_29 (k_X8_relates 5 24 rfl)
theorem dX8_relates_345 : decode cX8_relates 345 = .ok (.iadd, 1) := dz_96 (k_X8_relates 5 25 rfl)
theorem dX8_relates_346 : decode cX8_relates 346 = .ok (.invokevirtual 296, 3) := dz_182 (k_X8_relates 5 26 rfl) (k_X8_relates 5 27 rfl) (k_X8_relates 5 28 rfl) rfl
theorem dX8_relates_349 : decode cX8_relates 349 = .ok (.bastore, 1) := dz_84 (k_X8_relates 5 29 rfl)
theorem dX8_relates_350 : decode cX8_relates 350 = .ok (.aload_n 0, 1) := dz_42 (k_X8_relates 5 30 rfl)
theorem dX8_relates_351 : decode cX8_relates 351 = .ok (.getfield 77, 3) := dz_180 (k_X8_relates 5 31 rfl) (k_X8_relates 5 32 rfl) (k_X8_relates 5 33 rfl) rfl
theorem dX8_relates_354 : decode cX8_relates 354 = .ok (.iload 4, 2) := dz_21 (k_X8_relates 5 34 rfl) (k_X8_relates 5 35 rfl)
theorem dX8_relates_356 : decode cX8_relates 356 = .ok (.aload_n 0, 1) := dz_42 (k_X8_relates 5 36 rfl)
theorem dX8_relates_357 : decode cX8_relates 357 = .ok (.bipush 30, 2) := dz_16 (k_X8_relates 5 37 rfl) (k_X8_relates 5 38 rfl) rfl
theorem dX8_relates_359 : decode cX8_relates 359 = .ok (.iload_n 2, 1) := dz_28 (k_X8_relates 5 39 rfl)
theorem dX8_relates_360 : decode cX8_relates 360 = .ok (.iadd, 1) := dz_96 (k_X8_relates 5 40 rfl)
theorem dX8_relates_361 : decode cX8_relates 361 = .ok (.bipush 30, 2) := dz_16 (k_X8_relates 5 41 rfl) (k_X8_relates 5 42 rfl) rfl
theorem dX8_relates_363 : decode cX8_relates 363 = .ok (.iload_n 3, 1) := dz_29 (k_X8_relates 5 43 rfl)
theorem dX8_relates_364 : decode cX8_relates 364 = .ok (.iadd, 1) := dz_96 (k_X8_relates 5 44 rfl)
theorem dX8_relates_365 : decode cX8_relates 365 = .ok (.invokevirtual 290, 3) := dz_182 (k_X8_relates 5 45 rfl) (k_X8_relates 5 46 rfl) (k_X8_relates 5 47 rfl) rfl
theorem dX8_relates_368 : decode cX8_relates 368 = .ok (.bastore, 1) := dz_84 (k_X8_relates 5 48 rfl)
theorem dX8_relates_369 : decode cX8_relates 369 = .ok (.aload_n 0, 1) := dz_42 (k_X8_relates 5 49 rfl)
theorem dX8_relates_370 : decode cX8_relates 370 = .ok (.getfield 80, 3) := dz_180 (k_X8_relates 5 50 rfl) (k_X8_relates 5 51 rfl) (k_X8_relates 5 52 rfl) rfl
theorem dX8_relates_373 : decode cX8_relates 373 = .ok (.iload 4, 2) := dz_21 (k_X8_relates 5 53 rfl) (k_X8_relates 5 54 rfl)
theorem dX8_relates_375 : decode cX8_relates 375 = .ok (.aload_n 0, 1) := dz_42 (k_X8_relates 5 55 rfl)
theorem dX8_relates_376 : decode cX8_relates 376 = .ok (.getfield 59, 3) := dz_180 (k_X8_relates 5 56 rfl) (k_X8_relates 5 57 rfl) (k_X8_relates 5 58 rfl) rfl
theorem dX8_relates_379 : decode cX8_relates 379 = .ok (.iload_n 2, 1) := dz_28 (k_X8_relates 5 59 rfl)
theorem dX8_relates_380 : decode cX8_relates 380 = .ok (.iaload, 1) := dz_46 (k_X8_relates 5 60 rfl)
theorem dX8_relates_381 : decode cX8_relates 381 = .ok (.bipush 14, 2) := dz_16 (k_X8_relates 5 61 rfl) (k_X8_relates 5 62 rfl) rfl
theorem dX8_relates_383 : decode cX8_relates 383 = .ok (.if_icmp .ne 25, 3) := dz_160 (k_X8_relates 5 63 rfl) (k_X8_relates 6 0 rfl) (k_X8_relates 6 1 rfl) rfl
theorem dX8_relates_386 : decode cX8_relates 386 = .ok (.aload_n 0, 1) := dz_42 (k_X8_relates 6 2 rfl)
theorem dX8_relates_387 : decode cX8_relates 387 = .ok (.bipush 30, 2) := dz_16 (k_X8_relates 6 3 rfl) (k_X8_relates 6 4 rfl) rfl
theorem dX8_relates_389 : decode cX8_relates 389 = .ok (.iload_n 2, 1) := dz_28 (k_X8_relates 6 5 rfl)
theorem dX8_relates_390 : decode cX8_relates 390 = .ok (.iadd, 1) := dz_96 (k_X8_relates 6 6 rfl)
theorem dX8_relates_391 : decode cX8_relates 391 = .ok (.iconst 1, 1) := dz_4 (k_X8_relates 6 7 rfl)
theorem dX8_relates_392 : decode cX8_relates 392 = .ok (.aload_n 0, 1) := dz_42 (k_X8_relates 6 8 rfl)
theorem dX8_relates_393 : decode cX8_relates 393 = .ok (.bipush 30, 2) := dz_16 (k_X8_relates 6 9 rfl) (k_X8_relates 6 10 rfl) rfl
theorem dX8_relates_395 : decode cX8_relates 395 = .ok (.iload_n 2, 1) := dz_28 (k_X8_relates 6 11 rfl)
theorem dX8_relates_396 : decode cX8_relates 396 = .ok (.iadd, 1) := dz_96 (k_X8_relates 6 12 rfl)
theorem dX8_relates_397 : decode cX8_relates 397 = .ok (.iconst 1, 1) := dz_4 (k_X8_relates 6 13 rfl)
theorem dX8_relates_398 : decode cX8_relates 398 = .ok (.invokevirtual 132, 3) := dz_182 (k_X8_relates 6 14 rfl) (k_X8_relates 6 15 rfl) (k_X8_relates 6 16 rfl) rfl
theorem dX8_relates_401 : decode cX8_relates 401 = .ok (.iload_n 3, 1) := dz_29 (k_X8_relates 6 17 rfl)
theorem dX8_relates_402 : decode cX8_relates 402 = .ok (.invokevirtual 384, 3) := dz_182 (k_X8_relates 6 18 rfl) (k_X8_relates 6 19 rfl) (k_X8_relates 6 20 rfl) rfl
theorem dX8_relates_405 : decode cX8_relates 405 = .ok (.goto 4, 3) := dz_167 (k_X8_relates 6 21 rfl) (k_X8_relates 6 22 rfl) (k_X8_relates 6 23 rfl) rfl
theorem dX8_relates_408 : decode cX8_relates 408 = .ok (.iconst (-1), 1) := dz_2 (k_X8_relates 6 24 rfl)
theorem dX8_relates_409 : decode cX8_relates 409 = .ok (.iastore, 1) := dz_79 (k_X8_relates 6 25 rfl)
theorem dX8_relates_410 : decode cX8_relates 410 = .ok (.aload_n 0, 1) := dz_42 (k_X8_relates 6 26 rfl)
theorem dX8_relates_411 : decode cX8_relates 411 = .ok (.getfield 83, 3) := dz_180 (k_X8_relates 6 27 rfl) (k_X8_relates 6 28 rfl) (k_X8_relates 6 29 rfl) rfl
theorem dX8_relates_414 : decode cX8_relates 414 = .ok (.iload 4, 2) := dz_21 (k_X8_relates 6 30 rfl) (k_X8_relates 6 31 rfl)
theorem dX8_relates_416 : decode cX8_relates 416 = .ok (.aload_n 0, 1) := dz_42 (k_X8_relates 6 32 rfl)
theorem dX8_relates_417 : decode cX8_relates 417 = .ok (.getfield 59, 3) := dz_180 (k_X8_relates 6 33 rfl) (k_X8_relates 6 34 rfl) (k_X8_relates 6 35 rfl) rfl
theorem dX8_relates_420 : decode cX8_relates 420 = .ok (.iload_n 2, 1) := dz_28 (k_X8_relates 6 36 rfl)
theorem dX8_relates_421 : decode cX8_relates 421 = .ok (.iaload, 1) := dz_46 (k_X8_relates 6 37 rfl)
theorem dX8_relates_422 : decode cX8_relates 422 = .ok (.bipush 14, 2) := dz_16 (k_X8_relates 6 38 rfl) (k_X8_relates 6 39 rfl) rfl
theorem dX8_relates_424 : decode cX8_relates 424 = .ok (.if_icmp .ne 33, 3) := dz_160 (k_X8_relates 6 40 rfl) (k_X8_relates 6 41 rfl) (k_X8_relates 6 42 rfl) rfl
theorem dX8_relates_427 : decode cX8_relates 427 = .ok (.aload_n 0, 1) := dz_42 (k_X8_relates 6 43 rfl)
theorem dX8_relates_428 : decode cX8_relates 428 = .ok (.bipush 30, 2) := dz_16 (k_X8_relates 6 44 rfl) (k_X8_relates 6 45 rfl) rfl
theorem dX8_relates_430 : decode cX8_relates 430 = .ok (.iload_n 2, 1) := dz_28 (k_X8_relates 6 46 rfl)
theorem dX8_relates_431 : decode cX8_relates 431 = .ok (.iadd, 1) := dz_96 (k_X8_relates 6 47 rfl)
theorem dX8_relates_432 : decode cX8_relates 432 = .ok (.aload_n 0, 1) := dz_42 (k_X8_relates 6 48 rfl)
theorem dX8_relates_433 : decode cX8_relates 433 = .ok (.bipush 30, 2) := dz_16 (k_X8_relates 6 49 rfl) (k_X8_relates 6 50 rfl) rfl
theorem dX8_relates_435 : decode cX8_relates 435 = .ok (.iload_n 2, 1) := dz_28 (k_X8_relates 6 51 rfl)
theorem dX8_relates_436 : decode cX8_relates 436 = .ok (.iadd, 1) := dz_96 (k_X8_relates 6 52 rfl)
theorem dX8_relates_437 : decode cX8_relates 437 = .ok (.iconst 1, 1) := dz_4 (k_X8_relates 6 53 rfl)
theorem dX8_relates_438 : decode cX8_relates 438 = .ok (.invokevirtual 132, 3) := dz_182 (k_X8_relates 6 54 rfl) (k_X8_relates 6 55 rfl) (k_X8_relates 6 56 rfl) rfl
theorem dX8_relates_441 : decode cX8_relates 441 = .ok (.aload_n 0, 1) := dz_42 (k_X8_relates 6 57 rfl)
theorem dX8_relates_442 : decode cX8_relates 442 = .ok (.getfield 20, 3) := dz_180 (k_X8_relates 6 58 rfl) (k_X8_relates 6 59 rfl) (k_X8_relates 6 60 rfl) rfl
theorem dX8_relates_445 : decode cX8_relates 445 = .ok (.bipush 30, 2) := dz_16 (k_X8_relates 6 61 rfl) (k_X8_relates 6 62 rfl) rfl
theorem dX8_relates_447 : decode cX8_relates 447 = .ok (.iload_n 2, 1) := dz_28 (k_X8_relates 6 63 rfl)
theorem dX8_relates_448 : decode cX8_relates 448 = .ok (.iadd, 1) := dz_96 (k_X8_relates 7 0 rfl)
theorem dX8_relates_449 : decode cX8_relates 449 = .ok (.iaload, 1) := dz_46 (k_X8_relates 7 1 rfl)
theorem dX8_relates_450 : decode cX8_relates 450 = .ok (.iload_n 3, 1) := dz_29 (k_X8_relates 7 2 rfl)
theorem dX8_relates_451 : decode cX8_relates 451 = .ok (.invokevirtual 384, 3) := dz_182 (k_X8_relates 7 3 rfl) (k_X8_relates 7 4 rfl) (k_X8_relates 7 5 rfl) rfl
theorem dX8_relates_454 : decode cX8_relates 454 = .ok (.goto 4, 3) := dz_167 (k_X8_relates 7 6 rfl) (k_X8_relates 7 7 rfl) (k_X8_relates 7 8 rfl) rfl
theorem dX8_relates_457 : decode cX8_relates 457 = .ok (.iconst (-1), 1) := dz_2 (k_X8_relates 7 9 rfl)
theorem dX8_relates_458 : decode cX8_relates 458 = .ok (.iastore, 1) := dz_79 (k_X8_relates 7 10 rfl)
theorem dX8_relates_459 : decode cX8_relates 459 = .ok (.iinc 3 1, 3) := dz_132 (k_X8_relates 7 11 rfl) (k_X8_relates 7 12 rfl) (k_X8_relates 7 13 rfl) rfl
theorem dX8_relates_462 : decode cX8_relates 462 = .ok (.goto (-149), 3) := dz_167 (k_X8_relates 7 14 rfl) (k_X8_relates 7 15 rfl) (k_X8_relates 7 16 rfl) rfl
theorem dX8_relates_465 : decode cX8_relates 465 = .ok (.iinc 2 1, 3) := dz_132 (k_X8_relates 7 17 rfl) (k_X8_relates 7 18 rfl) (k_X8_relates 7 19 rfl) rfl
theorem dX8_relates_468 : decode cX8_relates 468 = .ok (.goto (-165), 3) := dz_167 (k_X8_relates 7 20 rfl) (k_X8_relates 7 21 rfl) (k_X8_relates 7 22 rfl) rfl
theorem dX8_relates_471 : decode cX8_relates 471 = .ok (.return_, 1) := dz_177 (k_X8_relates 7 23 rfl)
def B_X8_resold : List (List Nat) := [[42, 3, 181, 0, 3, 42, 42, 27, 28, 29, 182, 1, 163, 4, 182, 0, 224, 153, 0, 7, 3, 167, 0, 10, 42, 27, 28, 29, 182, 1, 169, 172]]
theorem k_X8_resold (j i : Nat) {b : Nat} (h : (B_X8_resold[j]?.bind fun c => c[i]?) = some b) : s_by cX8_resold (64 * j + i) b := s_byC (L := B_X8_resold) (by decide +kernel) (by decide +kernel) j i h
theorem dX8_resold_0 : decode cX8_resold 0 = .ok (.aload_n 0, 1) := dz_42 (k_X8_resold 0 0 rfl)
theorem dX8_resold_1 : decode cX8_resold 1 = .ok (.iconst 0, 1) := dz_3 (k_X8_resold 0 1 rfl)
theorem dX8_resold_2 : decode cX8_resold 2 = .ok (.putfield 3, 3) := dz_181 (k_X8_resold 0 2 rfl) (k_X8_resold 0 3 rfl) (k_X8_resold 0 4 rfl) rfl
theorem dX8_resold_5 : decode cX8_resold 5 = .ok (.aload_n 0, 1) := dz_42 (k_X8_resold 0 5 rfl)
theorem dX8_resold_6 : decode cX8_resold 6 = .ok (.aload_n 0, 1) := dz_42 (k_X8_resold 0 6 rfl)
theorem dX8_resold_7 : decode cX8_resold 7 = .ok (.iload_n 1, 1) := dz_27 (k_X8_resold 0 7 rfl)
theorem dX8_resold_8 : decode cX8_resold 8 = .ok (.iload_n 2, 1) := dz_28 (k_X8_resold 0 8 rfl)
theorem dX8_resold_9 : decode cX8_resold 9 = .ok (.iload_n 3, 1) := dz_29 (k_X8_resold 0 9 rfl)
theorem dX8_resold_10 : decode cX8_resold 10 = .ok (.invokevirtual 419, 3) := dz_182 (k_X8_resold 0 10 rfl) (k_X8_resold 0 11 rfl) (k_X8_resold 0 12 rfl) rfl
theorem dX8_resold_13 : decode cX8_resold 13 = .ok (.iconst 1, 1) := dz_4 (k_X8_resold 0 13 rfl)
theorem dX8_resold_14 : decode cX8_resold 14 = .ok (.invokevirtual 224, 3) := dz_182 (k_X8_resold 0 14 rfl) (k_X8_resold 0 15 rfl) (k_X8_resold 0 16 rfl) rfl
theorem dX8_resold_17 : decode cX8_resold 17 = .ok (.ifCond .eq 7, 3) := dz_153 (k_X8_resold 0 17 rfl) (k_X8_resold 0 18 rfl) (k_X8_resold 0 19 rfl) rfl
theorem dX8_resold_20 : decode cX8_resold 20 = .ok (.iconst 0, 1) := dz_3 (k_X8_resold 0 20 rfl)
theorem dX8_resold_21 : decode cX8_resold 21 = .ok (.goto 10, 3) := dz_167 (k_X8_resold 0 21 rfl) (k_X8_resold 0 22 rfl) (k_X8_resold 0 23 rfl) rfl
theorem dX8_resold_24 : decode cX8_resold 24 = .ok (.aload_n 0, 1) := dz_42 (k_X8_resold 0 24 rfl)
theorem dX8_resold_25 : decode cX8_resold 25 = .ok (.iload_n 1, 1) := dz_27 (k_X8_resold 0 25 rfl)
theorem dX8_resold_26 : decode cX8_resold 26 = .ok (.iload_n 2, 1) := dz_28 (k_X8_resold 0 26 rfl)
theorem dX8_resold_27 : decode cX8_resold 27 = .ok (.iload_n 3, 1) := dz_29 (k_X8_resold 0 27 rfl)
theorem dX8_resold_28 : decode cX8_resold 28 = .ok (.invokevirtual 425, 3) := dz_182 (k_X8_resold 0 28 rfl) (k_X8_resold 0 29 rfl) (k_X8_resold 0 30 rfl) rfl
theorem dX8_resold_31 : decode cX8_resold 31 = .ok (.ireturn, 1) := dz_172 (k_X8_resold 0 31 rfl)
def B_X8_resoldBy : List (List Nat) := [[42, 27, 16, 15, 182, 1, 16, 154, 0, 5, 2, 172, 19, 1, 131, 54, 4, 3, 54, 5, 21, 5, 6, 162, 0, 48, 21, 5, 27, 160, 0, 7, 2, 167, 0, 11, 42, 21, 5, 28, 29, 182, 1, 166, 54, 6, 21, 6, 156, 0, 8, 21, 4, 167, 0, 10, 21, 4, 21, 6, 184, 1, 132, 54], [4, 132, 5, 1, 167, 255, 208, 21, 4, 19, 1, 131, 161, 0, 7, 2, 167, 0, 14, 21, 4, 42, 27, 16, 15, 29, 182, 1, 3, 96, 172]]
theorem k_X8_resoldBy (j i : Nat) {b : Nat} (h : (B_X8_resoldBy[j]?.bind fun c => c[i]?) = some b) : s_by cX8_resoldBy (64 * j + i) b := s_byC (L := B_X8_resoldBy) (by decide +kernel) (by decide +kernel) j i h
theorem dX8_resoldBy_0 : decode cX8_resoldBy 0 = .ok (.aload_n 0, 1) := dz_42 (k_X8_resoldBy 0 0 rfl)
theorem dX8_resoldBy_1 : decode cX8_resoldBy 1 = .ok (.iload_n 1, 1) := dz_27 (k_X8_resoldBy 0 1 rfl)
theorem dX8_resoldBy_2 : decode cX8_resoldBy 2 = .ok (.bipush 15, 2) := dz_16 (k_X8_resoldBy 0 2 rfl) (k_X8_resoldBy 0 3 rfl) rfl
theorem dX8_resoldBy_4 : decode cX8_resoldBy 4 = .ok (.invokevirtual 272, 3) := dz_182 (k_X8_resoldBy 0 4 rfl) (k_X8_resoldBy 0 5 rfl) (k_X8_resoldBy 0 6 rfl) rfl
theorem dX8_resoldBy_7 : decode cX8_resoldBy 7 = .ok (.ifCond .ne 5, 3) := dz_154 (k_X8_resoldBy 0 7 rfl) (k_X8_resoldBy 0 8 rfl) (k_X8_resoldBy 0 9 rfl) rfl
theorem dX8_resoldBy_10 : decode cX8_resoldBy 10 = .ok (.iconst (-1), 1) := dz_2 (k_X8_resoldBy 0 10 rfl)
theorem dX8_resoldBy_11 : decode cX8_resoldBy 11 = .ok (.ireturn, 1) := dz_172 (k_X8_resoldBy 0 11 rfl)
theorem dX8_resoldBy_12 : decode cX8_resoldBy 12 = .ok (.ldc_w 387, 3) := dz_19 (k_X8_resoldBy 0 12 rfl) (k_X8_resoldBy 0 13 rfl) (k_X8_resoldBy 0 14 rfl) rfl
theorem dX8_resoldBy_15 : decode cX8_resoldBy 15 = .ok (.istore 4, 2) := dz_54 (k_X8_resoldBy 0 15 rfl) (k_X8_resoldBy 0 16 rfl)
theorem dX8_resoldBy_17 : decode cX8_resoldBy 17 = .ok (.iconst 0, 1) := dz_3 (k_X8_resoldBy 0 17 rfl)
theorem dX8_resoldBy_18 : decode cX8_resoldBy 18 = .ok (.istore 5, 2) := dz_54 (k_X8_resoldBy 0 18 rfl) (k_X8_resoldBy 0 19 rfl)
theorem dX8_resoldBy_20 : decode cX8_resoldBy 20 = .ok (.iload 5, 2) := dz_21 (k_X8_resoldBy 0 20 rfl) (k_X8_resoldBy 0 21 rfl)
theorem dX8_resoldBy_22 : decode cX8_resoldBy 22 = .ok (.iconst 3, 1) := dz_6 (k_X8_resoldBy 0 22 rfl)
theorem dX8_resoldBy_23 : decode cX8_resoldBy 23 = .ok (.if_icmp .ge 48, 3) := dz_162 (k_X8_resoldBy 0 23 rfl) (k_X8_resoldBy 0 24 rfl) (k_X8_resoldBy 0 25 rfl) rfl
theorem dX8_resoldBy_26 : decode cX8_resoldBy 26 = .ok (.iload 5, 2) := dz_21 (k_X8_resoldBy 0 26 rfl) (k_X8_resoldBy 0 27 rfl)
theorem dX8_resoldBy_28 : decode cX8_resoldBy 28 = .ok (.iload_n 1, 1) := dz_27 (k_X8_resoldBy 0 28 rfl)
theorem dX8_resoldBy_29 : decode cX8_resoldBy 29 = .ok (.if_icmp .ne 7, 3) := dz_160 (k_X8_resoldBy 0 29 rfl) (k_X8_resoldBy 0 30 rfl) (k_X8_resoldBy 0 31 rfl) rfl
theorem dX8_resoldBy_32 : decode cX8_resoldBy 32 = .ok (.iconst (-1), 1) := dz_2 (k_X8_resoldBy 0 32 rfl)
theorem dX8_resoldBy_33 : decode cX8_resoldBy 33 = .ok (.goto 11, 3) := dz_167 (k_X8_resoldBy 0 33 rfl) (k_X8_resoldBy 0 34 rfl) (k_X8_resoldBy 0 35 rfl) rfl
theorem dX8_resoldBy_36 : decode cX8_resoldBy 36 = .ok (.aload_n 0, 1) := dz_42 (k_X8_resoldBy 0 36 rfl)
theorem dX8_resoldBy_37 : decode cX8_resoldBy 37 = .ok (.iload 5, 2) := dz_21 (k_X8_resoldBy 0 37 rfl) (k_X8_resoldBy 0 38 rfl)
theorem dX8_resoldBy_39 : decode cX8_resoldBy 39 = .ok (.iload_n 2, 1) := dz_28 (k_X8_resoldBy 0 39 rfl)
theorem dX8_resoldBy_40 : decode cX8_resoldBy 40 = .ok (.iload_n 3, 1) := dz_29 (k_X8_resoldBy 0 40 rfl)
theorem dX8_resoldBy_41 : decode cX8_resoldBy 41 = .ok (.invokevirtual 422, 3) := dz_182 (k_X8_resoldBy 0 41 rfl) (k_X8_resoldBy 0 42 rfl) (k_X8_resoldBy 0 43 rfl) rfl
theorem dX8_resoldBy_44 : decode cX8_resoldBy 44 = .ok (.istore 6, 2) := dz_54 (k_X8_resoldBy 0 44 rfl) (k_X8_resoldBy 0 45 rfl)
theorem dX8_resoldBy_46 : decode cX8_resoldBy 46 = .ok (.iload 6, 2) := dz_21 (k_X8_resoldBy 0 46 rfl) (k_X8_resoldBy 0 47 rfl)
theorem dX8_resoldBy_48 : decode cX8_resoldBy 48 = .ok (.ifCond .ge 8, 3) := dz_156 (k_X8_resoldBy 0 48 rfl) (k_X8_resoldBy 0 49 rfl) (k_X8_resoldBy 0 50 rfl) rfl
theorem dX8_resoldBy_51 : decode cX8_resoldBy 51 = .ok (.iload 4, 2) := dz_21 (k_X8_resoldBy 0 51 rfl) (k_X8_resoldBy 0 52 rfl)
theorem dX8_resoldBy_53 : decode cX8_resoldBy 53 = .ok (.goto 10, 3) := dz_167 (k_X8_resoldBy 0 53 rfl) (k_X8_resoldBy 0 54 rfl) (k_X8_resoldBy 0 55 rfl) rfl
theorem dX8_resoldBy_56 : decode cX8_resoldBy 56 = .ok (.iload 4, 2) := dz_21 (k_X8_resoldBy 0 56 rfl) (k_X8_resoldBy 0 57 rfl)
theorem dX8_resoldBy_58 : decode cX8_resoldBy 58 = .ok (.iload 6, 2) := dz_21 (k_X8_resoldBy 0 58 rfl) (k_X8_resoldBy 0 59 rfl)
theorem dX8_resoldBy_60 : decode cX8_resoldBy 60 = .ok (.invokestatic 388, 3) := dz_184 (k_X8_resoldBy 0 60 rfl) (k_X8_resoldBy 0 61 rfl) (k_X8_resoldBy 0 62 rfl) rfl
theorem dX8_resoldBy_63 : decode cX8_resoldBy 63 = .ok (.istore 4, 2) := dz_54 (k_X8_resoldBy 0 63 rfl) (k_X8_resoldBy 1 0 rfl)
theorem dX8_resoldBy_65 : decode cX8_resoldBy 65 = .ok (.iinc 5 1, 3) := dz_132 (k_X8_resoldBy 1 1 rfl) (k_X8_resoldBy 1 2 rfl) (k_X8_resoldBy 1 3 rfl) rfl
theorem dX8_resoldBy_68 : decode cX8_resoldBy 68 = .ok (.goto (-48), 3) := dz_167 (k_X8_resoldBy 1 4 rfl) (k_X8_resoldBy 1 5 rfl) (k_X8_resoldBy 1 6 rfl) rfl
theorem dX8_resoldBy_71 : decode cX8_resoldBy 71 = .ok (.iload 4, 2) := dz_21 (k_X8_resoldBy 1 7 rfl) (k_X8_resoldBy 1 8 rfl)
theorem dX8_resoldBy_73 : decode cX8_resoldBy 73 = .ok (.ldc_w 387, 3) := dz_19 (k_X8_resoldBy 1 9 rfl) (k_X8_resoldBy 1 10 rfl) (k_X8_resoldBy 1 11 rfl) rfl
theorem dX8_resoldBy_76 : decode cX8_resoldBy 76 = .ok (.if_icmp .lt 7, 3) := dz_161 (k_X8_resoldBy 1 12 rfl) (k_X8_resoldBy 1 13 rfl) (k_X8_resoldBy 1 14 rfl) rfl
theorem dX8_resoldBy_79 : decode cX8_resoldBy 79 = .ok (.iconst (-1), 1) := dz_2 (k_X8_resoldBy 1 15 rfl)
theorem dX8_resoldBy_80 : decode cX8_resoldBy 80 = .ok (.goto 14, 3) := dz_167 (k_X8_resoldBy 1 16 rfl) (k_X8_resoldBy 1 17 rfl) (k_X8_resoldBy 1 18 rfl) rfl
theorem dX8_resoldBy_83 : decode cX8_resoldBy 83 = .ok (.iload 4, 2) := dz_21 (k_X8_resoldBy 1 19 rfl) (k_X8_resoldBy 1 20 rfl)
theorem dX8_resoldBy_85 : decode cX8_resoldBy 85 = .ok (.aload_n 0, 1) := dz_42 (k_X8_resoldBy 1 21 rfl)
theorem dX8_resoldBy_86 : decode cX8_resoldBy 86 = .ok (.iload_n 1, 1) := dz_27 (k_X8_resoldBy 1 22 rfl)
theorem dX8_resoldBy_87 : decode cX8_resoldBy 87 = .ok (.bipush 15, 2) := dz_16 (k_X8_resoldBy 1 23 rfl) (k_X8_resoldBy 1 24 rfl) rfl
theorem dX8_resoldBy_89 : decode cX8_resoldBy 89 = .ok (.iload_n 3, 1) := dz_29 (k_X8_resoldBy 1 25 rfl)
theorem dX8_resoldBy_90 : decode cX8_resoldBy 90 = .ok (.invokevirtual 259, 3) := dz_182 (k_X8_resoldBy 1 26 rfl) (k_X8_resoldBy 1 27 rfl) (k_X8_resoldBy 1 28 rfl) rfl
theorem dX8_resoldBy_93 : decode cX8_resoldBy 93 = .ok (.iadd, 1) := dz_96 (k_X8_resoldBy 1 29 rfl)
theorem dX8_resoldBy_94 : decode cX8_resoldBy 94 = .ok (.ireturn, 1) := dz_172 (k_X8_resoldBy 1 30 rfl)
def B_X8_rests : List (List Nat) := [[42, 3, 181, 0, 3, 42, 42, 27, 182, 1, 7, 4, 182, 0, 224, 153, 0, 5, 9, 173, 42, 182, 1, 57, 42, 180, 0, 43, 27, 47, 173]]
theorem k_X8_rests (j i : Nat) {b : Nat} (h : (B_X8_rests[j]?.bind fun c => c[i]?) = some b) : s_by cX8_rests (64 * j + i) b := s_byC (L := B_X8_rests) (by decide +kernel) (by decide +kernel) j i h
theorem dX8_rests_0 : decode cX8_rests 0 = .ok (.aload_n 0, 1) := dz_42 (k_X8_rests 0 0 rfl)
theorem dX8_rests_1 : decode cX8_rests 1 = .ok (.iconst 0, 1) := dz_3 (k_X8_rests 0 1 rfl)
theorem dX8_rests_2 : decode cX8_rests 2 = .ok (.putfield 3, 3) := dz_181 (k_X8_rests 0 2 rfl) (k_X8_rests 0 3 rfl) (k_X8_rests 0 4 rfl) rfl
theorem dX8_rests_5 : decode cX8_rests 5 = .ok (.aload_n 0, 1) := dz_42 (k_X8_rests 0 5 rfl)
theorem dX8_rests_6 : decode cX8_rests 6 = .ok (.aload_n 0, 1) := dz_42 (k_X8_rests 0 6 rfl)
theorem dX8_rests_7 : decode cX8_rests 7 = .ok (.iload_n 1, 1) := dz_27 (k_X8_rests 0 7 rfl)
theorem dX8_rests_8 : decode cX8_rests 8 = .ok (.invokevirtual 263, 3) := dz_182 (k_X8_rests 0 8 rfl) (k_X8_rests 0 9 rfl) (k_X8_rests 0 10 rfl) rfl
theorem dX8_rests_11 : decode cX8_rests 11 = .ok (.iconst 1, 1) := dz_4 (k_X8_rests 0 11 rfl)
theorem dX8_rests_12 : decode cX8_rests 12 = .ok (.invokevirtual 224, 3) := dz_182 (k_X8_rests 0 12 rfl) (k_X8_rests 0 13 rfl) (k_X8_rests 0 14 rfl) rfl
theorem dX8_rests_15 : decode cX8_rests 15 = .ok (.ifCond .eq 5, 3) := dz_153 (k_X8_rests 0 15 rfl) (k_X8_rests 0 16 rfl) (k_X8_rests 0 17 rfl) rfl
theorem dX8_rests_18 : decode cX8_rests 18 = .ok (.lconst 0, 1) := dz_9 (k_X8_rests 0 18 rfl)
theorem dX8_rests_19 : decode cX8_rests 19 = .ok (.lreturn, 1) := dz_173 (k_X8_rests 0 19 rfl)
theorem dX8_rests_20 : decode cX8_rests 20 = .ok (.aload_n 0, 1) := dz_42 (k_X8_rests 0 20 rfl)
theorem dX8_rests_21 : decode cX8_rests 21 = .ok (.invokevirtual 313, 3) := dz_182 (k_X8_rests 0 21 rfl) (k_X8_rests 0 22 rfl) (k_X8_rests 0 23 rfl) rfl
theorem dX8_rests_24 : decode cX8_rests 24 = .ok (.aload_n 0, 1) := dz_42 (k_X8_rests 0 24 rfl)
theorem dX8_rests_25 : decode cX8_rests 25 = .ok (.getfield 43, 3) := dz_180 (k_X8_rests 0 25 rfl) (k_X8_rests 0 26 rfl) (k_X8_rests 0 27 rfl) rfl
theorem dX8_rests_28 : decode cX8_rests 28 = .ok (.iload_n 1, 1) := dz_27 (k_X8_rests 0 28 rfl)
theorem dX8_rests_29 : decode cX8_rests 29 = .ok (.laload, 1) := dz_47 (k_X8_rests 0 29 rfl)
theorem dX8_rests_30 : decode cX8_rests 30 = .ok (.lreturn, 1) := dz_173 (k_X8_rests 0 30 rfl)
def B_X8_rules : List (List Nat) := [[42, 3, 181, 0, 3, 42, 27, 184, 0, 246, 4, 182, 0, 224, 154, 0, 26, 42, 28, 3, 18, 95, 184, 0, 107, 154, 0, 7, 4, 167, 0, 4, 3, 5, 182, 0, 224, 153, 0, 5, 3, 172, 42, 180, 0, 13, 7, 16, 18, 27, 104, 96, 46, 62, 42, 180, 0, 13, 7, 16, 18, 27, 104, 96], [28, 79, 29, 172]]
theorem k_X8_rules (j i : Nat) {b : Nat} (h : (B_X8_rules[j]?.bind fun c => c[i]?) = some b) : s_by cX8_rules (64 * j + i) b := s_byC (L := B_X8_rules) (by decide +kernel) (by decide +kernel) j i h
theorem dX8_rules_0 : decode cX8_rules 0 = .ok (.aload_n 0, 1) := dz_42 (k_X8_rules 0 0 rfl)
theorem dX8_rules_1 : decode cX8_rules 1 = .ok (.iconst 0, 1) := dz_3 (k_X8_rules 0 1 rfl)
theorem dX8_rules_2 : decode cX8_rules 2 = .ok (.putfield 3, 3) := dz_181 (k_X8_rules 0 2 rfl) (k_X8_rules 0 3 rfl) (k_X8_rules 0 4 rfl) rfl
theorem dX8_rules_5 : decode cX8_rules 5 = .ok (.aload_n 0, 1) := dz_42 (k_X8_rules 0 5 rfl)
theorem dX8_rules_6 : decode cX8_rules 6 = .ok (.iload_n 1, 1) := dz_27 (k_X8_rules 0 6 rfl)
theorem dX8_rules_7 : decode cX8_rules 7 = .ok (.invokestatic 246, 3) := dz_184 (k_X8_rules 0 7 rfl) (k_X8_rules 0 8 rfl) (k_X8_rules 0 9 rfl) rfl
theorem dX8_rules_10 : decode cX8_rules 10 = .ok (.iconst 1, 1) := dz_4 (k_X8_rules 0 10 rfl)
theorem dX8_rules_11 : decode cX8_rules 11 = .ok (.invokevirtual 224, 3) := dz_182 (k_X8_rules 0 11 rfl) (k_X8_rules 0 12 rfl) (k_X8_rules 0 13 rfl) rfl
theorem dX8_rules_14 : decode cX8_rules 14 = .ok (.ifCond .ne 26, 3) := dz_154 (k_X8_rules 0 14 rfl) (k_X8_rules 0 15 rfl) (k_X8_rules 0 16 rfl) rfl
theorem dX8_rules_17 : decode cX8_rules 17 = .ok (.aload_n 0, 1) := dz_42 (k_X8_rules 0 17 rfl)
theorem dX8_rules_18 : decode cX8_rules 18 = .ok (.iload_n 2, 1) := dz_28 (k_X8_rules 0 18 rfl)
theorem dX8_rules_19 : decode cX8_rules 19 = .ok (.iconst 0, 1) := dz_3 (k_X8_rules 0 19 rfl)
theorem dX8_rules_20 : decode cX8_rules 20 = .ok (.ldc 95, 2) := dz_18 (k_X8_rules 0 20 rfl) (k_X8_rules 0 21 rfl)
theorem dX8_rules_22 : decode cX8_rules 22 = .ok (.invokestatic 107, 3) := dz_184 (k_X8_rules 0 22 rfl) (k_X8_rules 0 23 rfl) (k_X8_rules 0 24 rfl) rfl
theorem dX8_rules_25 : decode cX8_rules 25 = .ok (.ifCond .ne 7, 3) := dz_154 (k_X8_rules 0 25 rfl) (k_X8_rules 0 26 rfl) (k_X8_rules 0 27 rfl) rfl
theorem dX8_rules_28 : decode cX8_rules 28 = .ok (.iconst 1, 1) := dz_4 (k_X8_rules 0 28 rfl)
theorem dX8_rules_29 : decode cX8_rules 29 = .ok (.goto 4, 3) := dz_167 (k_X8_rules 0 29 rfl) (k_X8_rules 0 30 rfl) (k_X8_rules 0 31 rfl) rfl
theorem dX8_rules_32 : decode cX8_rules 32 = .ok (.iconst 0, 1) := dz_3 (k_X8_rules 0 32 rfl)
theorem dX8_rules_33 : decode cX8_rules 33 = .ok (.iconst 2, 1) := dz_5 (k_X8_rules 0 33 rfl)
theorem dX8_rules_34 : decode cX8_rules 34 = .ok (.invokevirtual 224, 3) := dz_182 (k_X8_rules 0 34 rfl) (k_X8_rules 0 35 rfl) (k_X8_rules 0 36 rfl) rfl
theorem dX8_rules_37 : decode cX8_rules 37 = .ok (.ifCond .eq 5, 3) := dz_153 (k_X8_rules 0 37 rfl) (k_X8_rules 0 38 rfl) (k_X8_rules 0 39 rfl) rfl
theorem dX8_rules_40 : decode cX8_rules 40 = .ok (.iconst 0, 1) := dz_3 (k_X8_rules 0 40 rfl)
theorem dX8_rules_41 : decode cX8_rules 41 = .ok (.ireturn, 1) := dz_172 (k_X8_rules 0 41 rfl)
theorem dX8_rules_42 : decode cX8_rules 42 = .ok (.aload_n 0, 1) := dz_42 (k_X8_rules 0 42 rfl)
theorem dX8_rules_43 : decode cX8_rules 43 = .ok (.getfield 13, 3) := dz_180 (k_X8_rules 0 43 rfl) (k_X8_rules 0 44 rfl) (k_X8_rules 0 45 rfl) rfl
theorem dX8_rules_46 : decode cX8_rules 46 = .ok (.iconst 4, 1) := dz_7 (k_X8_rules 0 46 rfl)
theorem dX8_rules_47 : decode cX8_rules 47 = .ok (.bipush 18, 2) := dz_16 (k_X8_rules 0 47 rfl) (k_X8_rules 0 48 rfl) rfl
theorem dX8_rules_49 : decode cX8_rules 49 = .ok (.iload_n 1, 1) := dz_27 (k_X8_rules 0 49 rfl)
theorem dX8_rules_50 : decode cX8_rules 50 = .ok (.imul, 1) := dz_104 (k_X8_rules 0 50 rfl)
theorem dX8_rules_51 : decode cX8_rules 51 = .ok (.iadd, 1) := dz_96 (k_X8_rules 0 51 rfl)
theorem dX8_rules_52 : decode cX8_rules 52 = .ok (.iaload, 1) := dz_46 (k_X8_rules 0 52 rfl)
theorem dX8_rules_53 : decode cX8_rules 53 = .ok (.istore_n 3, 1) := dz_62 (k_X8_rules 0 53 rfl)
theorem dX8_rules_54 : decode cX8_rules 54 = .ok (.aload_n 0, 1) := dz_42 (k_X8_rules 0 54 rfl)
theorem dX8_rules_55 : decode cX8_rules 55 = .ok (.getfield 13, 3) := dz_180 (k_X8_rules 0 55 rfl) (k_X8_rules 0 56 rfl) (k_X8_rules 0 57 rfl) rfl
theorem dX8_rules_58 : decode cX8_rules 58 = .ok (.iconst 4, 1) := dz_7 (k_X8_rules 0 58 rfl)
theorem dX8_rules_59 : decode cX8_rules 59 = .ok (.bipush 18, 2) := dz_16 (k_X8_rules 0 59 rfl) (k_X8_rules 0 60 rfl) rfl
theorem dX8_rules_61 : decode cX8_rules 61 = .ok (.iload_n 1, 1) := dz_27 (k_X8_rules 0 61 rfl)
theorem dX8_rules_62 : decode cX8_rules 62 = .ok (.imul, 1) := dz_104 (k_X8_rules 0 62 rfl)
theorem dX8_rules_63 : decode cX8_rules 63 = .ok (.iadd, 1) := dz_96 (k_X8_rules 0 63 rfl)
theorem dX8_rules_64 : decode cX8_rules 64 = .ok (.iload_n 2, 1) := dz_28 (k_X8_rules 1 0 rfl)
theorem dX8_rules_65 : decode cX8_rules 65 = .ok (.iastore, 1) := dz_79 (k_X8_rules 1 1 rfl)
theorem dX8_rules_66 : decode cX8_rules 66 = .ok (.iload_n 3, 1) := dz_29 (k_X8_rules 1 2 rfl)
theorem dX8_rules_67 : decode cX8_rules 67 = .ok (.ireturn, 1) := dz_172 (k_X8_rules 1 3 rfl)
def B_X8_same : List (List Nat) := [[42, 3, 181, 0, 3, 42, 42, 27, 182, 0, 231, 154, 0, 11, 42, 28, 182, 0, 231, 153, 0, 7, 4, 167, 0, 4, 3, 4, 182, 0, 224, 154, 0, 16, 42, 27, 28, 182, 0, 234, 153, 0, 7, 4, 167, 0, 4, 3, 172]]
theorem k_X8_same (j i : Nat) {b : Nat} (h : (B_X8_same[j]?.bind fun c => c[i]?) = some b) : s_by cX8_same (64 * j + i) b := s_byC (L := B_X8_same) (by decide +kernel) (by decide +kernel) j i h
theorem dX8_same_0 : decode cX8_same 0 = .ok (.aload_n 0, 1) := dz_42 (k_X8_same 0 0 rfl)
theorem dX8_same_1 : decode cX8_same 1 = .ok (.iconst 0, 1) := dz_3 (k_X8_same 0 1 rfl)
theorem dX8_same_2 : decode cX8_same 2 = .ok (.putfield 3, 3) := dz_181 (k_X8_same 0 2 rfl) (k_X8_same 0 3 rfl) (k_X8_same 0 4 rfl) rfl
theorem dX8_same_5 : decode cX8_same 5 = .ok (.aload_n 0, 1) := dz_42 (k_X8_same 0 5 rfl)
theorem dX8_same_6 : decode cX8_same 6 = .ok (.aload_n 0, 1) := dz_42 (k_X8_same 0 6 rfl)
theorem dX8_same_7 : decode cX8_same 7 = .ok (.iload_n 1, 1) := dz_27 (k_X8_same 0 7 rfl)
theorem dX8_same_8 : decode cX8_same 8 = .ok (.invokevirtual 231, 3) := dz_182 (k_X8_same 0 8 rfl) (k_X8_same 0 9 rfl) (k_X8_same 0 10 rfl) rfl
theorem dX8_same_11 : decode cX8_same 11 = .ok (.ifCond .ne 11, 3) := dz_154 (k_X8_same 0 11 rfl) (k_X8_same 0 12 rfl) (k_X8_same 0 13 rfl) rfl
theorem dX8_same_14 : decode cX8_same 14 = .ok (.aload_n 0, 1) := dz_42 (k_X8_same 0 14 rfl)
theorem dX8_same_15 : decode cX8_same 15 = .ok (.iload_n 2, 1) := dz_28 (k_X8_same 0 15 rfl)
theorem dX8_same_16 : decode cX8_same 16 = .ok (.invokevirtual 231, 3) := dz_182 (k_X8_same 0 16 rfl) (k_X8_same 0 17 rfl) (k_X8_same 0 18 rfl) rfl
theorem dX8_same_19 : decode cX8_same 19 = .ok (.ifCond .eq 7, 3) := dz_153 (k_X8_same 0 19 rfl) (k_X8_same 0 20 rfl) (k_X8_same 0 21 rfl) rfl
theorem dX8_same_22 : decode cX8_same 22 = .ok (.iconst 1, 1) := dz_4 (k_X8_same 0 22 rfl)
theorem dX8_same_23 : decode cX8_same 23 = .ok (.goto 4, 3) := dz_167 (k_X8_same 0 23 rfl) (k_X8_same 0 24 rfl) (k_X8_same 0 25 rfl) rfl
theorem dX8_same_26 : decode cX8_same 26 = .ok (.iconst 0, 1) := dz_3 (k_X8_same 0 26 rfl)
theorem dX8_same_27 : decode cX8_same 27 = .ok (.iconst 1, 1) := dz_4 (k_X8_same 0 27 rfl)
theorem dX8_same_28 : decode cX8_same 28 = .ok (.invokevirtual 224, 3) := dz_182 (k_X8_same 0 28 rfl) (k_X8_same 0 29 rfl) (k_X8_same 0 30 rfl) rfl
theorem dX8_same_31 : decode cX8_same 31 = .ok (.ifCond .ne 16, 3) := dz_154 (k_X8_same 0 31 rfl) (k_X8_same 0 32 rfl) (k_X8_same 0 33 rfl) rfl
theorem dX8_same_34 : decode cX8_same 34 = .ok (.aload_n 0, 1) := dz_42 (k_X8_same 0 34 rfl)
theorem dX8_same_35 : decode cX8_same 35 = .ok (.iload_n 1, 1) := dz_27 (k_X8_same 0 35 rfl)
theorem dX8_same_36 : decode cX8_same 36 = .ok (.iload_n 2, 1) := dz_28 (k_X8_same 0 36 rfl)
theorem dX8_same_37 : decode cX8_same 37 = .ok (.invokevirtual 234, 3) := dz_182 (k_X8_same 0 37 rfl) (k_X8_same 0 38 rfl) (k_X8_same 0 39 rfl) rfl
theorem dX8_same_40 : decode cX8_same 40 = .ok (.ifCond .eq 7, 3) := dz_153 (k_X8_same 0 40 rfl) (k_X8_same 0 41 rfl) (k_X8_same 0 42 rfl) rfl
theorem dX8_same_43 : decode cX8_same 43 = .ok (.iconst 1, 1) := dz_4 (k_X8_same 0 43 rfl)
theorem dX8_same_44 : decode cX8_same 44 = .ok (.goto 4, 3) := dz_167 (k_X8_same 0 44 rfl) (k_X8_same 0 45 rfl) (k_X8_same 0 46 rfl) rfl
theorem dX8_same_47 : decode cX8_same 47 = .ok (.iconst 0, 1) := dz_3 (k_X8_same 0 47 rfl)
theorem dX8_same_48 : decode cX8_same 48 = .ok (.ireturn, 1) := dz_172 (k_X8_same 0 48 rfl)
def B_X8_seenAt : List (List Nat) := [[3, 61, 28, 42, 180, 1, 104, 162, 0, 23, 42, 16, 30, 28, 96, 27, 182, 0, 234, 153, 0, 5, 28, 172, 132, 2, 1, 167, 255, 231, 2, 172]]
theorem k_X8_seenAt (j i : Nat) {b : Nat} (h : (B_X8_seenAt[j]?.bind fun c => c[i]?) = some b) : s_by cX8_seenAt (64 * j + i) b := s_byC (L := B_X8_seenAt) (by decide +kernel) (by decide +kernel) j i h
theorem dX8_seenAt_0 : decode cX8_seenAt 0 = .ok (.iconst 0, 1) := dz_3 (k_X8_seenAt 0 0 rfl)
theorem dX8_seenAt_1 : decode cX8_seenAt 1 = .ok (.istore_n 2, 1) := dz_61 (k_X8_seenAt 0 1 rfl)
theorem dX8_seenAt_2 : decode cX8_seenAt 2 = .ok (.iload_n 2, 1) := dz_28 (k_X8_seenAt 0 2 rfl)
theorem dX8_seenAt_3 : decode cX8_seenAt 3 = .ok (.aload_n 0, 1) := dz_42 (k_X8_seenAt 0 3 rfl)
theorem dX8_seenAt_4 : decode cX8_seenAt 4 = .ok (.getfield 360, 3) := dz_180 (k_X8_seenAt 0 4 rfl) (k_X8_seenAt 0 5 rfl) (k_X8_seenAt 0 6 rfl) rfl
theorem dX8_seenAt_7 : decode cX8_seenAt 7 = .ok (.if_icmp .ge 23, 3) := dz_162 (k_X8_seenAt 0 7 rfl) (k_X8_seenAt 0 8 rfl) (k_X8_seenAt 0 9 rfl) rfl
theorem dX8_seenAt_10 : decode cX8_seenAt 10 = .ok (.aload_n 0, 1) := dz_42 (k_X8_seenAt 0 10 rfl)
theorem dX8_seenAt_11 : decode cX8_seenAt 11 = .ok (.bipush 30, 2) := dz_16 (k_X8_seenAt 0 11 rfl) (k_X8_seenAt 0 12 rfl) rfl
theorem dX8_seenAt_13 : decode cX8_seenAt 13 = .ok (.iload_n 2, 1) := dz_28 (k_X8_seenAt 0 13 rfl)
theorem dX8_seenAt_14 : decode cX8_seenAt 14 = .ok (.iadd, 1) := dz_96 (k_X8_seenAt 0 14 rfl)
theorem dX8_seenAt_15 : decode cX8_seenAt 15 = .ok (.iload_n 1, 1) := dz_27 (k_X8_seenAt 0 15 rfl)
theorem dX8_seenAt_16 : decode cX8_seenAt 16 = .ok (.invokevirtual 234, 3) := dz_182 (k_X8_seenAt 0 16 rfl) (k_X8_seenAt 0 17 rfl) (k_X8_seenAt 0 18 rfl) rfl
theorem dX8_seenAt_19 : decode cX8_seenAt 19 = .ok (.ifCond .eq 5, 3) := dz_153 (k_X8_seenAt 0 19 rfl) (k_X8_seenAt 0 20 rfl) (k_X8_seenAt 0 21 rfl) rfl
theorem dX8_seenAt_22 : decode cX8_seenAt 22 = .ok (.iload_n 2, 1) := dz_28 (k_X8_seenAt 0 22 rfl)
theorem dX8_seenAt_23 : decode cX8_seenAt 23 = .ok (.ireturn, 1) := dz_172 (k_X8_seenAt 0 23 rfl)
theorem dX8_seenAt_24 : decode cX8_seenAt 24 = .ok (.iinc 2 1, 3) := dz_132 (k_X8_seenAt 0 24 rfl) (k_X8_seenAt 0 25 rfl) (k_X8_seenAt 0 26 rfl) rfl
theorem dX8_seenAt_27 : decode cX8_seenAt 27 = .ok (.goto (-25), 3) := dz_167 (k_X8_seenAt 0 27 rfl) (k_X8_seenAt 0 28 rfl) (k_X8_seenAt 0 29 rfl) rfl
theorem dX8_seenAt_30 : decode cX8_seenAt 30 = .ok (.iconst (-1), 1) := dz_2 (k_X8_seenAt 0 30 rfl)
theorem dX8_seenAt_31 : decode cX8_seenAt 31 = .ok (.ireturn, 1) := dz_172 (k_X8_seenAt 0 31 rfl)
def B_X8_sell : List (List Nat) := [[42, 3, 181, 0, 3, 42, 42, 27, 182, 1, 7, 4, 182, 0, 224, 154, 0, 83, 42, 28, 3, 16, 6, 184, 0, 107, 153, 0, 38, 29, 3, 17, 39, 15, 184, 0, 107, 153, 0, 27, 21, 4, 3, 17, 39, 15, 184, 0, 107, 153, 0, 15, 28, 7, 100, 42, 27, 3, 182, 1, 0, 160, 0, 7], [4, 167, 0, 4, 3, 5, 182, 0, 224, 154, 0, 25, 42, 42, 182, 1, 175, 16, 30, 160, 0, 7, 4, 167, 0, 4, 3, 6, 182, 0, 224, 153, 0, 5, 3, 172, 17, 5, 252, 8, 42, 182, 1, 175, 104, 96, 54, 5, 42, 180, 0, 13, 21, 5, 27, 79, 42, 180, 0, 13, 21, 5, 4, 96], [28, 79, 42, 180, 0, 13, 21, 5, 5, 96, 29, 79, 42, 180, 0, 13, 21, 5, 6, 96, 21, 4, 79, 42, 180, 0, 13, 21, 5, 7, 96, 3, 79, 42, 180, 0, 13, 6, 92, 46, 4, 96, 79, 42, 182, 1, 175, 4, 100, 172]]
theorem k_X8_sell (j i : Nat) {b : Nat} (h : (B_X8_sell[j]?.bind fun c => c[i]?) = some b) : s_by cX8_sell (64 * j + i) b := s_byC (L := B_X8_sell) (by decide +kernel) (by decide +kernel) j i h
theorem dX8_sell_0 : decode cX8_sell 0 = .ok (.aload_n 0, 1) := dz_42 (k_X8_sell 0 0 rfl)
theorem dX8_sell_1 : decode cX8_sell 1 = .ok (.iconst 0, 1) := dz_3 (k_X8_sell 0 1 rfl)
theorem dX8_sell_2 : decode cX8_sell 2 = .ok (.putfield 3, 3) := dz_181 (k_X8_sell 0 2 rfl) (k_X8_sell 0 3 rfl) (k_X8_sell 0 4 rfl) rfl
theorem dX8_sell_5 : decode cX8_sell 5 = .ok (.aload_n 0, 1) := dz_42 (k_X8_sell 0 5 rfl)
theorem dX8_sell_6 : decode cX8_sell 6 = .ok (.aload_n 0, 1) := dz_42 (k_X8_sell 0 6 rfl)
theorem dX8_sell_7 : decode cX8_sell 7 = .ok (.iload_n 1, 1) := dz_27 (k_X8_sell 0 7 rfl)
theorem dX8_sell_8 : decode cX8_sell 8 = .ok (.invokevirtual 263, 3) := dz_182 (k_X8_sell 0 8 rfl) (k_X8_sell 0 9 rfl) (k_X8_sell 0 10 rfl) rfl
theorem dX8_sell_11 : decode cX8_sell 11 = .ok (.iconst 1, 1) := dz_4 (k_X8_sell 0 11 rfl)
theorem dX8_sell_12 : decode cX8_sell 12 = .ok (.invokevirtual 224, 3) := dz_182 (k_X8_sell 0 12 rfl) (k_X8_sell 0 13 rfl) (k_X8_sell 0 14 rfl) rfl
theorem dX8_sell_15 : decode cX8_sell 15 = .ok (.ifCond .ne 83, 3) := dz_154 (k_X8_sell 0 15 rfl) (k_X8_sell 0 16 rfl) (k_X8_sell 0 17 rfl) rfl
theorem dX8_sell_18 : decode cX8_sell 18 = .ok (.aload_n 0, 1) := dz_42 (k_X8_sell 0 18 rfl)
theorem dX8_sell_19 : decode cX8_sell 19 = .ok (.iload_n 2, 1) := dz_28 (k_X8_sell 0 19 rfl)
theorem dX8_sell_20 : decode cX8_sell 20 = .ok (.iconst 0, 1) := dz_3 (k_X8_sell 0 20 rfl)
theorem dX8_sell_21 : decode cX8_sell 21 = .ok (.bipush 6, 2) := dz_16 (k_X8_sell 0 21 rfl) (k_X8_sell 0 22 rfl) rfl
theorem dX8_sell_23 : decode cX8_sell 23 = .ok (.invokestatic 107, 3) := dz_184 (k_X8_sell 0 23 rfl) (k_X8_sell 0 24 rfl) (k_X8_sell 0 25 rfl) rfl
theorem dX8_sell_26 : decode cX8_sell 26 = .ok (.ifCond .eq 38, 3) := dz_153 (k_X8_sell 0 26 rfl) (k_X8_sell 0 27 rfl) (k_X8_sell 0 28 rfl) rfl
theorem dX8_sell_29 : decode cX8_sell 29 = .ok (.iload_n 3, 1) := dz_29 (k_X8_sell 0 29 rfl)
theorem dX8_sell_30 : decode cX8_sell 30 = .ok (.iconst 0, 1) := dz_3 (k_X8_sell 0 30 rfl)
theorem dX8_sell_31 : decode cX8_sell 31 = .ok (.sipush 9999, 3) := dz_17 (k_X8_sell 0 31 rfl) (k_X8_sell 0 32 rfl) (k_X8_sell 0 33 rfl) rfl
theorem dX8_sell_34 : decode cX8_sell 34 = .ok (.invokestatic 107, 3) := dz_184 (k_X8_sell 0 34 rfl) (k_X8_sell 0 35 rfl) (k_X8_sell 0 36 rfl) rfl
theorem dX8_sell_37 : decode cX8_sell 37 = .ok (.ifCond .eq 27, 3) := dz_153 (k_X8_sell 0 37 rfl) (k_X8_sell 0 38 rfl) (k_X8_sell 0 39 rfl) rfl
theorem dX8_sell_40 : decode cX8_sell 40 = .ok (.iload 4, 2) := dz_21 (k_X8_sell 0 40 rfl) (k_X8_sell 0 41 rfl)
theorem dX8_sell_42 : decode cX8_sell 42 = .ok (.iconst 0, 1) := dz_3 (k_X8_sell 0 42 rfl)
theorem dX8_sell_43 : decode cX8_sell 43 = .ok (.sipush 9999, 3) := dz_17 (k_X8_sell 0 43 rfl) (k_X8_sell 0 44 rfl) (k_X8_sell 0 45 rfl) rfl
theorem dX8_sell_46 : decode cX8_sell 46 = .ok (.invokestatic 107, 3) := dz_184 (k_X8_sell 0 46 rfl) (k_X8_sell 0 47 rfl) (k_X8_sell 0 48 rfl) rfl
theorem dX8_sell_49 : decode cX8_sell 49 = .ok (.ifCond .eq 15, 3) := dz_153 (k_X8_sell 0 49 rfl) (k_X8_sell 0 50 rfl) (k_X8_sell 0 51 rfl) rfl
theorem dX8_sell_52 : decode cX8_sell 52 = .ok (.iload_n 2, 1) := dz_28 (k_X8_sell 0 52 rfl)
theorem dX8_sell_53 : decode cX8_sell 53 = .ok (.iconst 4, 1) := dz_7 (k_X8_sell 0 53 rfl)
theorem dX8_sell_54 : decode cX8_sell 54 = .ok (.isub, 1) := dz_100 (k_X8_sell 0 54 rfl)
theorem dX8_sell_55 : decode cX8_sell 55 = .ok (.aload_n 0, 1) := dz_42 (k_X8_sell 0 55 rfl)
theorem dX8_sell_56 : decode cX8_sell 56 = .ok (.iload_n 1, 1) := dz_27 (k_X8_sell 0 56 rfl)
theorem dX8_sell_57 : decode cX8_sell 57 = .ok (.iconst 0, 1) := dz_3 (k_X8_sell 0 57 rfl)
theorem dX8_sell_58 : decode cX8_sell 58 = .ok (.invokevirtual 256, 3) := dz_182 (k_X8_sell 0 58 rfl) (k_X8_sell 0 59 rfl) (k_X8_sell 0 60 rfl) rfl
theorem dX8_sell_61 : decode cX8_sell 61 = .ok (.if_icmp .ne 7, 3) := dz_160 (k_X8_sell 0 61 rfl) (k_X8_sell 0 62 rfl) (k_X8_sell 0 63 rfl) rfl
theorem dX8_sell_64 : decode cX8_sell 64 = .ok (.iconst 1, 1) := dz_4 (k_X8_sell 1 0 rfl)
theorem dX8_sell_65 : decode cX8_sell 65 = .ok (.goto 4, 3) := dz_167 (k_X8_sell 1 1 rfl) (k_X8_sell 1 2 rfl) (k_X8_sell 1 3 rfl) rfl
theorem dX8_sell_68 : decode cX8_sell 68 = .ok (.iconst 0, 1) := dz_3 (k_X8_sell 1 4 rfl)
theorem dX8_sell_69 : decode cX8_sell 69 = .ok (.iconst 2, 1) := dz_5 (k_X8_sell 1 5 rfl)
theorem dX8_sell_70 : decode cX8_sell 70 = .ok (.invokevirtual 224, 3) := dz_182 (k_X8_sell 1 6 rfl) (k_X8_sell 1 7 rfl) (k_X8_sell 1 8 rfl) rfl
theorem dX8_sell_73 : decode cX8_sell 73 = .ok (.ifCond .ne 25, 3) := dz_154 (k_X8_sell 1 9 rfl) (k_X8_sell 1 10 rfl) (k_X8_sell 1 11 rfl) rfl
theorem dX8_sell_76 : decode cX8_sell 76 = .ok (.aload_n 0, 1) := dz_42 (k_X8_sell 1 12 rfl)
theorem dX8_sell_77 : decode cX8_sell 77 = .ok (.aload_n 0, 1) := dz_42 (k_X8_sell 1 13 rfl)
theorem dX8_sell_78 : decode cX8_sell 78 = .ok (.invokevirtual 431, 3) := dz_182 (k_X8_sell 1 14 rfl) (k_X8_sell 1 15 rfl) (k_X8_sell 1 16 rfl) rfl
theorem dX8_sell_81 : decode cX8_sell 81 = .ok (.bipush 30, 2) := dz_16 (k_X8_sell 1 17 rfl) (k_X8_sell 1 18 rfl) rfl
theorem dX8_sell_83 : decode cX8_sell 83 = .ok (.if_icmp .ne 7, 3) := dz_160 (k_X8_sell 1 19 rfl) (k_X8_sell 1 20 rfl) (k_X8_sell 1 21 rfl) rfl
theorem dX8_sell_86 : decode cX8_sell 86 = .ok (.iconst 1, 1) := dz_4 (k_X8_sell 1 22 rfl)
theorem dX8_sell_87 : decode cX8_sell 87 = .ok (.goto 4, 3) := dz_167 (k_X8_sell 1 23 rfl) (k_X8_sell 1 24 rfl) (k_X8_sell 1 25 rfl) rfl
theorem dX8_sell_90 : decode cX8_sell 90 = .ok (.iconst 0, 1) := dz_3 (k_X8_sell 1 26 rfl)
theorem dX8_sell_91 : decode cX8_sell 91 = .ok (.iconst 3, 1) := dz_6 (k_X8_sell 1 27 rfl)
theorem dX8_sell_92 : decode cX8_sell 92 = .ok (.invokevirtual 224, 3) := dz_182 (k_X8_sell 1 28 rfl) (k_X8_sell 1 29 rfl) (k_X8_sell 1 30 rfl) rfl
theorem dX8_sell_95 : decode cX8_sell 95 = .ok (.ifCond .eq 5, 3) := dz_153 (k_X8_sell 1 31 rfl) (k_X8_sell 1 32 rfl) (k_X8_sell 1 33 rfl) rfl
theorem dX8_sell_98 : decode cX8_sell 98 = .ok (.iconst 0, 1) := dz_3 (k_X8_sell 1 34 rfl)
theorem dX8_sell_99 : decode cX8_sell 99 = .ok (.ireturn, 1) := dz_172 (k_X8_sell 1 35 rfl)
theorem dX8_sell_100 : decode cX8_sell 100 = .ok (.sipush 1532, 3) := dz_17 (k_X8_sell 1 36 rfl) (k_X8_sell 1 37 rfl) (k_X8_sell 1 38 rfl) rfl
theorem dX8_sell_103 : decode cX8_sell 103 = .ok (.iconst 5, 1) := dz_8 (k_X8_sell 1 39 rfl)
theorem dX8_sell_104 : decode cX8_sell 104 = .ok (.aload_n 0, 1) := dz_42 (k_X8_sell 1 40 rfl)
theorem dX8_sell_105 : decode cX8_sell 105 = .ok (.invokevirtual 431, 3) := dz_182 (k_X8_sell 1 41 rfl) (k_X8_sell 1 42 rfl) (k_X8_sell 1 43 rfl) rfl
theorem dX8_sell_108 : decode cX8_sell 108 = .ok (.imul, 1) := dz_104 (k_X8_sell 1 44 rfl)
theorem dX8_sell_109 : decode cX8_sell 109 = .ok (.iadd, 1) := dz_96 (k_X8_sell 1 45 rfl)
theorem dX8_sell_110 : decode cX8_sell 110 = .ok (.istore 5, 2) := dz_54 (k_X8_sell 1 46 rfl) (k_X8_sell 1 47 rfl)
theorem dX8_sell_112 : decode cX8_sell 112 = .ok (.aload_n 0, 1) := dz_42 (k_X8_sell 1 48 rfl)
theorem dX8_sell_113 : decode cX8_sell 113 = .ok (.getfield 13, 3) := dz_180 (k_X8_sell 1 49 rfl) (k_X8_sell 1 50 rfl) (k_X8_sell 1 51 rfl) rfl
theorem dX8_sell_116 : decode cX8_sell 116 = .ok (.iload 5, 2) := dz_21 (k_X8_sell 1 52 rfl) (k_X8_sell 1 53 rfl)
theorem dX8_sell_118 : decode cX8_sell 118 = .ok (.iload_n 1, 1) := dz_27 (k_X8_sell 1 54 rfl)
theorem dX8_sell_119 : decode cX8_sell 119 = .ok (.iastore, 1) := dz_79 (k_X8_sell 1 55 rfl)
theorem dX8_sell_120 : decode cX8_sell 120 = .ok (.aload_n 0, 1) := dz_42 (k_X8_sell 1 56 rfl)
theorem dX8_sell_121 : decode cX8_sell 121 = .ok (.getfield 13, 3) := dz_180 (k_X8_sell 1 57 rfl) (k_X8_sell 1 58 rfl) (k_X8_sell 1 59 rfl) rfl
theorem dX8_sell_124 : decode cX8_sell 124 = .ok (.iload 5, 2) := dz_21 (k_X8_sell 1 60 rfl) (k_X8_sell 1 61 rfl)
theorem dX8_sell_126 : decode cX8_sell 126 = .ok (.iconst 1, 1) := dz_4 (k_X8_sell 1 62 rfl)
theorem dX8_sell_127 : decode cX8_sell 127 = .ok (.iadd, 1) := dz_96 (k_X8_sell 1 63 rfl)
theorem dX8_sell_128 : decode cX8_sell 128 = .ok (.iload_n 2, 1) := dz_28 (k_X8_sell 2 0 rfl)
theorem dX8_sell_129 : decode cX8_sell 129 = .ok (.iastore, 1) := dz_79 (k_X8_sell 2 1 rfl)
theorem dX8_sell_130 : decode cX8_sell 130 = .ok (.aload_n 0, 1) := dz_42 (k_X8_sell 2 2 rfl)
theorem dX8_sell_131 : decode cX8_sell 131 = .ok (.getfield 13, 3) := dz_180 (k_X8_sell 2 3 rfl) (k_X8_sell 2 4 rfl) (k_X8_sell 2 5 rfl) rfl
theorem dX8_sell_134 : decode cX8_sell 134 = .ok (.iload 5, 2) := dz_21 (k_X8_sell 2 6 rfl) (k_X8_sell 2 7 rfl)
theorem dX8_sell_136 : decode cX8_sell 136 = .ok (.iconst 2, 1) := dz_5 (k_X8_sell 2 8 rfl)
theorem dX8_sell_137 : decode cX8_sell 137 = .ok (.iadd, 1) := dz_96 (k_X8_sell 2 9 rfl)
theorem dX8_sell_138 : decode cX8_sell 138 = .ok (.iload_n 3, 1) := dz_29 (k_X8_sell 2 10 rfl)
theorem dX8_sell_139 : decode cX8_sell 139 = .ok (.iastore, 1) := dz_79 (k_X8_sell 2 11 rfl)
theorem dX8_sell_140 : decode cX8_sell 140 = .ok (.aload_n 0, 1) := dz_42 (k_X8_sell 2 12 rfl)
theorem dX8_sell_141 : decode cX8_sell 141 = .ok (.getfield 13, 3) := dz_180 (k_X8_sell 2 13 rfl) (k_X8_sell 2 14 rfl) (k_X8_sell 2 15 rfl) rfl
theorem dX8_sell_144 : decode cX8_sell 144 = .ok (.iload 5, 2) := dz_21 (k_X8_sell 2 16 rfl) (k_X8_sell 2 17 rfl)
theorem dX8_sell_146 : decode cX8_sell 146 = .ok (.iconst 3, 1) := dz_6 (k_X8_sell 2 18 rfl)
theorem dX8_sell_147 : decode cX8_sell 147 = .ok (.iadd, 1) := dz_96 (k_X8_sell 2 19 rfl)
theorem dX8_sell_148 : decode cX8_sell 148 = .ok (.iload 4, 2) := dz_21 (k_X8_sell 2 20 rfl) (k_X8_sell 2 21 rfl)
theorem dX8_sell_150 : decode cX8_sell 150 = .ok (.iastore, 1) := dz_79 (k_X8_sell 2 22 rfl)
theorem dX8_sell_151 : decode cX8_sell 151 = .ok (.aload_n 0, 1) := dz_42 (k_X8_sell 2 23 rfl)
theorem dX8_sell_152 : decode cX8_sell 152 = .ok (.getfield 13, 3) := dz_180 (k_X8_sell 2 24 rfl) (k_X8_sell 2 25 rfl) (k_X8_sell 2 26 rfl) rfl
theorem dX8_sell_155 : decode cX8_sell 155 = .ok (.iload 5, 2) := dz_21 (k_X8_sell 2 27 rfl) (k_X8_sell 2 28 rfl)
theorem dX8_sell_157 : decode cX8_sell 157 = .ok (.iconst 4, 1) := dz_7 (k_X8_sell 2 29 rfl)
theorem dX8_sell_158 : decode cX8_sell 158 = .ok (.iadd, 1) := dz_96 (k_X8_sell 2 30 rfl)
theorem dX8_sell_159 : decode cX8_sell 159 = .ok (.iconst 0, 1) := dz_3 (k_X8_sell 2 31 rfl)
theorem dX8_sell_160 : decode cX8_sell 160 = .ok (.iastore, 1) := dz_79 (k_X8_sell 2 32 rfl)
theorem dX8_sell_161 : decode cX8_sell 161 = .ok (.aload_n 0, 1) := dz_42 (k_X8_sell 2 33 rfl)
theorem dX8_sell_162 : decode cX8_sell 162 = .ok (.getfield 13, 3) := dz_180 (k_X8_sell 2 34 rfl) (k_X8_sell 2 35 rfl) (k_X8_sell 2 36 rfl) rfl
theorem dX8_sell_165 : decode cX8_sell 165 = .ok (.iconst 3, 1) := dz_6 (k_X8_sell 2 37 rfl)
theorem dX8_sell_166 : decode cX8_sell 166 = .ok (.dup2, 1) := dz_92 (k_X8_sell 2 38 rfl)
theorem dX8_sell_167 : decode cX8_sell 167 = .ok (.iaload, 1) := dz_46 (k_X8_sell 2 39 rfl)
theorem dX8_sell_168 : decode cX8_sell 168 = .ok (.iconst 1, 1) := dz_4 (k_X8_sell 2 40 rfl)
theorem dX8_sell_169 : decode cX8_sell 169 = .ok (.iadd, 1) := dz_96 (k_X8_sell 2 41 rfl)
theorem dX8_sell_170 : decode cX8_sell 170 = .ok (.iastore, 1) := dz_79 (k_X8_sell 2 42 rfl)
theorem dX8_sell_171 : decode cX8_sell 171 = .ok (.aload_n 0, 1) := dz_42 (k_X8_sell 2 43 rfl)
theorem dX8_sell_172 : decode cX8_sell 172 = .ok (.invokevirtual 431, 3) := dz_182 (k_X8_sell 2 44 rfl) (k_X8_sell 2 45 rfl) (k_X8_sell 2 46 rfl) rfl
theorem dX8_sell_175 : decode cX8_sell 175 = .ok (.iconst 1, 1) := dz_4 (k_X8_sell 2 47 rfl)
theorem dX8_sell_176 : decode cX8_sell 176 = .ok (.isub, 1) := dz_100 (k_X8_sell 2 48 rfl)
theorem dX8_sell_177 : decode cX8_sell 177 = .ok (.ireturn, 1) := dz_172 (k_X8_sell 2 49 rfl)
def B_X8_seller : List (List Nat) := [[42, 42, 27, 3, 182, 1, 178, 3, 182, 1, 0, 172]]
theorem k_X8_seller (j i : Nat) {b : Nat} (h : (B_X8_seller[j]?.bind fun c => c[i]?) = some b) : s_by cX8_seller (64 * j + i) b := s_byC (L := B_X8_seller) (by decide +kernel) (by decide +kernel) j i h
theorem dX8_seller_0 : decode cX8_seller 0 = .ok (.aload_n 0, 1) := dz_42 (k_X8_seller 0 0 rfl)
theorem dX8_seller_1 : decode cX8_seller 1 = .ok (.aload_n 0, 1) := dz_42 (k_X8_seller 0 1 rfl)
theorem dX8_seller_2 : decode cX8_seller 2 = .ok (.iload_n 1, 1) := dz_27 (k_X8_seller 0 2 rfl)
theorem dX8_seller_3 : decode cX8_seller 3 = .ok (.iconst 0, 1) := dz_3 (k_X8_seller 0 3 rfl)
theorem dX8_seller_4 : decode cX8_seller 4 = .ok (.invokevirtual 434, 3) := dz_182 (k_X8_seller 0 4 rfl) (k_X8_seller 0 5 rfl) (k_X8_seller 0 6 rfl) rfl
theorem dX8_seller_7 : decode cX8_seller 7 = .ok (.iconst 0, 1) := dz_3 (k_X8_seller 0 7 rfl)
theorem dX8_seller_8 : decode cX8_seller 8 = .ok (.invokevirtual 256, 3) := dz_182 (k_X8_seller 0 8 rfl) (k_X8_seller 0 9 rfl) (k_X8_seller 0 10 rfl) rfl
theorem dX8_seller_11 : decode cX8_seller 11 = .ok (.ireturn, 1) := dz_172 (k_X8_seller 0 11 rfl)
def B_X8_set : List (List Nat) := [[27, 156, 0, 7, 26, 167, 0, 28, 26, 7, 160, 0, 10, 16, 6, 27, 96, 167, 0, 16, 26, 8, 160, 0, 10, 16, 9, 27, 96, 167, 0, 4, 26, 172]]
theorem k_X8_set (j i : Nat) {b : Nat} (h : (B_X8_set[j]?.bind fun c => c[i]?) = some b) : s_by cX8_set (64 * j + i) b := s_byC (L := B_X8_set) (by decide +kernel) (by decide +kernel) j i h
theorem dX8_set_0 : decode cX8_set 0 = .ok (.iload_n 1, 1) := dz_27 (k_X8_set 0 0 rfl)
theorem dX8_set_1 : decode cX8_set 1 = .ok (.ifCond .ge 7, 3) := dz_156 (k_X8_set 0 1 rfl) (k_X8_set 0 2 rfl) (k_X8_set 0 3 rfl) rfl
theorem dX8_set_4 : decode cX8_set 4 = .ok (.iload_n 0, 1) := dz_26 (k_X8_set 0 4 rfl)
theorem dX8_set_5 : decode cX8_set 5 = .ok (.goto 28, 3) := dz_167 (k_X8_set 0 5 rfl) (k_X8_set 0 6 rfl) (k_X8_set 0 7 rfl) rfl
theorem dX8_set_8 : decode cX8_set 8 = .ok (.iload_n 0, 1) := dz_26 (k_X8_set 0 8 rfl)
theorem dX8_set_9 : decode cX8_set 9 = .ok (.iconst 4, 1) := dz_7 (k_X8_set 0 9 rfl)
theorem dX8_set_10 : decode cX8_set 10 = .ok (.if_icmp .ne 10, 3) := dz_160 (k_X8_set 0 10 rfl) (k_X8_set 0 11 rfl) (k_X8_set 0 12 rfl) rfl
theorem dX8_set_13 : decode cX8_set 13 = .ok (.bipush 6, 2) := dz_16 (k_X8_set 0 13 rfl) (k_X8_set 0 14 rfl) rfl
theorem dX8_set_15 : decode cX8_set 15 = .ok (.iload_n 1, 1) := dz_27 (k_X8_set 0 15 rfl)
theorem dX8_set_16 : decode cX8_set 16 = .ok (.iadd, 1) := dz_96 (k_X8_set 0 16 rfl)
theorem dX8_set_17 : decode cX8_set 17 = .ok (.goto 16, 3) := dz_167 (k_X8_set 0 17 rfl) (k_X8_set 0 18 rfl) (k_X8_set 0 19 rfl) rfl
theorem dX8_set_20 : decode cX8_set 20 = .ok (.iload_n 0, 1) := dz_26 (k_X8_set 0 20 rfl)
theorem dX8_set_21 : decode cX8_set 21 = .ok (.iconst 5, 1) := dz_8 (k_X8_set 0 21 rfl)
theorem dX8_set_22 : decode cX8_set 22 = .ok (.if_icmp .ne 10, 3) := dz_160 (k_X8_set 0 22 rfl) (k_X8_set 0 23 rfl) (k_X8_set 0 24 rfl) rfl
theorem dX8_set_25 : decode cX8_set 25 = .ok (.bipush 9, 2) := dz_16 (k_X8_set 0 25 rfl) (k_X8_set 0 26 rfl) rfl
theorem dX8_set_27 : decode cX8_set 27 = .ok (.iload_n 1, 1) := dz_27 (k_X8_set 0 27 rfl)
theorem dX8_set_28 : decode cX8_set 28 = .ok (.iadd, 1) := dz_96 (k_X8_set 0 28 rfl)
theorem dX8_set_29 : decode cX8_set 29 = .ok (.goto 4, 3) := dz_167 (k_X8_set 0 29 rfl) (k_X8_set 0 30 rfl) (k_X8_set 0 31 rfl) rfl
theorem dX8_set_32 : decode cX8_set 32 = .ok (.iload_n 0, 1) := dz_26 (k_X8_set 0 32 rfl)
theorem dX8_set_33 : decode cX8_set 33 = .ok (.ireturn, 1) := dz_172 (k_X8_set 0 33 rfl)
def B_X8_signs : List (List Nat) := [[42, 3, 181, 0, 3, 42, 42, 27, 182, 0, 231, 4, 182, 0, 224, 153, 0, 7, 3, 167, 0, 9, 42, 180, 0, 20, 27, 46, 172]]
theorem k_X8_signs (j i : Nat) {b : Nat} (h : (B_X8_signs[j]?.bind fun c => c[i]?) = some b) : s_by cX8_signs (64 * j + i) b := s_byC (L := B_X8_signs) (by decide +kernel) (by decide +kernel) j i h
theorem dX8_signs_0 : decode cX8_signs 0 = .ok (.aload_n 0, 1) := dz_42 (k_X8_signs 0 0 rfl)
theorem dX8_signs_1 : decode cX8_signs 1 = .ok (.iconst 0, 1) := dz_3 (k_X8_signs 0 1 rfl)
theorem dX8_signs_2 : decode cX8_signs 2 = .ok (.putfield 3, 3) := dz_181 (k_X8_signs 0 2 rfl) (k_X8_signs 0 3 rfl) (k_X8_signs 0 4 rfl) rfl
theorem dX8_signs_5 : decode cX8_signs 5 = .ok (.aload_n 0, 1) := dz_42 (k_X8_signs 0 5 rfl)
theorem dX8_signs_6 : decode cX8_signs 6 = .ok (.aload_n 0, 1) := dz_42 (k_X8_signs 0 6 rfl)
theorem dX8_signs_7 : decode cX8_signs 7 = .ok (.iload_n 1, 1) := dz_27 (k_X8_signs 0 7 rfl)
theorem dX8_signs_8 : decode cX8_signs 8 = .ok (.invokevirtual 231, 3) := dz_182 (k_X8_signs 0 8 rfl) (k_X8_signs 0 9 rfl) (k_X8_signs 0 10 rfl) rfl
theorem dX8_signs_11 : decode cX8_signs 11 = .ok (.iconst 1, 1) := dz_4 (k_X8_signs 0 11 rfl)
theorem dX8_signs_12 : decode cX8_signs 12 = .ok (.invokevirtual 224, 3) := dz_182 (k_X8_signs 0 12 rfl) (k_X8_signs 0 13 rfl) (k_X8_signs 0 14 rfl) rfl
theorem dX8_signs_15 : decode cX8_signs 15 = .ok (.ifCond .eq 7, 3) := dz_153 (k_X8_signs 0 15 rfl) (k_X8_signs 0 16 rfl) (k_X8_signs 0 17 rfl) rfl
theorem dX8_signs_18 : decode cX8_signs 18 = .ok (.iconst 0, 1) := dz_3 (k_X8_signs 0 18 rfl)
theorem dX8_signs_19 : decode cX8_signs 19 = .ok (.goto 9, 3) := dz_167 (k_X8_signs 0 19 rfl) (k_X8_signs 0 20 rfl) (k_X8_signs 0 21 rfl) rfl
theorem dX8_signs_22 : decode cX8_signs 22 = .ok (.aload_n 0, 1) := dz_42 (k_X8_signs 0 22 rfl)
theorem dX8_signs_23 : decode cX8_signs 23 = .ok (.getfield 20, 3) := dz_180 (k_X8_signs 0 23 rfl) (k_X8_signs 0 24 rfl) (k_X8_signs 0 25 rfl) rfl
theorem dX8_signs_26 : decode cX8_signs 26 = .ok (.iload_n 1, 1) := dz_27 (k_X8_signs 0 26 rfl)
theorem dX8_signs_27 : decode cX8_signs 27 = .ok (.iaload, 1) := dz_46 (k_X8_signs 0 27 rfl)
theorem dX8_signs_28 : decode cX8_signs 28 = .ok (.ireturn, 1) := dz_172 (k_X8_signs 0 28 rfl)
def B_X8_spent : List (List Nat) := [[42, 3, 181, 0, 3, 42, 42, 27, 182, 1, 7, 4, 182, 0, 224, 153, 0, 5, 3, 172, 42, 182, 1, 57, 42, 27, 182, 1, 63, 172]]
theorem k_X8_spent (j i : Nat) {b : Nat} (h : (B_X8_spent[j]?.bind fun c => c[i]?) = some b) : s_by cX8_spent (64 * j + i) b := s_byC (L := B_X8_spent) (by decide +kernel) (by decide +kernel) j i h
theorem dX8_spent_0 : decode cX8_spent 0 = .ok (.aload_n 0, 1) := dz_42 (k_X8_spent 0 0 rfl)
theorem dX8_spent_1 : decode cX8_spent 1 = .ok (.iconst 0, 1) := dz_3 (k_X8_spent 0 1 rfl)
theorem dX8_spent_2 : decode cX8_spent 2 = .ok (.putfield 3, 3) := dz_181 (k_X8_spent 0 2 rfl) (k_X8_spent 0 3 rfl) (k_X8_spent 0 4 rfl) rfl
theorem dX8_spent_5 : decode cX8_spent 5 = .ok (.aload_n 0, 1) := dz_42 (k_X8_spent 0 5 rfl)
theorem dX8_spent_6 : decode cX8_spent 6 = .ok (.aload_n 0, 1) := dz_42 (k_X8_spent 0 6 rfl)
theorem dX8_spent_7 : decode cX8_spent 7 = .ok (.iload_n 1, 1) := dz_27 (k_X8_spent 0 7 rfl)
theorem dX8_spent_8 : decode cX8_spent 8 = .ok (.invokevirtual 263, 3) := dz_182 (k_X8_spent 0 8 rfl) (k_X8_spent 0 9 rfl) (k_X8_spent 0 10 rfl) rfl
theorem dX8_spent_11 : decode cX8_spent 11 = .ok (.iconst 1, 1) := dz_4 (k_X8_spent 0 11 rfl)
theorem dX8_spent_12 : decode cX8_spent 12 = .ok (.invokevirtual 224, 3) := dz_182 (k_X8_spent 0 12 rfl) (k_X8_spent 0 13 rfl) (k_X8_spent 0 14 rfl) rfl
theorem dX8_spent_15 : decode cX8_spent 15 = .ok (.ifCond .eq 5, 3) := dz_153 (k_X8_spent 0 15 rfl) (k_X8_spent 0 16 rfl) (k_X8_spent 0 17 rfl) rfl
theorem dX8_spent_18 : decode cX8_spent 18 = .ok (.iconst 0, 1) := dz_3 (k_X8_spent 0 18 rfl)
theorem dX8_spent_19 : decode cX8_spent 19 = .ok (.ireturn, 1) := dz_172 (k_X8_spent 0 19 rfl)
theorem dX8_spent_20 : decode cX8_spent 20 = .ok (.aload_n 0, 1) := dz_42 (k_X8_spent 0 20 rfl)
theorem dX8_spent_21 : decode cX8_spent 21 = .ok (.invokevirtual 313, 3) := dz_182 (k_X8_spent 0 21 rfl) (k_X8_spent 0 22 rfl) (k_X8_spent 0 23 rfl) rfl
theorem dX8_spent_24 : decode cX8_spent 24 = .ok (.aload_n 0, 1) := dz_42 (k_X8_spent 0 24 rfl)
theorem dX8_spent_25 : decode cX8_spent 25 = .ok (.iload_n 1, 1) := dz_27 (k_X8_spent 0 25 rfl)
theorem dX8_spent_26 : decode cX8_spent 26 = .ok (.invokevirtual 319, 3) := dz_182 (k_X8_spent 0 26 rfl) (k_X8_spent 0 27 rfl) (k_X8_spent 0 28 rfl) rfl
theorem dX8_spent_29 : decode cX8_spent 29 = .ok (.ireturn, 1) := dz_172 (k_X8_spent 0 29 rfl)
def B_X8_spentBy : List (List Nat) := [[3, 61, 3, 62, 29, 42, 182, 0, 111, 162, 0, 36, 28, 42, 180, 0, 47, 27, 47, 29, 123, 10, 127, 10, 148, 154, 0, 11, 42, 29, 182, 1, 10, 167, 0, 4, 3, 96, 61, 132, 3, 1, 167, 255, 218, 28, 172]]
theorem k_X8_spentBy (j i : Nat) {b : Nat} (h : (B_X8_spentBy[j]?.bind fun c => c[i]?) = some b) : s_by cX8_spentBy (64 * j + i) b := s_byC (L := B_X8_spentBy) (by decide +kernel) (by decide +kernel) j i h
theorem dX8_spentBy_0 : decode cX8_spentBy 0 = .ok (.iconst 0, 1) := dz_3 (k_X8_spentBy 0 0 rfl)
theorem dX8_spentBy_1 : decode cX8_spentBy 1 = .ok (.istore_n 2, 1) := dz_61 (k_X8_spentBy 0 1 rfl)
theorem dX8_spentBy_2 : decode cX8_spentBy 2 = .ok (.iconst 0, 1) := dz_3 (k_X8_spentBy 0 2 rfl)
theorem dX8_spentBy_3 : decode cX8_spentBy 3 = .ok (.istore_n 3, 1) := dz_62 (k_X8_spentBy 0 3 rfl)
theorem dX8_spentBy_4 : decode cX8_spentBy 4 = .ok (.iload_n 3, 1) := dz_29 (k_X8_spentBy 0 4 rfl)
theorem dX8_spentBy_5 : decode cX8_spentBy 5 = .ok (.aload_n 0, 1) := dz_42 (k_X8_spentBy 0 5 rfl)
theorem dX8_spentBy_6 : decode cX8_spentBy 6 = .ok (.invokevirtual 111, 3) := dz_182 (k_X8_spentBy 0 6 rfl) (k_X8_spentBy 0 7 rfl) (k_X8_spentBy 0 8 rfl) rfl
theorem dX8_spentBy_9 : decode cX8_spentBy 9 = .ok (.if_icmp .ge 36, 3) := dz_162 (k_X8_spentBy 0 9 rfl) (k_X8_spentBy 0 10 rfl) (k_X8_spentBy 0 11 rfl) rfl
theorem dX8_spentBy_12 : decode cX8_spentBy 12 = .ok (.iload_n 2, 1) := dz_28 (k_X8_spentBy 0 12 rfl)
theorem dX8_spentBy_13 : decode cX8_spentBy 13 = .ok (.aload_n 0, 1) := dz_42 (k_X8_spentBy 0 13 rfl)
theorem dX8_spentBy_14 : decode cX8_spentBy 14 = .ok (.getfield 47, 3) := dz_180 (k_X8_spentBy 0 14 rfl) (k_X8_spentBy 0 15 rfl) (k_X8_spentBy 0 16 rfl) rfl
theorem dX8_spentBy_17 : decode cX8_spentBy 17 = .ok (.iload_n 1, 1) := dz_27 (k_X8_spentBy 0 17 rfl)
theorem dX8_spentBy_18 : decode cX8_spentBy 18 = .ok (.laload, 1) := dz_47 (k_X8_spentBy 0 18 rfl)
theorem dX8_spentBy_19 : decode cX8_spentBy 19 = .ok (.iload_n 3, 1) := dz_29 (k_X8_spentBy 0 19 rfl)
theorem dX8_spentBy_20 : decode cX8_spentBy 20 = .ok (.lshr, 1) := dz_123 (k_X8_spentBy 0 20 rfl)
theorem dX8_spentBy_21 : decode cX8_spentBy 21 = .ok (.lconst 1, 1) := dz_10 (k_X8_spentBy 0 21 rfl)
theorem dX8_spentBy_22 : decode cX8_spentBy 22 = .ok (.land, 1) := dz_127 (k_X8_spentBy 0 22 rfl)
theorem dX8_spentBy_23 : decode cX8_spentBy 23 = .ok (.lconst 1, 1) := dz_10 (k_X8_spentBy 0 23 rfl)
theorem dX8_spentBy_24 : decode cX8_spentBy 24 = .ok (.lcmp, 1) := dz_148 (k_X8_spentBy 0 24 rfl)
theorem dX8_spentBy_25 : decode cX8_spentBy 25 = .ok (.ifCond .ne 11, 3) := dz_154 (k_X8_spentBy 0 25 rfl) (k_X8_spentBy 0 26 rfl) (k_X8_spentBy 0 27 rfl) rfl
theorem dX8_spentBy_28 : decode cX8_spentBy 28 = .ok (.aload_n 0, 1) := dz_42 (k_X8_spentBy 0 28 rfl)
theorem dX8_spentBy_29 : decode cX8_spentBy 29 = .ok (.iload_n 3, 1) := dz_29 (k_X8_spentBy 0 29 rfl)
theorem dX8_spentBy_30 : decode cX8_spentBy 30 = .ok (.invokevirtual 266, 3) := dz_182 (k_X8_spentBy 0 30 rfl) (k_X8_spentBy 0 31 rfl) (k_X8_spentBy 0 32 rfl) rfl
theorem dX8_spentBy_33 : decode cX8_spentBy 33 = .ok (.goto 4, 3) := dz_167 (k_X8_spentBy 0 33 rfl) (k_X8_spentBy 0 34 rfl) (k_X8_spentBy 0 35 rfl) rfl
theorem dX8_spentBy_36 : decode cX8_spentBy 36 = .ok (.iconst 0, 1) := dz_3 (k_X8_spentBy 0 36 rfl)
theorem dX8_spentBy_37 : decode cX8_spentBy 37 = .ok (.iadd, 1) := dz_96 (k_X8_spentBy 0 37 rfl)
theorem dX8_spentBy_38 : decode cX8_spentBy 38 = .ok (.istore_n 2, 1) := dz_61 (k_X8_spentBy 0 38 rfl)
theorem dX8_spentBy_39 : decode cX8_spentBy 39 = .ok (.iinc 3 1, 3) := dz_132 (k_X8_spentBy 0 39 rfl) (k_X8_spentBy 0 40 rfl) (k_X8_spentBy 0 41 rfl) rfl
theorem dX8_spentBy_42 : decode cX8_spentBy 42 = .ok (.goto (-38), 3) := dz_167 (k_X8_spentBy 0 42 rfl) (k_X8_spentBy 0 43 rfl) (k_X8_spentBy 0 44 rfl) rfl
theorem dX8_spentBy_45 : decode cX8_spentBy 45 = .ok (.iload_n 2, 1) := dz_28 (k_X8_spentBy 0 45 rfl)
theorem dX8_spentBy_46 : decode cX8_spentBy 46 = .ok (.ireturn, 1) := dz_172 (k_X8_spentBy 0 46 rfl)
def B_X8_sum : List (List Nat) := [[19, 1, 131, 26, 27, 96, 184, 1, 132, 172]]
theorem k_X8_sum (j i : Nat) {b : Nat} (h : (B_X8_sum[j]?.bind fun c => c[i]?) = some b) : s_by cX8_sum (64 * j + i) b := s_byC (L := B_X8_sum) (by decide +kernel) (by decide +kernel) j i h
theorem dX8_sum_0 : decode cX8_sum 0 = .ok (.ldc_w 387, 3) := dz_19 (k_X8_sum 0 0 rfl) (k_X8_sum 0 1 rfl) (k_X8_sum 0 2 rfl) rfl
theorem dX8_sum_3 : decode cX8_sum 3 = .ok (.iload_n 0, 1) := dz_26 (k_X8_sum 0 3 rfl)
theorem dX8_sum_4 : decode cX8_sum 4 = .ok (.iload_n 1, 1) := dz_27 (k_X8_sum 0 4 rfl)
theorem dX8_sum_5 : decode cX8_sum 5 = .ok (.iadd, 1) := dz_96 (k_X8_sum 0 5 rfl)
theorem dX8_sum_6 : decode cX8_sum 6 = .ok (.invokestatic 388, 3) := dz_184 (k_X8_sum 0 6 rfl) (k_X8_sum 0 7 rfl) (k_X8_sum 0 8 rfl) rfl
theorem dX8_sum_9 : decode cX8_sum 9 = .ok (.ireturn, 1) := dz_172 (k_X8_sum 0 9 rfl)
def B_X8_things : List (List Nat) := [[42, 3, 181, 0, 3, 42, 27, 4, 6, 184, 0, 107, 154, 0, 7, 4, 167, 0, 4, 3, 4, 182, 0, 224, 154, 0, 23, 42, 42, 182, 0, 103, 158, 0, 7, 4, 167, 0, 4, 3, 5, 182, 0, 224, 153, 0, 4, 177, 42, 180, 0, 13, 3, 27, 79, 177]]
theorem k_X8_things (j i : Nat) {b : Nat} (h : (B_X8_things[j]?.bind fun c => c[i]?) = some b) : s_by cX8_things (64 * j + i) b := s_byC (L := B_X8_things) (by decide +kernel) (by decide +kernel) j i h
theorem dX8_things_0 : decode cX8_things 0 = .ok (.aload_n 0, 1) := dz_42 (k_X8_things 0 0 rfl)
theorem dX8_things_1 : decode cX8_things 1 = .ok (.iconst 0, 1) := dz_3 (k_X8_things 0 1 rfl)
theorem dX8_things_2 : decode cX8_things 2 = .ok (.putfield 3, 3) := dz_181 (k_X8_things 0 2 rfl) (k_X8_things 0 3 rfl) (k_X8_things 0 4 rfl) rfl
theorem dX8_things_5 : decode cX8_things 5 = .ok (.aload_n 0, 1) := dz_42 (k_X8_things 0 5 rfl)
theorem dX8_things_6 : decode cX8_things 6 = .ok (.iload_n 1, 1) := dz_27 (k_X8_things 0 6 rfl)
theorem dX8_things_7 : decode cX8_things 7 = .ok (.iconst 1, 1) := dz_4 (k_X8_things 0 7 rfl)
theorem dX8_things_8 : decode cX8_things 8 = .ok (.iconst 3, 1) := dz_6 (k_X8_things 0 8 rfl)
theorem dX8_things_9 : decode cX8_things 9 = .ok (.invokestatic 107, 3) := dz_184 (k_X8_things 0 9 rfl) (k_X8_things 0 10 rfl) (k_X8_things 0 11 rfl) rfl
theorem dX8_things_12 : decode cX8_things 12 = .ok (.ifCond .ne 7, 3) := dz_154 (k_X8_things 0 12 rfl) (k_X8_things 0 13 rfl) (k_X8_things 0 14 rfl) rfl
theorem dX8_things_15 : decode cX8_things 15 = .ok (.iconst 1, 1) := dz_4 (k_X8_things 0 15 rfl)
theorem dX8_things_16 : decode cX8_things 16 = .ok (.goto 4, 3) := dz_167 (k_X8_things 0 16 rfl) (k_X8_things 0 17 rfl) (k_X8_things 0 18 rfl) rfl
theorem dX8_things_19 : decode cX8_things 19 = .ok (.iconst 0, 1) := dz_3 (k_X8_things 0 19 rfl)
theorem dX8_things_20 : decode cX8_things 20 = .ok (.iconst 1, 1) := dz_4 (k_X8_things 0 20 rfl)
theorem dX8_things_21 : decode cX8_things 21 = .ok (.invokevirtual 224, 3) := dz_182 (k_X8_things 0 21 rfl) (k_X8_things 0 22 rfl) (k_X8_things 0 23 rfl) rfl
theorem dX8_things_24 : decode cX8_things 24 = .ok (.ifCond .ne 23, 3) := dz_154 (k_X8_things 0 24 rfl) (k_X8_things 0 25 rfl) (k_X8_things 0 26 rfl) rfl
theorem dX8_things_27 : decode cX8_things 27 = .ok (.aload_n 0, 1) := dz_42 (k_X8_things 0 27 rfl)
theorem dX8_things_28 : decode cX8_things 28 = .ok (.aload_n 0, 1) := dz_42 (k_X8_things 0 28 rfl)
theorem dX8_things_29 : decode cX8_things 29 = .ok (.invokevirtual 103, 3) := dz_182 (k_X8_things 0 29 rfl) (k_X8_things 0 30 rfl) (k_X8_things 0 31 rfl) rfl
theorem dX8_things_32 : decode cX8_things 32 = .ok (.ifCond .le 7, 3) := dz_158 (k_X8_things 0 32 rfl) (k_X8_things 0 33 rfl) (k_X8_things 0 34 rfl) rfl
theorem dX8_things_35 : decode cX8_things 35 = .ok (.iconst 1, 1) := dz_4 (k_X8_things 0 35 rfl)
theorem dX8_things_36 : decode cX8_things 36 = .ok (.goto 4, 3) := dz_167 (k_X8_things 0 36 rfl) (k_X8_things 0 37 rfl) (k_X8_things 0 38 rfl) rfl
theorem dX8_things_39 : decode cX8_things 39 = .ok (.iconst 0, 1) := dz_3 (k_X8_things 0 39 rfl)
theorem dX8_things_40 : decode cX8_things 40 = .ok (.iconst 2, 1) := dz_5 (k_X8_things 0 40 rfl)
theorem dX8_things_41 : decode cX8_things 41 = .ok (.invokevirtual 224, 3) := dz_182 (k_X8_things 0 41 rfl) (k_X8_things 0 42 rfl) (k_X8_things 0 43 rfl) rfl
theorem dX8_things_44 : decode cX8_things 44 = .ok (.ifCond .eq 4, 3) := dz_153 (k_X8_things 0 44 rfl) (k_X8_things 0 45 rfl) (k_X8_things 0 46 rfl) rfl
theorem dX8_things_47 : decode cX8_things 47 = .ok (.return_, 1) := dz_177 (k_X8_things 0 47 rfl)
theorem dX8_things_48 : decode cX8_things 48 = .ok (.aload_n 0, 1) := dz_42 (k_X8_things 0 48 rfl)
theorem dX8_things_49 : decode cX8_things 49 = .ok (.getfield 13, 3) := dz_180 (k_X8_things 0 49 rfl) (k_X8_things 0 50 rfl) (k_X8_things 0 51 rfl) rfl
theorem dX8_things_52 : decode cX8_things 52 = .ok (.iconst 0, 1) := dz_3 (k_X8_things 0 52 rfl)
theorem dX8_things_53 : decode cX8_things 53 = .ok (.iload_n 1, 1) := dz_27 (k_X8_things 0 53 rfl)
theorem dX8_things_54 : decode cX8_things 54 = .ok (.iastore, 1) := dz_79 (k_X8_things 0 54 rfl)
theorem dX8_things_55 : decode cX8_things 55 = .ok (.return_, 1) := dz_177 (k_X8_things 0 55 rfl)
def B_X8_thrown : List (List Nat) := [[42, 180, 0, 3, 172]]
theorem k_X8_thrown (j i : Nat) {b : Nat} (h : (B_X8_thrown[j]?.bind fun c => c[i]?) = some b) : s_by cX8_thrown (64 * j + i) b := s_byC (L := B_X8_thrown) (by decide +kernel) (by decide +kernel) j i h
theorem dX8_thrown_0 : decode cX8_thrown 0 = .ok (.aload_n 0, 1) := dz_42 (k_X8_thrown 0 0 rfl)
theorem dX8_thrown_1 : decode cX8_thrown 1 = .ok (.getfield 3, 3) := dz_180 (k_X8_thrown 0 1 rfl) (k_X8_thrown 0 2 rfl) (k_X8_thrown 0 3 rfl) rfl
theorem dX8_thrown_4 : decode cX8_thrown 4 = .ok (.ireturn, 1) := dz_172 (k_X8_thrown 0 4 rfl)
def B_X8_throwsIf : List (List Nat) := [[27, 153, 0, 8, 42, 28, 181, 0, 3, 27, 172]]
theorem k_X8_throwsIf (j i : Nat) {b : Nat} (h : (B_X8_throwsIf[j]?.bind fun c => c[i]?) = some b) : s_by cX8_throwsIf (64 * j + i) b := s_byC (L := B_X8_throwsIf) (by decide +kernel) (by decide +kernel) j i h
theorem dX8_throwsIf_0 : decode cX8_throwsIf 0 = .ok (.iload_n 1, 1) := dz_27 (k_X8_throwsIf 0 0 rfl)
theorem dX8_throwsIf_1 : decode cX8_throwsIf 1 = .ok (.ifCond .eq 8, 3) := dz_153 (k_X8_throwsIf 0 1 rfl) (k_X8_throwsIf 0 2 rfl) (k_X8_throwsIf 0 3 rfl) rfl
theorem dX8_throwsIf_4 : decode cX8_throwsIf 4 = .ok (.aload_n 0, 1) := dz_42 (k_X8_throwsIf 0 4 rfl)
theorem dX8_throwsIf_5 : decode cX8_throwsIf 5 = .ok (.iload_n 2, 1) := dz_28 (k_X8_throwsIf 0 5 rfl)
theorem dX8_throwsIf_6 : decode cX8_throwsIf 6 = .ok (.putfield 3, 3) := dz_181 (k_X8_throwsIf 0 6 rfl) (k_X8_throwsIf 0 7 rfl) (k_X8_throwsIf 0 8 rfl) rfl
theorem dX8_throwsIf_9 : decode cX8_throwsIf 9 = .ok (.iload_n 1, 1) := dz_27 (k_X8_throwsIf 0 9 rfl)
theorem dX8_throwsIf_10 : decode cX8_throwsIf 10 = .ok (.ireturn, 1) := dz_172 (k_X8_throwsIf 0 10 rfl)
def B_X8_truths : List (List Nat) := [[42, 3, 181, 0, 3, 42, 42, 27, 182, 0, 240, 4, 182, 0, 224, 153, 0, 5, 3, 172, 3, 61, 3, 62, 29, 42, 182, 0, 103, 162, 0, 26, 28, 42, 29, 27, 182, 0, 243, 153, 0, 7, 4, 167, 0, 4, 3, 96, 61, 132, 3, 1, 167, 255, 228, 28, 172]]
theorem k_X8_truths (j i : Nat) {b : Nat} (h : (B_X8_truths[j]?.bind fun c => c[i]?) = some b) : s_by cX8_truths (64 * j + i) b := s_byC (L := B_X8_truths) (by decide +kernel) (by decide +kernel) j i h
theorem dX8_truths_0 : decode cX8_truths 0 = .ok (.aload_n 0, 1) := dz_42 (k_X8_truths 0 0 rfl)
theorem dX8_truths_1 : decode cX8_truths 1 = .ok (.iconst 0, 1) := dz_3 (k_X8_truths 0 1 rfl)
theorem dX8_truths_2 : decode cX8_truths 2 = .ok (.putfield 3, 3) := dz_181 (k_X8_truths 0 2 rfl) (k_X8_truths 0 3 rfl) (k_X8_truths 0 4 rfl) rfl
theorem dX8_truths_5 : decode cX8_truths 5 = .ok (.aload_n 0, 1) := dz_42 (k_X8_truths 0 5 rfl)
theorem dX8_truths_6 : decode cX8_truths 6 = .ok (.aload_n 0, 1) := dz_42 (k_X8_truths 0 6 rfl)
theorem dX8_truths_7 : decode cX8_truths 7 = .ok (.iload_n 1, 1) := dz_27 (k_X8_truths 0 7 rfl)
theorem dX8_truths_8 : decode cX8_truths 8 = .ok (.invokevirtual 240, 3) := dz_182 (k_X8_truths 0 8 rfl) (k_X8_truths 0 9 rfl) (k_X8_truths 0 10 rfl) rfl
theorem dX8_truths_11 : decode cX8_truths 11 = .ok (.iconst 1, 1) := dz_4 (k_X8_truths 0 11 rfl)
theorem dX8_truths_12 : decode cX8_truths 12 = .ok (.invokevirtual 224, 3) := dz_182 (k_X8_truths 0 12 rfl) (k_X8_truths 0 13 rfl) (k_X8_truths 0 14 rfl) rfl
theorem dX8_truths_15 : decode cX8_truths 15 = .ok (.ifCond .eq 5, 3) := dz_153 (k_X8_truths 0 15 rfl) (k_X8_truths 0 16 rfl) (k_X8_truths 0 17 rfl) rfl
theorem dX8_truths_18 : decode cX8_truths 18 = .ok (.iconst 0, 1) := dz_3 (k_X8_truths 0 18 rfl)
theorem dX8_truths_19 : decode cX8_truths 19 = .ok (.ireturn, 1) := dz_172 (k_X8_truths 0 19 rfl)
theorem dX8_truths_20 : decode cX8_truths 20 = .ok (.iconst 0, 1) := dz_3 (k_X8_truths 0 20 rfl)
theorem dX8_truths_21 : decode cX8_truths 21 = .ok (.istore_n 2, 1) := dz_61 (k_X8_truths 0 21 rfl)
theorem dX8_truths_22 : decode cX8_truths 22 = .ok (.iconst 0, 1) := dz_3 (k_X8_truths 0 22 rfl)
theorem dX8_truths_23 : decode cX8_truths 23 = .ok (.istore_n 3, 1) := dz_62 (k_X8_truths 0 23 rfl)
theorem dX8_truths_24 : decode cX8_truths 24 = .ok (.iload_n 3, 1) := dz_29 (k_X8_truths 0 24 rfl)
theorem dX8_truths_25 : decode cX8_truths 25 = .ok (.aload_n 0, 1) := dz_42 (k_X8_truths 0 25 rfl)
theorem dX8_truths_26 : decode cX8_truths 26 = .ok (.invokevirtual 103, 3) := dz_182 (k_X8_truths 0 26 rfl) (k_X8_truths 0 27 rfl) (k_X8_truths 0 28 rfl) rfl
theorem dX8_truths_29 : decode cX8_truths 29 = .ok (.if_icmp .ge 26, 3) := dz_162 (k_X8_truths 0 29 rfl) (k_X8_truths 0 30 rfl) (k_X8_truths 0 31 rfl) rfl
theorem dX8_truths_32 : decode cX8_truths 32 = .ok (.iload_n 2, 1) := dz_28 (k_X8_truths 0 32 rfl)
theorem dX8_truths_33 : decode cX8_truths 33 = .ok (.aload_n 0, 1) := dz_42 (k_X8_truths 0 33 rfl)
theorem dX8_truths_34 : decode cX8_truths 34 = .ok (.iload_n 3, 1) := dz_29 (k_X8_truths 0 34 rfl)
theorem dX8_truths_35 : decode cX8_truths 35 = .ok (.iload_n 1, 1) := dz_27 (k_X8_truths 0 35 rfl)
theorem dX8_truths_36 : decode cX8_truths 36 = .ok (.invokevirtual 243, 3) := dz_182 (k_X8_truths 0 36 rfl) (k_X8_truths 0 37 rfl) (k_X8_truths 0 38 rfl) rfl
theorem dX8_truths_39 : decode cX8_truths 39 = .ok (.ifCond .eq 7, 3) := dz_153 (k_X8_truths 0 39 rfl) (k_X8_truths 0 40 rfl) (k_X8_truths 0 41 rfl) rfl
theorem dX8_truths_42 : decode cX8_truths 42 = .ok (.iconst 1, 1) := dz_4 (k_X8_truths 0 42 rfl)
theorem dX8_truths_43 : decode cX8_truths 43 = .ok (.goto 4, 3) := dz_167 (k_X8_truths 0 43 rfl) (k_X8_truths 0 44 rfl) (k_X8_truths 0 45 rfl) rfl
theorem dX8_truths_46 : decode cX8_truths 46 = .ok (.iconst 0, 1) := dz_3 (k_X8_truths 0 46 rfl)
theorem dX8_truths_47 : decode cX8_truths 47 = .ok (.iadd, 1) := dz_96 (k_X8_truths 0 47 rfl)
theorem dX8_truths_48 : decode cX8_truths 48 = .ok (.istore_n 2, 1) := dz_61 (k_X8_truths 0 48 rfl)
theorem dX8_truths_49 : decode cX8_truths 49 = .ok (.iinc 3 1, 3) := dz_132 (k_X8_truths 0 49 rfl) (k_X8_truths 0 50 rfl) (k_X8_truths 0 51 rfl) rfl
theorem dX8_truths_52 : decode cX8_truths 52 = .ok (.goto (-28), 3) := dz_167 (k_X8_truths 0 52 rfl) (k_X8_truths 0 53 rfl) (k_X8_truths 0 54 rfl) rfl
theorem dX8_truths_55 : decode cX8_truths 55 = .ok (.iload_n 2, 1) := dz_28 (k_X8_truths 0 55 rfl)
theorem dX8_truths_56 : decode cX8_truths 56 = .ok (.ireturn, 1) := dz_172 (k_X8_truths 0 56 rfl)
def B_X8_undo : List (List Nat) := [[42, 3, 181, 0, 3, 42, 27, 3, 42, 182, 1, 175, 4, 100, 184, 0, 107, 154, 0, 7, 4, 167, 0, 4, 3, 4, 182, 0, 224, 153, 0, 5, 3, 172, 42, 27, 182, 1, 181, 61, 42, 180, 0, 13, 17, 5, 252, 8, 27, 104, 96, 7, 96, 4, 79, 28, 154, 0, 7, 4, 167, 0, 4, 3], [172]]
theorem k_X8_undo (j i : Nat) {b : Nat} (h : (B_X8_undo[j]?.bind fun c => c[i]?) = some b) : s_by cX8_undo (64 * j + i) b := s_byC (L := B_X8_undo) (by decide +kernel) (by decide +kernel) j i h
theorem dX8_undo_0 : decode cX8_undo 0 = .ok (.aload_n 0, 1) := dz_42 (k_X8_undo 0 0 rfl)
theorem dX8_undo_1 : decode cX8_undo 1 = .ok (.iconst 0, 1) := dz_3 (k_X8_undo 0 1 rfl)
theorem dX8_undo_2 : decode cX8_undo 2 = .ok (.putfield 3, 3) := dz_181 (k_X8_undo 0 2 rfl) (k_X8_undo 0 3 rfl) (k_X8_undo 0 4 rfl) rfl
theorem dX8_undo_5 : decode cX8_undo 5 = .ok (.aload_n 0, 1) := dz_42 (k_X8_undo 0 5 rfl)
theorem dX8_undo_6 : decode cX8_undo 6 = .ok (.iload_n 1, 1) := dz_27 (k_X8_undo 0 6 rfl)
theorem dX8_undo_7 : decode cX8_undo 7 = .ok (.iconst 0, 1) := dz_3 (k_X8_undo 0 7 rfl)
theorem dX8_undo_8 : decode cX8_undo 8 = .ok (.aload_n 0, 1) := dz_42 (k_X8_undo 0 8 rfl)
theorem dX8_undo_9 : decode cX8_undo 9 = .ok (.invokevirtual 431, 3) := dz_182 (k_X8_undo 0 9 rfl) (k_X8_undo 0 10 rfl) (k_X8_undo 0 11 rfl) rfl
theorem dX8_undo_12 : decode cX8_undo 12 = .ok (.iconst 1, 1) := dz_4 (k_X8_undo 0 12 rfl)
theorem dX8_undo_13 : decode cX8_undo 13 = .ok (.isub, 1) := dz_100 (k_X8_undo 0 13 rfl)
theorem dX8_undo_14 : decode cX8_undo 14 = .ok (.invokestatic 107, 3) := dz_184 (k_X8_undo 0 14 rfl) (k_X8_undo 0 15 rfl) (k_X8_undo 0 16 rfl) rfl
theorem dX8_undo_17 : decode cX8_undo 17 = .ok (.ifCond .ne 7, 3) := dz_154 (k_X8_undo 0 17 rfl) (k_X8_undo 0 18 rfl) (k_X8_undo 0 19 rfl) rfl
theorem dX8_undo_20 : decode cX8_undo 20 = .ok (.iconst 1, 1) := dz_4 (k_X8_undo 0 20 rfl)
theorem dX8_undo_21 : decode cX8_undo 21 = .ok (.goto 4, 3) := dz_167 (k_X8_undo 0 21 rfl) (k_X8_undo 0 22 rfl) (k_X8_undo 0 23 rfl) rfl
theorem dX8_undo_24 : decode cX8_undo 24 = .ok (.iconst 0, 1) := dz_3 (k_X8_undo 0 24 rfl)
theorem dX8_undo_25 : decode cX8_undo 25 = .ok (.iconst 1, 1) := dz_4 (k_X8_undo 0 25 rfl)
theorem dX8_undo_26 : decode cX8_undo 26 = .ok (.invokevirtual 224, 3) := dz_182 (k_X8_undo 0 26 rfl) (k_X8_undo 0 27 rfl) (k_X8_undo 0 28 rfl) rfl
theorem dX8_undo_29 : decode cX8_undo 29 = .ok (.ifCond .eq 5, 3) := dz_153 (k_X8_undo 0 29 rfl) (k_X8_undo 0 30 rfl) (k_X8_undo 0 31 rfl) rfl
theorem dX8_undo_32 : decode cX8_undo 32 = .ok (.iconst 0, 1) := dz_3 (k_X8_undo 0 32 rfl)
theorem dX8_undo_33 : decode cX8_undo 33 = .ok (.ireturn, 1) := dz_172 (k_X8_undo 0 33 rfl)
theorem dX8_undo_34 : decode cX8_undo 34 = .ok (.aload_n 0, 1) := dz_42 (k_X8_undo 0 34 rfl)
theorem dX8_undo_35 : decode cX8_undo 35 = .ok (.iload_n 1, 1) := dz_27 (k_X8_undo 0 35 rfl)
theorem dX8_undo_36 : decode cX8_undo 36 = .ok (.invokevirtual 437, 3) := dz_182 (k_X8_undo 0 36 rfl) (k_X8_undo 0 37 rfl) (k_X8_undo 0 38 rfl) rfl
theorem dX8_undo_39 : decode cX8_undo 39 = .ok (.istore_n 2, 1) := dz_61 (k_X8_undo 0 39 rfl)
theorem dX8_undo_40 : decode cX8_undo 40 = .ok (.aload_n 0, 1) := dz_42 (k_X8_undo 0 40 rfl)
theorem dX8_undo_41 : decode cX8_undo 41 = .ok (.getfield 13, 3) := dz_180 (k_X8_undo 0 41 rfl) (k_X8_undo 0 42 rfl) (k_X8_undo 0 43 rfl) rfl
theorem dX8_undo_44 : decode cX8_undo 44 = .ok (.sipush 1532, 3) := dz_17 (k_X8_undo 0 44 rfl) (k_X8_undo 0 45 rfl) (k_X8_undo 0 46 rfl) rfl
theorem dX8_undo_47 : decode cX8_undo 47 = .ok (.iconst 5, 1) := dz_8 (k_X8_undo 0 47 rfl)
theorem dX8_undo_48 : decode cX8_undo 48 = .ok (.iload_n 1, 1) := dz_27 (k_X8_undo 0 48 rfl)
theorem dX8_undo_49 : decode cX8_undo 49 = .ok (.imul, 1) := dz_104 (k_X8_undo 0 49 rfl)
theorem dX8_undo_50 : decode cX8_undo 50 = .ok (.iadd, 1) := dz_96 (k_X8_undo 0 50 rfl)
theorem dX8_undo_51 : decode cX8_undo 51 = .ok (.iconst 4, 1) := dz_7 (k_X8_undo 0 51 rfl)
theorem dX8_undo_52 : decode cX8_undo 52 = .ok (.iadd, 1) := dz_96 (k_X8_undo 0 52 rfl)
theorem dX8_undo_53 : decode cX8_undo 53 = .ok (.iconst 1, 1) := dz_4 (k_X8_undo 0 53 rfl)
theorem dX8_undo_54 : decode cX8_undo 54 = .ok (.iastore, 1) := dz_79 (k_X8_undo 0 54 rfl)
theorem dX8_undo_55 : decode cX8_undo 55 = .ok (.iload_n 2, 1) := dz_28 (k_X8_undo 0 55 rfl)
theorem dX8_undo_56 : decode cX8_undo 56 = .ok (.ifCond .ne 7, 3) := dz_154 (k_X8_undo 0 56 rfl) (k_X8_undo 0 57 rfl) (k_X8_undo 0 58 rfl) rfl
theorem dX8_undo_59 : decode cX8_undo 59 = .ok (.iconst 1, 1) := dz_4 (k_X8_undo 0 59 rfl)
theorem dX8_undo_60 : decode cX8_undo 60 = .ok (.goto 4, 3) := dz_167 (k_X8_undo 0 60 rfl) (k_X8_undo 0 61 rfl) (k_X8_undo 0 62 rfl) rfl
theorem dX8_undo_63 : decode cX8_undo 63 = .ok (.iconst 0, 1) := dz_3 (k_X8_undo 0 63 rfl)
theorem dX8_undo_64 : decode cX8_undo 64 = .ok (.ireturn, 1) := dz_172 (k_X8_undo 1 0 rfl)
def B_X8_where : List (List Nat) := [[42, 3, 181, 0, 3, 42, 27, 184, 0, 249, 154, 0, 11, 42, 28, 182, 0, 231, 153, 0, 7, 4, 167, 0, 4, 3, 4, 182, 0, 224, 153, 0, 5, 3, 172, 2, 62, 3, 54, 4, 3, 54, 5, 21, 5, 6, 162, 0, 45, 42, 21, 5, 27, 28, 182, 1, 166, 54, 6, 21, 6, 155, 0, 24], [29, 155, 0, 13, 21, 6, 21, 4, 161, 0, 6, 167, 0, 10, 21, 5, 62, 21, 6, 54, 4, 132, 5, 1, 167, 255, 211, 29, 172]]
theorem k_X8_where (j i : Nat) {b : Nat} (h : (B_X8_where[j]?.bind fun c => c[i]?) = some b) : s_by cX8_where (64 * j + i) b := s_byC (L := B_X8_where) (by decide +kernel) (by decide +kernel) j i h
theorem dX8_where_0 : decode cX8_where 0 = .ok (.aload_n 0, 1) := dz_42 (k_X8_where 0 0 rfl)
theorem dX8_where_1 : decode cX8_where 1 = .ok (.iconst 0, 1) := dz_3 (k_X8_where 0 1 rfl)
theorem dX8_where_2 : decode cX8_where 2 = .ok (.putfield 3, 3) := dz_181 (k_X8_where 0 2 rfl) (k_X8_where 0 3 rfl) (k_X8_where 0 4 rfl) rfl
theorem dX8_where_5 : decode cX8_where 5 = .ok (.aload_n 0, 1) := dz_42 (k_X8_where 0 5 rfl)
theorem dX8_where_6 : decode cX8_where 6 = .ok (.iload_n 1, 1) := dz_27 (k_X8_where 0 6 rfl)
theorem dX8_where_7 : decode cX8_where 7 = .ok (.invokestatic 249, 3) := dz_184 (k_X8_where 0 7 rfl) (k_X8_where 0 8 rfl) (k_X8_where 0 9 rfl) rfl
theorem dX8_where_10 : decode cX8_where 10 = .ok (.ifCond .ne 11, 3) := dz_154 (k_X8_where 0 10 rfl) (k_X8_where 0 11 rfl) (k_X8_where 0 12 rfl) rfl
theorem dX8_where_13 : decode cX8_where 13 = .ok (.aload_n 0, 1) := dz_42 (k_X8_where 0 13 rfl)
theorem dX8_where_14 : decode cX8_where 14 = .ok (.iload_n 2, 1) := dz_28 (k_X8_where 0 14 rfl)
theorem dX8_where_15 : decode cX8_where 15 = .ok (.invokevirtual 231, 3) := dz_182 (k_X8_where 0 15 rfl) (k_X8_where 0 16 rfl) (k_X8_where 0 17 rfl) rfl
theorem dX8_where_18 : decode cX8_where 18 = .ok (.ifCond .eq 7, 3) := dz_153 (k_X8_where 0 18 rfl) (k_X8_where 0 19 rfl) (k_X8_where 0 20 rfl) rfl
theorem dX8_where_21 : decode cX8_where 21 = .ok (.iconst 1, 1) := dz_4 (k_X8_where 0 21 rfl)
theorem dX8_where_22 : decode cX8_where 22 = .ok (.goto 4, 3) := dz_167 (k_X8_where 0 22 rfl) (k_X8_where 0 23 rfl) (k_X8_where 0 24 rfl) rfl
theorem dX8_where_25 : decode cX8_where 25 = .ok (.iconst 0, 1) := dz_3 (k_X8_where 0 25 rfl)
theorem dX8_where_26 : decode cX8_where 26 = .ok (.iconst 1, 1) := dz_4 (k_X8_where 0 26 rfl)
theorem dX8_where_27 : decode cX8_where 27 = .ok (.invokevirtual 224, 3) := dz_182 (k_X8_where 0 27 rfl) (k_X8_where 0 28 rfl) (k_X8_where 0 29 rfl) rfl
theorem dX8_where_30 : decode cX8_where 30 = .ok (.ifCond .eq 5, 3) := dz_153 (k_X8_where 0 30 rfl) (k_X8_where 0 31 rfl) (k_X8_where 0 32 rfl) rfl
theorem dX8_where_33 : decode cX8_where 33 = .ok (.iconst 0, 1) := dz_3 (k_X8_where 0 33 rfl)
theorem dX8_where_34 : decode cX8_where 34 = .ok (.ireturn, 1) := dz_172 (k_X8_where 0 34 rfl)
theorem dX8_where_35 : decode cX8_where 35 = .ok (.iconst (-1), 1) := dz_2 (k_X8_where 0 35 rfl)
theorem dX8_where_36 : decode cX8_where 36 = .ok (.istore_n 3, 1) := dz_62 (k_X8_where 0 36 rfl)
theorem dX8_where_37 : decode cX8_where 37 = .ok (.iconst 0, 1) := dz_3 (k_X8_where 0 37 rfl)
theorem dX8_where_38 : decode cX8_where 38 = .ok (.istore 4, 2) := dz_54 (k_X8_where 0 38 rfl) (k_X8_where 0 39 rfl)
theorem dX8_where_40 : decode cX8_where 40 = .ok (.iconst 0, 1) := dz_3 (k_X8_where 0 40 rfl)
theorem dX8_where_41 : decode cX8_where 41 = .ok (.istore 5, 2) := dz_54 (k_X8_where 0 41 rfl) (k_X8_where 0 42 rfl)
theorem dX8_where_43 : decode cX8_where 43 = .ok (.iload 5, 2) := dz_21 (k_X8_where 0 43 rfl) (k_X8_where 0 44 rfl)
theorem dX8_where_45 : decode cX8_where 45 = .ok (.iconst 3, 1) := dz_6 (k_X8_where 0 45 rfl)
theorem dX8_where_46 : decode cX8_where 46 = .ok (.if_icmp .ge 45, 3) := dz_162 (k_X8_where 0 46 rfl) (k_X8_where 0 47 rfl) (k_X8_where 0 48 rfl) rfl
theorem dX8_where_49 : decode cX8_where 49 = .ok (.aload_n 0, 1) := dz_42 (k_X8_where 0 49 rfl)
theorem dX8_where_50 : decode cX8_where 50 = .ok (.iload 5, 2) := dz_21 (k_X8_where 0 50 rfl) (k_X8_where 0 51 rfl)
theorem dX8_where_52 : decode cX8_where 52 = .ok (.iload_n 1, 1) := dz_27 (k_X8_where 0 52 rfl)
theorem dX8_where_53 : decode cX8_where 53 = .ok (.iload_n 2, 1) := dz_28 (k_X8_where 0 53 rfl)
theorem dX8_where_54 : decode cX8_where 54 = .ok (.invokevirtual 422, 3) := dz_182 (k_X8_where 0 54 rfl) (k_X8_where 0 55 rfl) (k_X8_where 0 56 rfl) rfl
theorem dX8_where_57 : decode cX8_where 57 = .ok (.istore 6, 2) := dz_54 (k_X8_where 0 57 rfl) (k_X8_where 0 58 rfl)
theorem dX8_where_59 : decode cX8_where 59 = .ok (.iload 6, 2) := dz_21 (k_X8_where 0 59 rfl) (k_X8_where 0 60 rfl)
theorem dX8_where_61 : decode cX8_where 61 = .ok (.ifCond .lt 24, 3) := dz_155 (k_X8_where 0 61 rfl) (k_X8_where 0 62 rfl) (k_X8_where 0 63 rfl) rfl
theorem dX8_where_64 : decode cX8_where 64 = .ok (.iload_n 3, 1) := dz_29 (k_X8_where 1 0 rfl)
theorem dX8_where_65 : decode cX8_where 65 = .ok (.ifCond .lt 13, 3) := dz_155 (k_X8_where 1 1 rfl) (k_X8_where 1 2 rfl) (k_X8_where 1 3 rfl) rfl
theorem dX8_where_68 : decode cX8_where 68 = .ok (.iload 6, 2) := dz_21 (k_X8_where 1 4 rfl) (k_X8_where 1 5 rfl)
theorem dX8_where_70 : decode cX8_where 70 = .ok (.iload 4, 2) := dz_21 (k_X8_where 1 6 rfl) (k_X8_where 1 7 rfl)
theorem dX8_where_72 : decode cX8_where 72 = .ok (.if_icmp .lt 6, 3) := dz_161 (k_X8_where 1 8 rfl) (k_X8_where 1 9 rfl) (k_X8_where 1 10 rfl) rfl
theorem dX8_where_75 : decode cX8_where 75 = .ok (.goto 10, 3) := dz_167 (k_X8_where 1 11 rfl) (k_X8_where 1 12 rfl) (k_X8_where 1 13 rfl) rfl
theorem dX8_where_78 : decode cX8_where 78 = .ok (.iload 5, 2) := dz_21 (k_X8_where 1 14 rfl) (k_X8_where 1 15 rfl)
theorem dX8_where_80 : decode cX8_where 80 = .ok (.istore_n 3, 1) := dz_62 (k_X8_where 1 16 rfl)
theorem dX8_where_81 : decode cX8_where 81 = .ok (.iload 6, 2) := dz_21 (k_X8_where 1 17 rfl) (k_X8_where 1 18 rfl)
theorem dX8_where_83 : decode cX8_where 83 = .ok (.istore 4, 2) := dz_54 (k_X8_where 1 19 rfl) (k_X8_where 1 20 rfl)
theorem dX8_where_85 : decode cX8_where 85 = .ok (.iinc 5 1, 3) := dz_132 (k_X8_where 1 21 rfl) (k_X8_where 1 22 rfl) (k_X8_where 1 23 rfl) rfl
theorem dX8_where_88 : decode cX8_where 88 = .ok (.goto (-45), 3) := dz_167 (k_X8_where 1 24 rfl) (k_X8_where 1 25 rfl) (k_X8_where 1 26 rfl) rfl
theorem dX8_where_91 : decode cX8_where 91 = .ok (.iload_n 3, 1) := dz_29 (k_X8_where 1 27 rfl)
theorem dX8_where_92 : decode cX8_where 92 = .ok (.ireturn, 1) := dz_172 (k_X8_where 1 28 rfl)
def B_X8_withdraw : List (List Nat) := [[42, 3, 181, 0, 3, 42, 27, 182, 1, 77, 61, 42, 28, 184, 1, 72, 16, 14, 164, 0, 7, 4, 167, 0, 4, 3, 4, 182, 0, 224, 153, 0, 5, 3, 172, 42, 180, 0, 50, 3, 46, 62, 4, 54, 4, 21, 4, 42, 182, 0, 237, 162, 0, 35, 42, 180, 0, 50, 21, 4, 46, 29, 184, 1], [80, 153, 0, 13, 42, 180, 0, 50, 21, 4, 46, 167, 0, 4, 29, 62, 132, 4, 1, 167, 255, 218, 29, 172]]
theorem k_X8_withdraw (j i : Nat) {b : Nat} (h : (B_X8_withdraw[j]?.bind fun c => c[i]?) = some b) : s_by cX8_withdraw (64 * j + i) b := s_byC (L := B_X8_withdraw) (by decide +kernel) (by decide +kernel) j i h
theorem dX8_withdraw_0 : decode cX8_withdraw 0 = .ok (.aload_n 0, 1) := dz_42 (k_X8_withdraw 0 0 rfl)
theorem dX8_withdraw_1 : decode cX8_withdraw 1 = .ok (.iconst 0, 1) := dz_3 (k_X8_withdraw 0 1 rfl)
theorem dX8_withdraw_2 : decode cX8_withdraw 2 = .ok (.putfield 3, 3) := dz_181 (k_X8_withdraw 0 2 rfl) (k_X8_withdraw 0 3 rfl) (k_X8_withdraw 0 4 rfl) rfl
theorem dX8_withdraw_5 : decode cX8_withdraw 5 = .ok (.aload_n 0, 1) := dz_42 (k_X8_withdraw 0 5 rfl)
theorem dX8_withdraw_6 : decode cX8_withdraw 6 = .ok (.iload_n 1, 1) := dz_27 (k_X8_withdraw 0 6 rfl)
theorem dX8_withdraw_7 : decode cX8_withdraw 7 = .ok (.invokevirtual 333, 3) := dz_182 (k_X8_withdraw 0 7 rfl) (k_X8_withdraw 0 8 rfl) (k_X8_withdraw 0 9 rfl) rfl
theorem dX8_withdraw_10 : decode cX8_withdraw 10 = .ok (.istore_n 2, 1) := dz_61 (k_X8_withdraw 0 10 rfl)
theorem dX8_withdraw_11 : decode cX8_withdraw 11 = .ok (.aload_n 0, 1) := dz_42 (k_X8_withdraw 0 11 rfl)
theorem dX8_withdraw_12 : decode cX8_withdraw 12 = .ok (.iload_n 2, 1) := dz_28 (k_X8_withdraw 0 12 rfl)
theorem dX8_withdraw_13 : decode cX8_withdraw 13 = .ok (.invokestatic 328, 3) := dz_184 (k_X8_withdraw 0 13 rfl) (k_X8_withdraw 0 14 rfl) (k_X8_withdraw 0 15 rfl) rfl
theorem dX8_withdraw_16 : decode cX8_withdraw 16 = .ok (.bipush 14, 2) := dz_16 (k_X8_withdraw 0 16 rfl) (k_X8_withdraw 0 17 rfl) rfl
theorem dX8_withdraw_18 : decode cX8_withdraw 18 = .ok (.if_icmp .le 7, 3) := dz_164 (k_X8_withdraw 0 18 rfl) (k_X8_withdraw 0 19 rfl) (k_X8_withdraw 0 20 rfl) rfl
theorem dX8_withdraw_21 : decode cX8_withdraw 21 = .ok (.iconst 1, 1) := dz_4 (k_X8_withdraw 0 21 rfl)
theorem dX8_withdraw_22 : decode cX8_withdraw 22 = .ok (.goto 4, 3) := dz_167 (k_X8_withdraw 0 22 rfl) (k_X8_withdraw 0 23 rfl) (k_X8_withdraw 0 24 rfl) rfl
theorem dX8_withdraw_25 : decode cX8_withdraw 25 = .ok (.iconst 0, 1) := dz_3 (k_X8_withdraw 0 25 rfl)
theorem dX8_withdraw_26 : decode cX8_withdraw 26 = .ok (.iconst 1, 1) := dz_4 (k_X8_withdraw 0 26 rfl)
theorem dX8_withdraw_27 : decode cX8_withdraw 27 = .ok (.invokevirtual 224, 3) := dz_182 (k_X8_withdraw 0 27 rfl) (k_X8_withdraw 0 28 rfl) (k_X8_withdraw 0 29 rfl) rfl
theorem dX8_withdraw_30 : decode cX8_withdraw 30 = .ok (.ifCond .eq 5, 3) := dz_153 (k_X8_withdraw 0 30 rfl) (k_X8_withdraw 0 31 rfl) (k_X8_withdraw 0 32 rfl) rfl
theorem dX8_withdraw_33 : decode cX8_withdraw 33 = .ok (.iconst 0, 1) := dz_3 (k_X8_withdraw 0 33 rfl)
theorem dX8_withdraw_34 : decode cX8_withdraw 34 = .ok (.ireturn, 1) := dz_172 (k_X8_withdraw 0 34 rfl)
theorem dX8_withdraw_35 : decode cX8_withdraw 35 = .ok (.aload_n 0, 1) := dz_42 (k_X8_withdraw 0 35 rfl)
theorem dX8_withdraw_36 : decode cX8_withdraw 36 = .ok (.getfield 50, 3) := dz_180 (k_X8_withdraw 0 36 rfl) (k_X8_withdraw 0 37 rfl) (k_X8_withdraw 0 38 rfl) rfl
theorem dX8_withdraw_39 : decode cX8_withdraw 39 = .ok (.iconst 0, 1) := dz_3 (k_X8_withdraw 0 39 rfl)
theorem dX8_withdraw_40 : decode cX8_withdraw 40 = .ok (.iaload, 1) := dz_46 (k_X8_withdraw 0 40 rfl)
theorem dX8_withdraw_41 : decode cX8_withdraw 41 = .ok (.istore_n 3, 1) := dz_62 (k_X8_withdraw 0 41 rfl)
theorem dX8_withdraw_42 : decode cX8_withdraw 42 = .ok (.iconst 1, 1) := dz_4 (k_X8_withdraw 0 42 rfl)
theorem dX8_withdraw_43 : decode cX8_withdraw 43 = .ok (.istore 4, 2) := dz_54 (k_X8_withdraw 0 43 rfl) (k_X8_withdraw 0 44 rfl)
theorem dX8_withdraw_45 : decode cX8_withdraw 45 = .ok (.iload 4, 2) := dz_21 (k_X8_withdraw 0 45 rfl) (k_X8_withdraw 0 46 rfl)
theorem dX8_withdraw_47 : decode cX8_withdraw 47 = .ok (.aload_n 0, 1) := dz_42 (k_X8_withdraw 0 47 rfl)
theorem dX8_withdraw_48 : decode cX8_withdraw 48 = .ok (.invokevirtual 237, 3) := dz_182 (k_X8_withdraw 0 48 rfl) (k_X8_withdraw 0 49 rfl) (k_X8_withdraw 0 50 rfl) rfl
theorem dX8_withdraw_51 : decode cX8_withdraw 51 = .ok (.if_icmp .ge 35, 3) := dz_162 (k_X8_withdraw 0 51 rfl) (k_X8_withdraw 0 52 rfl) (k_X8_withdraw 0 53 rfl) rfl
theorem dX8_withdraw_54 : decode cX8_withdraw 54 = .ok (.aload_n 0, 1) := dz_42 (k_X8_withdraw 0 54 rfl)
theorem dX8_withdraw_55 : decode cX8_withdraw 55 = .ok (.getfield 50, 3) := dz_180 (k_X8_withdraw 0 55 rfl) (k_X8_withdraw 0 56 rfl) (k_X8_withdraw 0 57 rfl) rfl
theorem dX8_withdraw_58 : decode cX8_withdraw 58 = .ok (.iload 4, 2) := dz_21 (k_X8_withdraw 0 58 rfl) (k_X8_withdraw 0 59 rfl)
theorem dX8_withdraw_60 : decode cX8_withdraw 60 = .ok (.iaload, 1) := dz_46 (k_X8_withdraw 0 60 rfl)
theorem dX8_withdraw_61 : decode cX8_withdraw 61 = .ok (.iload_n 3, 1) := dz_29 (k_X8_withdraw 0 61 rfl)
theorem dX8_withdraw_62 : decode cX8_withdraw 62 = .ok (.invokestatic 336, 3) := dz_184 (k_X8_withdraw 0 62 rfl) (k_X8_withdraw 0 63 rfl) (k_X8_withdraw 1 0 rfl) rfl
theorem dX8_withdraw_65 : decode cX8_withdraw 65 = .ok (.ifCond .eq 13, 3) := dz_153 (k_X8_withdraw 1 1 rfl) (k_X8_withdraw 1 2 rfl) (k_X8_withdraw 1 3 rfl) rfl
theorem dX8_withdraw_68 : decode cX8_withdraw 68 = .ok (.aload_n 0, 1) := dz_42 (k_X8_withdraw 1 4 rfl)
theorem dX8_withdraw_69 : decode cX8_withdraw 69 = .ok (.getfield 50, 3) := dz_180 (k_X8_withdraw 1 5 rfl) (k_X8_withdraw 1 6 rfl) (k_X8_withdraw 1 7 rfl) rfl
theorem dX8_withdraw_72 : decode cX8_withdraw 72 = .ok (.iload 4, 2) := dz_21 (k_X8_withdraw 1 8 rfl) (k_X8_withdraw 1 9 rfl)
theorem dX8_withdraw_74 : decode cX8_withdraw 74 = .ok (.iaload, 1) := dz_46 (k_X8_withdraw 1 10 rfl)
theorem dX8_withdraw_75 : decode cX8_withdraw 75 = .ok (.goto 4, 3) := dz_167 (k_X8_withdraw 1 11 rfl) (k_X8_withdraw 1 12 rfl) (k_X8_withdraw 1 13 rfl) rfl
theorem dX8_withdraw_78 : decode cX8_withdraw 78 = .ok (.iload_n 3, 1) := dz_29 (k_X8_withdraw 1 14 rfl)
theorem dX8_withdraw_79 : decode cX8_withdraw 79 = .ok (.istore_n 3, 1) := dz_62 (k_X8_withdraw 1 15 rfl)
theorem dX8_withdraw_80 : decode cX8_withdraw 80 = .ok (.iinc 4 1, 3) := dz_132 (k_X8_withdraw 1 16 rfl) (k_X8_withdraw 1 17 rfl) (k_X8_withdraw 1 18 rfl) rfl
theorem dX8_withdraw_83 : decode cX8_withdraw 83 = .ok (.goto (-38), 3) := dz_167 (k_X8_withdraw 1 19 rfl) (k_X8_withdraw 1 20 rfl) (k_X8_withdraw 1 21 rfl) rfl
theorem dX8_withdraw_86 : decode cX8_withdraw 86 = .ok (.iload_n 3, 1) := dz_29 (k_X8_withdraw 1 22 rfl)
theorem dX8_withdraw_87 : decode cX8_withdraw 87 = .ok (.ireturn, 1) := dz_172 (k_X8_withdraw 1 23 rfl)
def B_X8_worlds : List (List Nat) := [[42, 3, 181, 0, 3, 42, 42, 27, 182, 0, 231, 4, 182, 0, 224, 153, 0, 5, 3, 172, 3, 61, 3, 62, 29, 42, 182, 0, 237, 162, 0, 26, 28, 42, 27, 29, 182, 0, 243, 153, 0, 7, 4, 167, 0, 4, 3, 96, 61, 132, 3, 1, 167, 255, 228, 28, 172]]
theorem k_X8_worlds (j i : Nat) {b : Nat} (h : (B_X8_worlds[j]?.bind fun c => c[i]?) = some b) : s_by cX8_worlds (64 * j + i) b := s_byC (L := B_X8_worlds) (by decide +kernel) (by decide +kernel) j i h
theorem dX8_worlds_0 : decode cX8_worlds 0 = .ok (.aload_n 0, 1) := dz_42 (k_X8_worlds 0 0 rfl)
theorem dX8_worlds_1 : decode cX8_worlds 1 = .ok (.iconst 0, 1) := dz_3 (k_X8_worlds 0 1 rfl)
theorem dX8_worlds_2 : decode cX8_worlds 2 = .ok (.putfield 3, 3) := dz_181 (k_X8_worlds 0 2 rfl) (k_X8_worlds 0 3 rfl) (k_X8_worlds 0 4 rfl) rfl
theorem dX8_worlds_5 : decode cX8_worlds 5 = .ok (.aload_n 0, 1) := dz_42 (k_X8_worlds 0 5 rfl)
theorem dX8_worlds_6 : decode cX8_worlds 6 = .ok (.aload_n 0, 1) := dz_42 (k_X8_worlds 0 6 rfl)
theorem dX8_worlds_7 : decode cX8_worlds 7 = .ok (.iload_n 1, 1) := dz_27 (k_X8_worlds 0 7 rfl)
theorem dX8_worlds_8 : decode cX8_worlds 8 = .ok (.invokevirtual 231, 3) := dz_182 (k_X8_worlds 0 8 rfl) (k_X8_worlds 0 9 rfl) (k_X8_worlds 0 10 rfl) rfl
theorem dX8_worlds_11 : decode cX8_worlds 11 = .ok (.iconst 1, 1) := dz_4 (k_X8_worlds 0 11 rfl)
theorem dX8_worlds_12 : decode cX8_worlds 12 = .ok (.invokevirtual 224, 3) := dz_182 (k_X8_worlds 0 12 rfl) (k_X8_worlds 0 13 rfl) (k_X8_worlds 0 14 rfl) rfl
theorem dX8_worlds_15 : decode cX8_worlds 15 = .ok (.ifCond .eq 5, 3) := dz_153 (k_X8_worlds 0 15 rfl) (k_X8_worlds 0 16 rfl) (k_X8_worlds 0 17 rfl) rfl
theorem dX8_worlds_18 : decode cX8_worlds 18 = .ok (.iconst 0, 1) := dz_3 (k_X8_worlds 0 18 rfl)
theorem dX8_worlds_19 : decode cX8_worlds 19 = .ok (.ireturn, 1) := dz_172 (k_X8_worlds 0 19 rfl)
theorem dX8_worlds_20 : decode cX8_worlds 20 = .ok (.iconst 0, 1) := dz_3 (k_X8_worlds 0 20 rfl)
theorem dX8_worlds_21 : decode cX8_worlds 21 = .ok (.istore_n 2, 1) := dz_61 (k_X8_worlds 0 21 rfl)
theorem dX8_worlds_22 : decode cX8_worlds 22 = .ok (.iconst 0, 1) := dz_3 (k_X8_worlds 0 22 rfl)
theorem dX8_worlds_23 : decode cX8_worlds 23 = .ok (.istore_n 3, 1) := dz_62 (k_X8_worlds 0 23 rfl)
theorem dX8_worlds_24 : decode cX8_worlds 24 = .ok (.iload_n 3, 1) := dz_29 (k_X8_worlds 0 24 rfl)
theorem dX8_worlds_25 : decode cX8_worlds 25 = .ok (.aload_n 0, 1) := dz_42 (k_X8_worlds 0 25 rfl)
theorem dX8_worlds_26 : decode cX8_worlds 26 = .ok (.invokevirtual 237, 3) := dz_182 (k_X8_worlds 0 26 rfl) (k_X8_worlds 0 27 rfl) (k_X8_worlds 0 28 rfl) rfl
theorem dX8_worlds_29 : decode cX8_worlds 29 = .ok (.if_icmp .ge 26, 3) := dz_162 (k_X8_worlds 0 29 rfl) (k_X8_worlds 0 30 rfl) (k_X8_worlds 0 31 rfl) rfl
theorem dX8_worlds_32 : decode cX8_worlds 32 = .ok (.iload_n 2, 1) := dz_28 (k_X8_worlds 0 32 rfl)
theorem dX8_worlds_33 : decode cX8_worlds 33 = .ok (.aload_n 0, 1) := dz_42 (k_X8_worlds 0 33 rfl)
theorem dX8_worlds_34 : decode cX8_worlds 34 = .ok (.iload_n 1, 1) := dz_27 (k_X8_worlds 0 34 rfl)
theorem dX8_worlds_35 : decode cX8_worlds 35 = .ok (.iload_n 3, 1) := dz_29 (k_X8_worlds 0 35 rfl)
theorem dX8_worlds_36 : decode cX8_worlds 36 = .ok (.invokevirtual 243, 3) := dz_182 (k_X8_worlds 0 36 rfl) (k_X8_worlds 0 37 rfl) (k_X8_worlds 0 38 rfl) rfl
theorem dX8_worlds_39 : decode cX8_worlds 39 = .ok (.ifCond .eq 7, 3) := dz_153 (k_X8_worlds 0 39 rfl) (k_X8_worlds 0 40 rfl) (k_X8_worlds 0 41 rfl) rfl
theorem dX8_worlds_42 : decode cX8_worlds 42 = .ok (.iconst 1, 1) := dz_4 (k_X8_worlds 0 42 rfl)
theorem dX8_worlds_43 : decode cX8_worlds 43 = .ok (.goto 4, 3) := dz_167 (k_X8_worlds 0 43 rfl) (k_X8_worlds 0 44 rfl) (k_X8_worlds 0 45 rfl) rfl
theorem dX8_worlds_46 : decode cX8_worlds 46 = .ok (.iconst 0, 1) := dz_3 (k_X8_worlds 0 46 rfl)
theorem dX8_worlds_47 : decode cX8_worlds 47 = .ok (.iadd, 1) := dz_96 (k_X8_worlds 0 47 rfl)
theorem dX8_worlds_48 : decode cX8_worlds 48 = .ok (.istore_n 2, 1) := dz_61 (k_X8_worlds 0 48 rfl)
theorem dX8_worlds_49 : decode cX8_worlds 49 = .ok (.iinc 3 1, 3) := dz_132 (k_X8_worlds 0 49 rfl) (k_X8_worlds 0 50 rfl) (k_X8_worlds 0 51 rfl) rfl
theorem dX8_worlds_52 : decode cX8_worlds 52 = .ok (.goto (-28), 3) := dz_167 (k_X8_worlds 0 52 rfl) (k_X8_worlds 0 53 rfl) (k_X8_worlds 0 54 rfl) rfl
theorem dX8_worlds_55 : decode cX8_worlds 55 = .ok (.iload_n 2, 1) := dz_28 (k_X8_worlds 0 55 rfl)
theorem dX8_worlds_56 : decode cX8_worlds 56 = .ok (.ireturn, 1) := dz_172 (k_X8_worlds 0 56 rfl)
def B_X8_worldsMany : List (List Nat) := [[4, 7, 5, 42, 182, 0, 138, 104, 96, 120, 172]]
theorem k_X8_worldsMany (j i : Nat) {b : Nat} (h : (B_X8_worldsMany[j]?.bind fun c => c[i]?) = some b) : s_by cX8_worldsMany (64 * j + i) b := s_byC (L := B_X8_worldsMany) (by decide +kernel) (by decide +kernel) j i h
theorem dX8_worldsMany_0 : decode cX8_worldsMany 0 = .ok (.iconst 1, 1) := dz_4 (k_X8_worldsMany 0 0 rfl)
theorem dX8_worldsMany_1 : decode cX8_worldsMany 1 = .ok (.iconst 4, 1) := dz_7 (k_X8_worldsMany 0 1 rfl)
theorem dX8_worldsMany_2 : decode cX8_worldsMany 2 = .ok (.iconst 2, 1) := dz_5 (k_X8_worldsMany 0 2 rfl)
theorem dX8_worldsMany_3 : decode cX8_worldsMany 3 = .ok (.aload_n 0, 1) := dz_42 (k_X8_worldsMany 0 3 rfl)
theorem dX8_worldsMany_4 : decode cX8_worldsMany 4 = .ok (.invokevirtual 138, 3) := dz_182 (k_X8_worldsMany 0 4 rfl) (k_X8_worldsMany 0 5 rfl) (k_X8_worldsMany 0 6 rfl) rfl
theorem dX8_worldsMany_7 : decode cX8_worldsMany 7 = .ok (.imul, 1) := dz_104 (k_X8_worldsMany 0 7 rfl)
theorem dX8_worldsMany_8 : decode cX8_worldsMany 8 = .ok (.iadd, 1) := dz_96 (k_X8_worldsMany 0 8 rfl)
theorem dX8_worldsMany_9 : decode cX8_worldsMany 9 = .ok (.ishl, 1) := dz_120 (k_X8_worldsMany 0 9 rfl)
theorem dX8_worldsMany_10 : decode cX8_worldsMany 10 = .ok (.ireturn, 1) := dz_172 (k_X8_worldsMany 0 10 rfl)
def B_X8_worldsOfAll : List (List Nat) := [[3, 60, 27, 17, 3, 192, 162, 0, 16, 42, 180, 0, 53, 27, 3, 79, 132, 1, 1, 167, 255, 239, 3, 60, 27, 42, 182, 0, 103, 162, 0, 61, 3, 61, 28, 42, 182, 0, 237, 162, 0, 45, 42, 180, 0, 53, 16, 32, 27, 104, 28, 16, 32, 108, 96, 92, 46, 42, 27, 28, 182, 0, 243, 153], [0, 12, 4, 28, 16, 32, 112, 120, 167, 0, 4, 3, 128, 79, 132, 2, 1, 167, 255, 209, 132, 1, 1, 167, 255, 193, 177]]
theorem k_X8_worldsOfAll (j i : Nat) {b : Nat} (h : (B_X8_worldsOfAll[j]?.bind fun c => c[i]?) = some b) : s_by cX8_worldsOfAll (64 * j + i) b := s_byC (L := B_X8_worldsOfAll) (by decide +kernel) (by decide +kernel) j i h
theorem dX8_worldsOfAll_0 : decode cX8_worldsOfAll 0 = .ok (.iconst 0, 1) := dz_3 (k_X8_worldsOfAll 0 0 rfl)
theorem dX8_worldsOfAll_1 : decode cX8_worldsOfAll 1 = .ok (.istore_n 1, 1) := dz_60 (k_X8_worldsOfAll 0 1 rfl)
theorem dX8_worldsOfAll_2 : decode cX8_worldsOfAll 2 = .ok (.iload_n 1, 1) := dz_27 (k_X8_worldsOfAll 0 2 rfl)
theorem dX8_worldsOfAll_3 : decode cX8_worldsOfAll 3 = .ok (.sipush 960, 3) := dz_17 (k_X8_worldsOfAll 0 3 rfl) (k_X8_worldsOfAll 0 4 rfl) (k_X8_worldsOfAll 0 5 rfl) rfl
theorem dX8_worldsOfAll_6 : decode cX8_worldsOfAll 6 = .ok (.if_icmp .ge 16, 3) := dz_162 (k_X8_worldsOfAll 0 6 rfl) (k_X8_worldsOfAll 0 7 rfl) (k_X8_worldsOfAll 0 8 rfl) rfl
theorem dX8_worldsOfAll_9 : decode cX8_worldsOfAll 9 = .ok (.aload_n 0, 1) := dz_42 (k_X8_worldsOfAll 0 9 rfl)
theorem dX8_worldsOfAll_10 : decode cX8_worldsOfAll 10 = .ok (.getfield 53, 3) := dz_180 (k_X8_worldsOfAll 0 10 rfl) (k_X8_worldsOfAll 0 11 rfl) (k_X8_worldsOfAll 0 12 rfl) rfl
theorem dX8_worldsOfAll_13 : decode cX8_worldsOfAll 13 = .ok (.iload_n 1, 1) := dz_27 (k_X8_worldsOfAll 0 13 rfl)
theorem dX8_worldsOfAll_14 : decode cX8_worldsOfAll 14 = .ok (.iconst 0, 1) := dz_3 (k_X8_worldsOfAll 0 14 rfl)
theorem dX8_worldsOfAll_15 : decode cX8_worldsOfAll 15 = .ok (.iastore, 1) := dz_79 (k_X8_worldsOfAll 0 15 rfl)
theorem dX8_worldsOfAll_16 : decode cX8_worldsOfAll 16 = .ok (.iinc 1 1, 3) := dz_132 (k_X8_worldsOfAll 0 16 rfl) (k_X8_worldsOfAll 0 17 rfl) (k_X8_worldsOfAll 0 18 rfl) rfl
theorem dX8_worldsOfAll_19 : decode cX8_worldsOfAll 19 = .ok (.goto (-17), 3) := dz_167 (k_X8_worldsOfAll 0 19 rfl) (k_X8_worldsOfAll 0 20 rfl) (k_X8_worldsOfAll 0 21 rfl) rfl
theorem dX8_worldsOfAll_22 : decode cX8_worldsOfAll 22 = .ok (.iconst 0, 1) := dz_3 (k_X8_worldsOfAll 0 22 rfl)
theorem dX8_worldsOfAll_23 : decode cX8_worldsOfAll 23 = .ok (.istore_n 1, 1) := dz_60 (k_X8_worldsOfAll 0 23 rfl)
theorem dX8_worldsOfAll_24 : decode cX8_worldsOfAll 24 = .ok (.iload_n 1, 1) := dz_27 (k_X8_worldsOfAll 0 24 rfl)
theorem dX8_worldsOfAll_25 : decode cX8_worldsOfAll 25 = .ok (.aload_n 0, 1) := dz_42 (k_X8_worldsOfAll 0 25 rfl)
theorem dX8_worldsOfAll_26 : decode cX8_worldsOfAll 26 = .ok (.invokevirtual 103, 3) := dz_182 (k_X8_worldsOfAll 0 26 rfl) (k_X8_worldsOfAll 0 27 rfl) (k_X8_worldsOfAll 0 28 rfl) rfl
theorem dX8_worldsOfAll_29 : decode cX8_worldsOfAll 29 = .ok (.if_icmp .ge 61, 3) := dz_162 (k_X8_worldsOfAll 0 29 rfl) (k_X8_worldsOfAll 0 30 rfl) (k_X8_worldsOfAll 0 31 rfl) rfl
theorem dX8_worldsOfAll_32 : decode cX8_worldsOfAll 32 = .ok (.iconst 0, 1) := dz_3 (k_X8_worldsOfAll 0 32 rfl)
theorem dX8_worldsOfAll_33 : decode cX8_worldsOfAll 33 = .ok (.istore_n 2, 1) := dz_61 (k_X8_worldsOfAll 0 33 rfl)
theorem dX8_worldsOfAll_34 : decode cX8_worldsOfAll 34 = .ok (.iload_n 2, 1) := dz_28 (k_X8_worldsOfAll 0 34 rfl)
theorem dX8_worldsOfAll_35 : decode cX8_worldsOfAll 35 = .ok (.aload_n 0, 1) := dz_42 (k_X8_worldsOfAll 0 35 rfl)
theorem dX8_worldsOfAll_36 : decode cX8_worldsOfAll 36 = .ok (.invokevirtual 237, 3) := dz_182 (k_X8_worldsOfAll 0 36 rfl) (k_X8_worldsOfAll 0 37 rfl) (k_X8_worldsOfAll 0 38 rfl) rfl
theorem dX8_worldsOfAll_39 : decode cX8_worldsOfAll 39 = .ok (.if_icmp .ge 45, 3) := dz_162 (k_X8_worldsOfAll 0 39 rfl) (k_X8_worldsOfAll 0 40 rfl) (k_X8_worldsOfAll 0 41 rfl) rfl
theorem dX8_worldsOfAll_42 : decode cX8_worldsOfAll 42 = .ok (.aload_n 0, 1) := dz_42 (k_X8_worldsOfAll 0 42 rfl)
theorem dX8_worldsOfAll_43 : decode cX8_worldsOfAll 43 = .ok (.getfield 53, 3) := dz_180 (k_X8_worldsOfAll 0 43 rfl) (k_X8_worldsOfAll 0 44 rfl) (k_X8_worldsOfAll 0 45 rfl) rfl
theorem dX8_worldsOfAll_46 : decode cX8_worldsOfAll 46 = .ok (.bipush 32, 2) := dz_16 (k_X8_worldsOfAll 0 46 rfl) (k_X8_worldsOfAll 0 47 rfl) rfl
theorem dX8_worldsOfAll_48 : decode cX8_worldsOfAll 48 = .ok (.iload_n 1, 1) := dz_27 (k_X8_worldsOfAll 0 48 rfl)
theorem dX8_worldsOfAll_49 : decode cX8_worldsOfAll 49 = .ok (.imul, 1) := dz_104 (k_X8_worldsOfAll 0 49 rfl)
theorem dX8_worldsOfAll_50 : decode cX8_worldsOfAll 50 = .ok (.iload_n 2, 1) := dz_28 (k_X8_worldsOfAll 0 50 rfl)
theorem dX8_worldsOfAll_51 : decode cX8_worldsOfAll 51 = .ok (.bipush 32, 2) := dz_16 (k_X8_worldsOfAll 0 51 rfl) (k_X8_worldsOfAll 0 52 rfl) rfl
theorem dX8_worldsOfAll_53 : decode cX8_worldsOfAll 53 = .ok (.idiv, 1) := dz_108 (k_X8_worldsOfAll 0 53 rfl)
theorem dX8_worldsOfAll_54 : decode cX8_worldsOfAll 54 = .ok (.iadd, 1) := dz_96 (k_X8_worldsOfAll 0 54 rfl)
theorem dX8_worldsOfAll_55 : decode cX8_worldsOfAll 55 = .ok (.dup2, 1) := dz_92 (k_X8_worldsOfAll 0 55 rfl)
theorem dX8_worldsOfAll_56 : decode cX8_worldsOfAll 56 = .ok (.iaload, 1) := dz_46 (k_X8_worldsOfAll 0 56 rfl)
theorem dX8_worldsOfAll_57 : decode cX8_worldsOfAll 57 = .ok (.aload_n 0, 1) := dz_42 (k_X8_worldsOfAll 0 57 rfl)
theorem dX8_worldsOfAll_58 : decode cX8_worldsOfAll 58 = .ok (.iload_n 1, 1) := dz_27 (k_X8_worldsOfAll 0 58 rfl)
theorem dX8_worldsOfAll_59 : decode cX8_worldsOfAll 59 = .ok (.iload_n 2, 1) := dz_28 (k_X8_worldsOfAll 0 59 rfl)
theorem dX8_worldsOfAll_60 : decode cX8_worldsOfAll 60 = .ok (.invokevirtual 243, 3) := dz_182 (k_X8_worldsOfAll 0 60 rfl) (k_X8_worldsOfAll 0 61 rfl) (k_X8_worldsOfAll 0 62 rfl) rfl
theorem dX8_worldsOfAll_63 : decode cX8_worldsOfAll 63 = .ok (.ifCond .eq 12, 3) := dz_153 (k_X8_worldsOfAll 0 63 rfl) (k_X8_worldsOfAll 1 0 rfl) (k_X8_worldsOfAll 1 1 rfl) rfl
theorem dX8_worldsOfAll_66 : decode cX8_worldsOfAll 66 = .ok (.iconst 1, 1) := dz_4 (k_X8_worldsOfAll 1 2 rfl)
theorem dX8_worldsOfAll_67 : decode cX8_worldsOfAll 67 = .ok (.iload_n 2, 1) := dz_28 (k_X8_worldsOfAll 1 3 rfl)
theorem dX8_worldsOfAll_68 : decode cX8_worldsOfAll 68 = .ok (.bipush 32, 2) := dz_16 (k_X8_worldsOfAll 1 4 rfl) (k_X8_worldsOfAll 1 5 rfl) rfl
theorem dX8_worldsOfAll_70 : decode cX8_worldsOfAll 70 = .ok (.irem, 1) := dz_112 (k_X8_worldsOfAll 1 6 rfl)
theorem dX8_worldsOfAll_71 : decode cX8_worldsOfAll 71 = .ok (.ishl, 1) := dz_120 (k_X8_worldsOfAll 1 7 rfl)
theorem dX8_worldsOfAll_72 : decode cX8_worldsOfAll 72 = .ok (.goto 4, 3) := dz_167 (k_X8_worldsOfAll 1 8 rfl) (k_X8_worldsOfAll 1 9 rfl) (k_X8_worldsOfAll 1 10 rfl) rfl
theorem dX8_worldsOfAll_75 : decode cX8_worldsOfAll 75 = .ok (.iconst 0, 1) := dz_3 (k_X8_worldsOfAll 1 11 rfl)
theorem dX8_worldsOfAll_76 : decode cX8_worldsOfAll 76 = .ok (.ior, 1) := dz_128 (k_X8_worldsOfAll 1 12 rfl)
theorem dX8_worldsOfAll_77 : decode cX8_worldsOfAll 77 = .ok (.iastore, 1) := dz_79 (k_X8_worldsOfAll 1 13 rfl)
theorem dX8_worldsOfAll_78 : decode cX8_worldsOfAll 78 = .ok (.iinc 2 1, 3) := dz_132 (k_X8_worldsOfAll 1 14 rfl) (k_X8_worldsOfAll 1 15 rfl) (k_X8_worldsOfAll 1 16 rfl) rfl
theorem dX8_worldsOfAll_81 : decode cX8_worldsOfAll 81 = .ok (.goto (-47), 3) := dz_167 (k_X8_worldsOfAll 1 17 rfl) (k_X8_worldsOfAll 1 18 rfl) (k_X8_worldsOfAll 1 19 rfl) rfl
theorem dX8_worldsOfAll_84 : decode cX8_worldsOfAll 84 = .ok (.iinc 1 1, 3) := dz_132 (k_X8_worldsOfAll 1 20 rfl) (k_X8_worldsOfAll 1 21 rfl) (k_X8_worldsOfAll 1 22 rfl) rfl
theorem dX8_worldsOfAll_87 : decode cX8_worldsOfAll 87 = .ok (.goto (-63), 3) := dz_167 (k_X8_worldsOfAll 1 23 rfl) (k_X8_worldsOfAll 1 24 rfl) (k_X8_worldsOfAll 1 25 rfl) rfl
theorem dX8_worldsOfAll_90 : decode cX8_worldsOfAll 90 = .ok (.return_, 1) := dz_177 (k_X8_worldsOfAll 1 26 rfl)
def B_X8_wrong : List (List Nat) := [[42, 3, 181, 0, 3, 3, 60, 27, 42, 182, 0, 111, 162, 0, 19, 42, 27, 182, 1, 46, 154, 0, 5, 27, 172, 132, 1, 1, 167, 255, 235, 2, 172]]
theorem k_X8_wrong (j i : Nat) {b : Nat} (h : (B_X8_wrong[j]?.bind fun c => c[i]?) = some b) : s_by cX8_wrong (64 * j + i) b := s_byC (L := B_X8_wrong) (by decide +kernel) (by decide +kernel) j i h
theorem dX8_wrong_0 : decode cX8_wrong 0 = .ok (.aload_n 0, 1) := dz_42 (k_X8_wrong 0 0 rfl)
theorem dX8_wrong_1 : decode cX8_wrong 1 = .ok (.iconst 0, 1) := dz_3 (k_X8_wrong 0 1 rfl)
theorem dX8_wrong_2 : decode cX8_wrong 2 = .ok (.putfield 3, 3) := dz_181 (k_X8_wrong 0 2 rfl) (k_X8_wrong 0 3 rfl) (k_X8_wrong 0 4 rfl) rfl
theorem dX8_wrong_5 : decode cX8_wrong 5 = .ok (.iconst 0, 1) := dz_3 (k_X8_wrong 0 5 rfl)
theorem dX8_wrong_6 : decode cX8_wrong 6 = .ok (.istore_n 1, 1) := dz_60 (k_X8_wrong 0 6 rfl)
theorem dX8_wrong_7 : decode cX8_wrong 7 = .ok (.iload_n 1, 1) := dz_27 (k_X8_wrong 0 7 rfl)
theorem dX8_wrong_8 : decode cX8_wrong 8 = .ok (.aload_n 0, 1) := dz_42 (k_X8_wrong 0 8 rfl)
theorem dX8_wrong_9 : decode cX8_wrong 9 = .ok (.invokevirtual 111, 3) := dz_182 (k_X8_wrong 0 9 rfl) (k_X8_wrong 0 10 rfl) (k_X8_wrong 0 11 rfl) rfl
theorem dX8_wrong_12 : decode cX8_wrong 12 = .ok (.if_icmp .ge 19, 3) := dz_162 (k_X8_wrong 0 12 rfl) (k_X8_wrong 0 13 rfl) (k_X8_wrong 0 14 rfl) rfl
theorem dX8_wrong_15 : decode cX8_wrong 15 = .ok (.aload_n 0, 1) := dz_42 (k_X8_wrong 0 15 rfl)
theorem dX8_wrong_16 : decode cX8_wrong 16 = .ok (.iload_n 1, 1) := dz_27 (k_X8_wrong 0 16 rfl)
theorem dX8_wrong_17 : decode cX8_wrong 17 = .ok (.invokevirtual 302, 3) := dz_182 (k_X8_wrong 0 17 rfl) (k_X8_wrong 0 18 rfl) (k_X8_wrong 0 19 rfl) rfl
theorem dX8_wrong_20 : decode cX8_wrong 20 = .ok (.ifCond .ne 5, 3) := dz_154 (k_X8_wrong 0 20 rfl) (k_X8_wrong 0 21 rfl) (k_X8_wrong 0 22 rfl) rfl
theorem dX8_wrong_23 : decode cX8_wrong 23 = .ok (.iload_n 1, 1) := dz_27 (k_X8_wrong 0 23 rfl)
theorem dX8_wrong_24 : decode cX8_wrong 24 = .ok (.ireturn, 1) := dz_172 (k_X8_wrong 0 24 rfl)
theorem dX8_wrong_25 : decode cX8_wrong 25 = .ok (.iinc 1 1, 3) := dz_132 (k_X8_wrong 0 25 rfl) (k_X8_wrong 0 26 rfl) (k_X8_wrong 0 27 rfl) rfl
theorem dX8_wrong_28 : decode cX8_wrong 28 = .ok (.goto (-21), 3) := dz_167 (k_X8_wrong 0 28 rfl) (k_X8_wrong 0 29 rfl) (k_X8_wrong 0 30 rfl) rfl
theorem dX8_wrong_31 : decode cX8_wrong 31 = .ok (.iconst (-1), 1) := dz_2 (k_X8_wrong 0 31 rfl)
theorem dX8_wrong_32 : decode cX8_wrong 32 = .ok (.ireturn, 1) := dz_172 (k_X8_wrong 0 32 rfl)
