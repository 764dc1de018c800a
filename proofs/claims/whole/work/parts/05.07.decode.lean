def B_X8_bitsOf : List (List Nat) := [[3, 61, 3, 62, 29, 27, 162, 0, 20, 28, 4, 42, 180, 0, 56, 29, 46, 120, 128, 61, 132, 3, 1, 167, 255, 237, 28, 172]]
theorem k_X8_bitsOf (j i : Nat) {b : Nat} (h : (B_X8_bitsOf[j]?.bind fun c => c[i]?) = some b) : s_by cX8_bitsOf (64 * j + i) b := s_byC (L := B_X8_bitsOf) (by decide +kernel) (by decide +kernel) j i h
theorem dX8_bitsOf_0 : decode cX8_bitsOf 0 = .ok (.iconst 0, 1) := dz_3 (k_X8_bitsOf 0 0 rfl)
theorem dX8_bitsOf_1 : decode cX8_bitsOf 1 = .ok (.istore_n 2, 1) := dz_61 (k_X8_bitsOf 0 1 rfl)
theorem dX8_bitsOf_2 : decode cX8_bitsOf 2 = .ok (.iconst 0, 1) := dz_3 (k_X8_bitsOf 0 2 rfl)
theorem dX8_bitsOf_3 : decode cX8_bitsOf 3 = .ok (.istore_n 3, 1) := dz_62 (k_X8_bitsOf 0 3 rfl)
theorem dX8_bitsOf_4 : decode cX8_bitsOf 4 = .ok (.iload_n 3, 1) := dz_29 (k_X8_bitsOf 0 4 rfl)
theorem dX8_bitsOf_5 : decode cX8_bitsOf 5 = .ok (.iload_n 1, 1) := dz_27 (k_X8_bitsOf 0 5 rfl)
theorem dX8_bitsOf_6 : decode cX8_bitsOf 6 = .ok (.if_icmp .ge 20, 3) := dz_162 (k_X8_bitsOf 0 6 rfl) (k_X8_bitsOf 0 7 rfl) (k_X8_bitsOf 0 8 rfl) rfl
theorem dX8_bitsOf_9 : decode cX8_bitsOf 9 = .ok (.iload_n 2, 1) := dz_28 (k_X8_bitsOf 0 9 rfl)
theorem dX8_bitsOf_10 : decode cX8_bitsOf 10 = .ok (.iconst 1, 1) := dz_4 (k_X8_bitsOf 0 10 rfl)
theorem dX8_bitsOf_11 : decode cX8_bitsOf 11 = .ok (.aload_n 0, 1) := dz_42 (k_X8_bitsOf 0 11 rfl)
theorem dX8_bitsOf_12 : decode cX8_bitsOf 12 = .ok (.getfield 56, 3) := dz_180 (k_X8_bitsOf 0 12 rfl) (k_X8_bitsOf 0 13 rfl) (k_X8_bitsOf 0 14 rfl) rfl
theorem dX8_bitsOf_15 : decode cX8_bitsOf 15 = .ok (.iload_n 3, 1) := dz_29 (k_X8_bitsOf 0 15 rfl)
theorem dX8_bitsOf_16 : decode cX8_bitsOf 16 = .ok (.iaload, 1) := dz_46 (k_X8_bitsOf 0 16 rfl)
theorem dX8_bitsOf_17 : decode cX8_bitsOf 17 = .ok (.ishl, 1) := dz_120 (k_X8_bitsOf 0 17 rfl)
theorem dX8_bitsOf_18 : decode cX8_bitsOf 18 = .ok (.ior, 1) := dz_128 (k_X8_bitsOf 0 18 rfl)
theorem dX8_bitsOf_19 : decode cX8_bitsOf 19 = .ok (.istore_n 2, 1) := dz_61 (k_X8_bitsOf 0 19 rfl)
theorem dX8_bitsOf_20 : decode cX8_bitsOf 20 = .ok (.iinc 3 1, 3) := dz_132 (k_X8_bitsOf 0 20 rfl) (k_X8_bitsOf 0 21 rfl) (k_X8_bitsOf 0 22 rfl) rfl
theorem dX8_bitsOf_23 : decode cX8_bitsOf 23 = .ok (.goto (-19), 3) := dz_167 (k_X8_bitsOf 0 23 rfl) (k_X8_bitsOf 0 24 rfl) (k_X8_bitsOf 0 25 rfl) rfl
theorem dX8_bitsOf_26 : decode cX8_bitsOf 26 = .ok (.iload_n 2, 1) := dz_28 (k_X8_bitsOf 0 26 rfl)
theorem dX8_bitsOf_27 : decode cX8_bitsOf 27 = .ok (.ireturn, 1) := dz_172 (k_X8_bitsOf 0 27 rfl)
def B_X8_blanks : List (List Nat) := [[42, 16, 32, 16, 32, 182, 0, 154, 153, 0, 16, 42, 89, 180, 0, 148, 4, 96, 181, 0, 148, 167, 255, 235, 42, 42, 180, 0, 148, 181, 0, 158, 177]]
theorem k_X8_blanks (j i : Nat) {b : Nat} (h : (B_X8_blanks[j]?.bind fun c => c[i]?) = some b) : s_by cX8_blanks (64 * j + i) b := s_byC (L := B_X8_blanks) (by decide +kernel) (by decide +kernel) j i h
theorem dX8_blanks_0 : decode cX8_blanks 0 = .ok (.aload_n 0, 1) := dz_42 (k_X8_blanks 0 0 rfl)
theorem dX8_blanks_1 : decode cX8_blanks 1 = .ok (.bipush 32, 2) := dz_16 (k_X8_blanks 0 1 rfl) (k_X8_blanks 0 2 rfl) rfl
theorem dX8_blanks_3 : decode cX8_blanks 3 = .ok (.bipush 32, 2) := dz_16 (k_X8_blanks 0 3 rfl) (k_X8_blanks 0 4 rfl) rfl
theorem dX8_blanks_5 : decode cX8_blanks 5 = .ok (.invokevirtual 154, 3) := dz_182 (k_X8_blanks 0 5 rfl) (k_X8_blanks 0 6 rfl) (k_X8_blanks 0 7 rfl) rfl
theorem dX8_blanks_8 : decode cX8_blanks 8 = .ok (.ifCond .eq 16, 3) := dz_153 (k_X8_blanks 0 8 rfl) (k_X8_blanks 0 9 rfl) (k_X8_blanks 0 10 rfl) rfl
theorem dX8_blanks_11 : decode cX8_blanks 11 = .ok (.aload_n 0, 1) := dz_42 (k_X8_blanks 0 11 rfl)
theorem dX8_blanks_12 : decode cX8_blanks 12 = .ok (.dup, 1) := dz_89 (k_X8_blanks 0 12 rfl)
theorem dX8_blanks_13 : decode cX8_blanks 13 = .ok (.getfield 148, 3) := dz_180 (k_X8_blanks 0 13 rfl) (k_X8_blanks 0 14 rfl) (k_X8_blanks 0 15 rfl) rfl
theorem dX8_blanks_16 : decode cX8_blanks 16 = .ok (.iconst 1, 1) := dz_4 (k_X8_blanks 0 16 rfl)
theorem dX8_blanks_17 : decode cX8_blanks 17 = .ok (.iadd, 1) := dz_96 (k_X8_blanks 0 17 rfl)
theorem dX8_blanks_18 : decode cX8_blanks 18 = .ok (.putfield 148, 3) := dz_181 (k_X8_blanks 0 18 rfl) (k_X8_blanks 0 19 rfl) (k_X8_blanks 0 20 rfl) rfl
theorem dX8_blanks_21 : decode cX8_blanks 21 = .ok (.goto (-21), 3) := dz_167 (k_X8_blanks 0 21 rfl) (k_X8_blanks 0 22 rfl) (k_X8_blanks 0 23 rfl) rfl
theorem dX8_blanks_24 : decode cX8_blanks 24 = .ok (.aload_n 0, 1) := dz_42 (k_X8_blanks 0 24 rfl)
theorem dX8_blanks_25 : decode cX8_blanks 25 = .ok (.aload_n 0, 1) := dz_42 (k_X8_blanks 0 25 rfl)
theorem dX8_blanks_26 : decode cX8_blanks 26 = .ok (.getfield 148, 3) := dz_180 (k_X8_blanks 0 26 rfl) (k_X8_blanks 0 27 rfl) (k_X8_blanks 0 28 rfl) rfl
theorem dX8_blanks_29 : decode cX8_blanks 29 = .ok (.putfield 158, 3) := dz_181 (k_X8_blanks 0 29 rfl) (k_X8_blanks 0 30 rfl) (k_X8_blanks 0 31 rfl) rfl
theorem dX8_blanks_32 : decode cX8_blanks 32 = .ok (.return_, 1) := dz_177 (k_X8_blanks 0 32 rfl)
def B_X8_byRule : List (List Nat) := [[42, 42, 180, 1, 146, 27, 182, 1, 16, 153, 0, 29, 42, 27, 28, 29, 182, 1, 149, 42, 42, 180, 1, 146, 27, 16, 30, 28, 96, 182, 1, 3, 184, 1, 140, 167, 0, 6, 19, 1, 131, 54, 4, 21, 4, 19, 1, 152, 164, 0, 9, 19, 1, 131, 167, 0, 5, 21, 4, 172]]
theorem k_X8_byRule (j i : Nat) {b : Nat} (h : (B_X8_byRule[j]?.bind fun c => c[i]?) = some b) : s_by cX8_byRule (64 * j + i) b := s_byC (L := B_X8_byRule) (by decide +kernel) (by decide +kernel) j i h
theorem dX8_byRule_0 : decode cX8_byRule 0 = .ok (.aload_n 0, 1) := dz_42 (k_X8_byRule 0 0 rfl)
theorem dX8_byRule_1 : decode cX8_byRule 1 = .ok (.aload_n 0, 1) := dz_42 (k_X8_byRule 0 1 rfl)
theorem dX8_byRule_2 : decode cX8_byRule 2 = .ok (.getfield 402, 3) := dz_180 (k_X8_byRule 0 2 rfl) (k_X8_byRule 0 3 rfl) (k_X8_byRule 0 4 rfl) rfl
theorem dX8_byRule_5 : decode cX8_byRule 5 = .ok (.iload_n 1, 1) := dz_27 (k_X8_byRule 0 5 rfl)
theorem dX8_byRule_6 : decode cX8_byRule 6 = .ok (.invokevirtual 272, 3) := dz_182 (k_X8_byRule 0 6 rfl) (k_X8_byRule 0 7 rfl) (k_X8_byRule 0 8 rfl) rfl
theorem dX8_byRule_9 : decode cX8_byRule 9 = .ok (.ifCond .eq 29, 3) := dz_153 (k_X8_byRule 0 9 rfl) (k_X8_byRule 0 10 rfl) (k_X8_byRule 0 11 rfl) rfl
theorem dX8_byRule_12 : decode cX8_byRule 12 = .ok (.aload_n 0, 1) := dz_42 (k_X8_byRule 0 12 rfl)
theorem dX8_byRule_13 : decode cX8_byRule 13 = .ok (.iload_n 1, 1) := dz_27 (k_X8_byRule 0 13 rfl)
theorem dX8_byRule_14 : decode cX8_byRule 14 = .ok (.iload_n 2, 1) := dz_28 (k_X8_byRule 0 14 rfl)
theorem dX8_byRule_15 : decode cX8_byRule 15 = .ok (.iload_n 3, 1) := dz_29 (k_X8_byRule 0 15 rfl)
theorem dX8_byRule_16 : decode cX8_byRule 16 = .ok (.invokevirtual 405, 3) := dz_182 (k_X8_byRule 0 16 rfl) (k_X8_byRule 0 17 rfl) (k_X8_byRule 0 18 rfl) rfl
theorem dX8_byRule_19 : decode cX8_byRule 19 = .ok (.aload_n 0, 1) := dz_42 (k_X8_byRule 0 19 rfl)
theorem dX8_byRule_20 : decode cX8_byRule 20 = .ok (.aload_n 0, 1) := dz_42 (k_X8_byRule 0 20 rfl)
theorem dX8_byRule_21 : decode cX8_byRule 21 = .ok (.getfield 402, 3) := dz_180 (k_X8_byRule 0 21 rfl) (k_X8_byRule 0 22 rfl) (k_X8_byRule 0 23 rfl) rfl
theorem dX8_byRule_24 : decode cX8_byRule 24 = .ok (.iload_n 1, 1) := dz_27 (k_X8_byRule 0 24 rfl)
theorem dX8_byRule_25 : decode cX8_byRule 25 = .ok (.bipush 30, 2) := dz_16 (k_X8_byRule 0 25 rfl) (k_X8_byRule 0 26 rfl) rfl
theorem dX8_byRule_27 : decode cX8_byRule 27 = .ok (.iload_n 2, 1) := dz_28 (k_X8_byRule 0 27 rfl)
theorem dX8_byRule_28 : decode cX8_byRule 28 = .ok (.iadd, 1) := dz_96 (k_X8_byRule 0 28 rfl)
theorem dX8_byRule_29 : decode cX8_byRule 29 = .ok (.invokevirtual 259, 3) := dz_182 (k_X8_byRule 0 29 rfl) (k_X8_byRule 0 30 rfl) (k_X8_byRule 0 31 rfl) rfl
theorem dX8_byRule_32 : decode cX8_byRule 32 = .ok (.invokestatic 396, 3) := dz_184 (k_X8_byRule 0 32 rfl) (k_X8_byRule 0 33 rfl) (k_X8_byRule 0 34 rfl) rfl
theorem dX8_byRule_35 : decode cX8_byRule 35 = .ok (.goto 6, 3) := dz_167 (k_X8_byRule 0 35 rfl) (k_X8_byRule 0 36 rfl) (k_X8_byRule 0 37 rfl) rfl
theorem dX8_byRule_38 : decode cX8_byRule 38 = .ok (.ldc_w 387, 3) := dz_19 (k_X8_byRule 0 38 rfl) (k_X8_byRule 0 39 rfl) (k_X8_byRule 0 40 rfl) rfl
theorem dX8_byRule_41 : decode cX8_byRule 41 = .ok (.istore 4, 2) := dz_54 (k_X8_byRule 0 41 rfl) (k_X8_byRule 0 42 rfl)
theorem dX8_byRule_43 : decode cX8_byRule 43 = .ok (.iload 4, 2) := dz_21 (k_X8_byRule 0 43 rfl) (k_X8_byRule 0 44 rfl)
theorem dX8_byRule_45 : decode cX8_byRule 45 = .ok (.ldc_w 408, 3) := dz_19 (k_X8_byRule 0 45 rfl) (k_X8_byRule 0 46 rfl) (k_X8_byRule 0 47 rfl) rfl
theorem dX8_byRule_48 : decode cX8_byRule 48 = .ok (.if_icmp .le 9, 3) := dz_164 (k_X8_byRule 0 48 rfl) (k_X8_byRule 0 49 rfl) (k_X8_byRule 0 50 rfl) rfl
theorem dX8_byRule_51 : decode cX8_byRule 51 = .ok (.ldc_w 387, 3) := dz_19 (k_X8_byRule 0 51 rfl) (k_X8_byRule 0 52 rfl) (k_X8_byRule 0 53 rfl) rfl
theorem dX8_byRule_54 : decode cX8_byRule 54 = .ok (.goto 5, 3) := dz_167 (k_X8_byRule 0 54 rfl) (k_X8_byRule 0 55 rfl) (k_X8_byRule 0 56 rfl) rfl
theorem dX8_byRule_57 : decode cX8_byRule 57 = .ok (.iload 4, 2) := dz_21 (k_X8_byRule 0 57 rfl) (k_X8_byRule 0 58 rfl)
theorem dX8_byRule_59 : decode cX8_byRule 59 = .ok (.ireturn, 1) := dz_172 (k_X8_byRule 0 59 rfl)
def B_X8_caseOf : List (List Nat) := [[3, 54, 5, 21, 5, 42, 180, 1, 104, 162, 0, 68, 16, 30, 21, 5, 96, 54, 6, 42, 180, 0, 59, 21, 5, 46, 16, 15, 160, 0, 43, 42, 27, 28, 29, 2, 21, 6, 4, 42, 21, 6, 4, 182, 0, 132, 182, 0, 128, 153, 0, 22, 42, 21, 6, 16, 15, 16, 30, 21, 4, 96, 182, 1], [31, 153, 0, 6, 21, 5, 172, 132, 5, 1, 167, 255, 185, 2, 172]]
theorem k_X8_caseOf (j i : Nat) {b : Nat} (h : (B_X8_caseOf[j]?.bind fun c => c[i]?) = some b) : s_by cX8_caseOf (64 * j + i) b := s_byC (L := B_X8_caseOf) (by decide +kernel) (by decide +kernel) j i h
theorem dX8_caseOf_0 : decode cX8_caseOf 0 = .ok (.iconst 0, 1) := dz_3 (k_X8_caseOf 0 0 rfl)
theorem dX8_caseOf_1 : decode cX8_caseOf 1 = .ok (.istore 5, 2) := dz_54 (k_X8_caseOf 0 1 rfl) (k_X8_caseOf 0 2 rfl)
theorem dX8_caseOf_3 : decode cX8_caseOf 3 = .ok (.iload 5, 2) := dz_21 (k_X8_caseOf 0 3 rfl) (k_X8_caseOf 0 4 rfl)
theorem dX8_caseOf_5 : decode cX8_caseOf 5 = .ok (.aload_n 0, 1) := dz_42 (k_X8_caseOf 0 5 rfl)
theorem dX8_caseOf_6 : decode cX8_caseOf 6 = .ok (.getfield 360, 3) := dz_180 (k_X8_caseOf 0 6 rfl) (k_X8_caseOf 0 7 rfl) (k_X8_caseOf 0 8 rfl) rfl
theorem dX8_caseOf_9 : decode cX8_caseOf 9 = .ok (.if_icmp .ge 68, 3) := dz_162 (k_X8_caseOf 0 9 rfl) (k_X8_caseOf 0 10 rfl) (k_X8_caseOf 0 11 rfl) rfl
theorem dX8_caseOf_12 : decode cX8_caseOf 12 = .ok (.bipush 30, 2) := dz_16 (k_X8_caseOf 0 12 rfl) (k_X8_caseOf 0 13 rfl) rfl
theorem dX8_caseOf_14 : decode cX8_caseOf 14 = .ok (.iload 5, 2) := dz_21 (k_X8_caseOf 0 14 rfl) (k_X8_caseOf 0 15 rfl)
theorem dX8_caseOf_16 : decode cX8_caseOf 16 = .ok (.iadd, 1) := dz_96 (k_X8_caseOf 0 16 rfl)
theorem dX8_caseOf_17 : decode cX8_caseOf 17 = .ok (.istore 6, 2) := dz_54 (k_X8_caseOf 0 17 rfl) (k_X8_caseOf 0 18 rfl)
theorem dX8_caseOf_19 : decode cX8_caseOf 19 = .ok (.aload_n 0, 1) := dz_42 (k_X8_caseOf 0 19 rfl)
theorem dX8_caseOf_20 : decode cX8_caseOf 20 = .ok (.getfield 59, 3) := dz_180 (k_X8_caseOf 0 20 rfl) (k_X8_caseOf 0 21 rfl) (k_X8_caseOf 0 22 rfl) rfl
theorem dX8_caseOf_23 : decode cX8_caseOf 23 = .ok (.iload 5, 2) := dz_21 (k_X8_caseOf 0 23 rfl) (k_X8_caseOf 0 24 rfl)
theorem dX8_caseOf_25 : decode cX8_caseOf 25 = .ok (.iaload, 1) := dz_46 (k_X8_caseOf 0 25 rfl)
theorem dX8_caseOf_26 : decode cX8_caseOf 26 = .ok (.bipush 15, 2) := dz_16 (k_X8_caseOf 0 26 rfl) (k_X8_caseOf 0 27 rfl) rfl
theorem dX8_caseOf_28 : decode cX8_caseOf 28 = .ok (.if_icmp .ne 43, 3) := dz_160 (k_X8_caseOf 0 28 rfl) (k_X8_caseOf 0 29 rfl) (k_X8_caseOf 0 30 rfl) rfl
theorem dX8_caseOf_31 : decode cX8_caseOf 31 = .ok (.aload_n 0, 1) := dz_42 (k_X8_caseOf 0 31 rfl)
theorem dX8_caseOf_32 : decode cX8_caseOf 32 = .ok (.iload_n 1, 1) := dz_27 (k_X8_caseOf 0 32 rfl)
theorem dX8_caseOf_33 : decode cX8_caseOf 33 = .ok (.iload_n 2, 1) := dz_28 (k_X8_caseOf 0 33 rfl)
theorem dX8_caseOf_34 : decode cX8_caseOf 34 = .ok (.iload_n 3, 1) := dz_29 (k_X8_caseOf 0 34 rfl)
theorem dX8_caseOf_35 : decode cX8_caseOf 35 = .ok (.iconst (-1), 1) := dz_2 (k_X8_caseOf 0 35 rfl)
theorem dX8_caseOf_36 : decode cX8_caseOf 36 = .ok (.iload 6, 2) := dz_21 (k_X8_caseOf 0 36 rfl) (k_X8_caseOf 0 37 rfl)
theorem dX8_caseOf_38 : decode cX8_caseOf 38 = .ok (.iconst 1, 1) := dz_4 (k_X8_caseOf 0 38 rfl)
theorem dX8_caseOf_39 : decode cX8_caseOf 39 = .ok (.aload_n 0, 1) := dz_42 (k_X8_caseOf 0 39 rfl)
theorem dX8_caseOf_40 : decode cX8_caseOf 40 = .ok (.iload 6, 2) := dz_21 (k_X8_caseOf 0 40 rfl) (k_X8_caseOf 0 41 rfl)
theorem dX8_caseOf_42 : decode cX8_caseOf 42 = .ok (.iconst 1, 1) := dz_4 (k_X8_caseOf 0 42 rfl)
theorem dX8_caseOf_43 : decode cX8_caseOf 43 = .ok (.invokevirtual 132, 3) := dz_182 (k_X8_caseOf 0 43 rfl) (k_X8_caseOf 0 44 rfl) (k_X8_caseOf 0 45 rfl) rfl
theorem dX8_caseOf_46 : decode cX8_caseOf 46 = .ok (.invokevirtual 128, 3) := dz_182 (k_X8_caseOf 0 46 rfl) (k_X8_caseOf 0 47 rfl) (k_X8_caseOf 0 48 rfl) rfl
theorem dX8_caseOf_49 : decode cX8_caseOf 49 = .ok (.ifCond .eq 22, 3) := dz_153 (k_X8_caseOf 0 49 rfl) (k_X8_caseOf 0 50 rfl) (k_X8_caseOf 0 51 rfl) rfl
theorem dX8_caseOf_52 : decode cX8_caseOf 52 = .ok (.aload_n 0, 1) := dz_42 (k_X8_caseOf 0 52 rfl)
theorem dX8_caseOf_53 : decode cX8_caseOf 53 = .ok (.iload 6, 2) := dz_21 (k_X8_caseOf 0 53 rfl) (k_X8_caseOf 0 54 rfl)
theorem dX8_caseOf_55 : decode cX8_caseOf 55 = .ok (.bipush 15, 2) := dz_16 (k_X8_caseOf 0 55 rfl) (k_X8_caseOf 0 56 rfl) rfl
theorem dX8_caseOf_57 : decode cX8_caseOf 57 = .ok (.bipush 30, 2) := dz_16 (k_X8_caseOf 0 57 rfl) (k_X8_caseOf 0 58 rfl) rfl
theorem dX8_caseOf_59 : decode cX8_caseOf 59 = .ok (.iload 4, 2) := dz_21 (k_X8_caseOf 0 59 rfl) (k_X8_caseOf 0 60 rfl)
theorem dX8_caseOf_61 : decode cX8_caseOf 61 = .ok (.iadd, 1) := dz_96 (k_X8_caseOf 0 61 rfl)
theorem dX8_caseOf_62 : decode cX8_caseOf 62 = .ok (.invokevirtual 287, 3) := dz_182 (k_X8_caseOf 0 62 rfl) (k_X8_caseOf 0 63 rfl) (k_X8_caseOf 1 0 rfl) rfl
theorem dX8_caseOf_65 : decode cX8_caseOf 65 = .ok (.ifCond .eq 6, 3) := dz_153 (k_X8_caseOf 1 1 rfl) (k_X8_caseOf 1 2 rfl) (k_X8_caseOf 1 3 rfl) rfl
theorem dX8_caseOf_68 : decode cX8_caseOf 68 = .ok (.iload 5, 2) := dz_21 (k_X8_caseOf 1 4 rfl) (k_X8_caseOf 1 5 rfl)
theorem dX8_caseOf_70 : decode cX8_caseOf 70 = .ok (.ireturn, 1) := dz_172 (k_X8_caseOf 1 6 rfl)
theorem dX8_caseOf_71 : decode cX8_caseOf 71 = .ok (.iinc 5 1, 3) := dz_132 (k_X8_caseOf 1 7 rfl) (k_X8_caseOf 1 8 rfl) (k_X8_caseOf 1 9 rfl) rfl
theorem dX8_caseOf_74 : decode cX8_caseOf 74 = .ok (.goto (-71), 3) := dz_167 (k_X8_caseOf 1 10 rfl) (k_X8_caseOf 1 11 rfl) (k_X8_caseOf 1 12 rfl) rfl
theorem dX8_caseOf_77 : decode cX8_caseOf 77 = .ok (.iconst (-1), 1) := dz_2 (k_X8_caseOf 1 13 rfl)
theorem dX8_caseOf_78 : decode cX8_caseOf 78 = .ok (.ireturn, 1) := dz_172 (k_X8_caseOf 1 14 rfl)
def B_X8_chain : List (List Nat) := [[42, 3, 181, 0, 3, 42, 42, 27, 182, 1, 7, 4, 182, 0, 224, 153, 0, 5, 3, 172, 3, 61, 27, 62, 29, 155, 0, 27, 42, 29, 5, 182, 1, 0, 16, 15, 160, 0, 16, 132, 2, 1, 42, 29, 3, 182, 1, 13, 62, 167, 255, 231, 28, 172]]
theorem k_X8_chain (j i : Nat) {b : Nat} (h : (B_X8_chain[j]?.bind fun c => c[i]?) = some b) : s_by cX8_chain (64 * j + i) b := s_byC (L := B_X8_chain) (by decide +kernel) (by decide +kernel) j i h
theorem dX8_chain_0 : decode cX8_chain 0 = .ok (.aload_n 0, 1) := dz_42 (k_X8_chain 0 0 rfl)
theorem dX8_chain_1 : decode cX8_chain 1 = .ok (.iconst 0, 1) := dz_3 (k_X8_chain 0 1 rfl)
theorem dX8_chain_2 : decode cX8_chain 2 = .ok (.putfield 3, 3) := dz_181 (k_X8_chain 0 2 rfl) (k_X8_chain 0 3 rfl) (k_X8_chain 0 4 rfl) rfl
theorem dX8_chain_5 : decode cX8_chain 5 = .ok (.aload_n 0, 1) := dz_42 (k_X8_chain 0 5 rfl)
theorem dX8_chain_6 : decode cX8_chain 6 = .ok (.aload_n 0, 1) := dz_42 (k_X8_chain 0 6 rfl)
theorem dX8_chain_7 : decode cX8_chain 7 = .ok (.iload_n 1, 1) := dz_27 (k_X8_chain 0 7 rfl)
theorem dX8_chain_8 : decode cX8_chain 8 = .ok (.invokevirtual 263, 3) := dz_182 (k_X8_chain 0 8 rfl) (k_X8_chain 0 9 rfl) (k_X8_chain 0 10 rfl) rfl
theorem dX8_chain_11 : decode cX8_chain 11 = .ok (.iconst 1, 1) := dz_4 (k_X8_chain 0 11 rfl)
theorem dX8_chain_12 : decode cX8_chain 12 = .ok (.invokevirtual 224, 3) := dz_182 (k_X8_chain 0 12 rfl) (k_X8_chain 0 13 rfl) (k_X8_chain 0 14 rfl) rfl
theorem dX8_chain_15 : decode cX8_chain 15 = .ok (.ifCond .eq 5, 3) := dz_153 (k_X8_chain 0 15 rfl) (k_X8_chain 0 16 rfl) (k_X8_chain 0 17 rfl) rfl
theorem dX8_chain_18 : decode cX8_chain 18 = .ok (.iconst 0, 1) := dz_3 (k_X8_chain 0 18 rfl)
theorem dX8_chain_19 : decode cX8_chain 19 = .ok (.ireturn, 1) := dz_172 (k_X8_chain 0 19 rfl)
theorem dX8_chain_20 : decode cX8_chain 20 = .ok (.iconst 0, 1) := dz_3 (k_X8_chain 0 20 rfl)
theorem dX8_chain_21 : decode cX8_chain 21 = .ok (.istore_n 2, 1) := dz_61 (k_X8_chain 0 21 rfl)
theorem dX8_chain_22 : decode cX8_chain 22 = .ok (.iload_n 1, 1) := dz_27 (k_X8_chain 0 22 rfl)
theorem dX8_chain_23 : decode cX8_chain 23 = .ok (.istore_n 3, 1) := dz_62 (k_X8_chain 0 23 rfl)
theorem dX8_chain_24 : decode cX8_chain 24 = .ok (.iload_n 3, 1) := dz_29 (k_X8_chain 0 24 rfl)
theorem dX8_chain_25 : decode cX8_chain 25 = .ok (.ifCond .lt 27, 3) := dz_155 (k_X8_chain 0 25 rfl) (k_X8_chain 0 26 rfl) (k_X8_chain 0 27 rfl) rfl
theorem dX8_chain_28 : decode cX8_chain 28 = .ok (.aload_n 0, 1) := dz_42 (k_X8_chain 0 28 rfl)
theorem dX8_chain_29 : decode cX8_chain 29 = .ok (.iload_n 3, 1) := dz_29 (k_X8_chain 0 29 rfl)
theorem dX8_chain_30 : decode cX8_chain 30 = .ok (.iconst 2, 1) := dz_5 (k_X8_chain 0 30 rfl)
theorem dX8_chain_31 : decode cX8_chain 31 = .ok (.invokevirtual 256, 3) := dz_182 (k_X8_chain 0 31 rfl) (k_X8_chain 0 32 rfl) (k_X8_chain 0 33 rfl) rfl
theorem dX8_chain_34 : decode cX8_chain 34 = .ok (.bipush 15, 2) := dz_16 (k_X8_chain 0 34 rfl) (k_X8_chain 0 35 rfl) rfl
theorem dX8_chain_36 : decode cX8_chain 36 = .ok (.if_icmp .ne 16, 3) := dz_160 (k_X8_chain 0 36 rfl) (k_X8_chain 0 37 rfl) (k_X8_chain 0 38 rfl) rfl
theorem dX8_chain_39 : decode cX8_chain 39 = .ok (.iinc 2 1, 3) := dz_132 (k_X8_chain 0 39 rfl) (k_X8_chain 0 40 rfl) (k_X8_chain 0 41 rfl) rfl
theorem dX8_chain_42 : decode cX8_chain 42 = .ok (.aload_n 0, 1) := dz_42 (k_X8_chain 0 42 rfl)
theorem dX8_chain_43 : decode cX8_chain 43 = .ok (.iload_n 3, 1) := dz_29 (k_X8_chain 0 43 rfl)
theorem dX8_chain_44 : decode cX8_chain 44 = .ok (.iconst 0, 1) := dz_3 (k_X8_chain 0 44 rfl)
theorem dX8_chain_45 : decode cX8_chain 45 = .ok (.invokevirtual 269, 3) := dz_182 (k_X8_chain 0 45 rfl) (k_X8_chain 0 46 rfl) (k_X8_chain 0 47 rfl) rfl
theorem dX8_chain_48 : decode cX8_chain 48 = .ok (.istore_n 3, 1) := dz_62 (k_X8_chain 0 48 rfl)
theorem dX8_chain_49 : decode cX8_chain 49 = .ok (.goto (-25), 3) := dz_167 (k_X8_chain 0 49 rfl) (k_X8_chain 0 50 rfl) (k_X8_chain 0 51 rfl) rfl
theorem dX8_chain_52 : decode cX8_chain 52 = .ok (.iload_n 2, 1) := dz_28 (k_X8_chain 0 52 rfl)
theorem dX8_chain_53 : decode cX8_chain 53 = .ok (.ireturn, 1) := dz_172 (k_X8_chain 0 53 rfl)
def B_X8_cheapest : List (List Nat) := [[42, 3, 181, 0, 3, 42, 42, 27, 28, 29, 182, 1, 163, 4, 182, 0, 224, 153, 0, 7, 3, 167, 0, 10, 42, 27, 28, 29, 182, 1, 166, 172]]
theorem k_X8_cheapest (j i : Nat) {b : Nat} (h : (B_X8_cheapest[j]?.bind fun c => c[i]?) = some b) : s_by cX8_cheapest (64 * j + i) b := s_byC (L := B_X8_cheapest) (by decide +kernel) (by decide +kernel) j i h
theorem dX8_cheapest_0 : decode cX8_cheapest 0 = .ok (.aload_n 0, 1) := dz_42 (k_X8_cheapest 0 0 rfl)
theorem dX8_cheapest_1 : decode cX8_cheapest 1 = .ok (.iconst 0, 1) := dz_3 (k_X8_cheapest 0 1 rfl)
theorem dX8_cheapest_2 : decode cX8_cheapest 2 = .ok (.putfield 3, 3) := dz_181 (k_X8_cheapest 0 2 rfl) (k_X8_cheapest 0 3 rfl) (k_X8_cheapest 0 4 rfl) rfl
theorem dX8_cheapest_5 : decode cX8_cheapest 5 = .ok (.aload_n 0, 1) := dz_42 (k_X8_cheapest 0 5 rfl)
theorem dX8_cheapest_6 : decode cX8_cheapest 6 = .ok (.aload_n 0, 1) := dz_42 (k_X8_cheapest 0 6 rfl)
theorem dX8_cheapest_7 : decode cX8_cheapest 7 = .ok (.iload_n 1, 1) := dz_27 (k_X8_cheapest 0 7 rfl)
theorem dX8_cheapest_8 : decode cX8_cheapest 8 = .ok (.iload_n 2, 1) := dz_28 (k_X8_cheapest 0 8 rfl)
theorem dX8_cheapest_9 : decode cX8_cheapest 9 = .ok (.iload_n 3, 1) := dz_29 (k_X8_cheapest 0 9 rfl)
theorem dX8_cheapest_10 : decode cX8_cheapest 10 = .ok (.invokevirtual 419, 3) := dz_182 (k_X8_cheapest 0 10 rfl) (k_X8_cheapest 0 11 rfl) (k_X8_cheapest 0 12 rfl) rfl
theorem dX8_cheapest_13 : decode cX8_cheapest 13 = .ok (.iconst 1, 1) := dz_4 (k_X8_cheapest 0 13 rfl)
theorem dX8_cheapest_14 : decode cX8_cheapest 14 = .ok (.invokevirtual 224, 3) := dz_182 (k_X8_cheapest 0 14 rfl) (k_X8_cheapest 0 15 rfl) (k_X8_cheapest 0 16 rfl) rfl
theorem dX8_cheapest_17 : decode cX8_cheapest 17 = .ok (.ifCond .eq 7, 3) := dz_153 (k_X8_cheapest 0 17 rfl) (k_X8_cheapest 0 18 rfl) (k_X8_cheapest 0 19 rfl) rfl
theorem dX8_cheapest_20 : decode cX8_cheapest 20 = .ok (.iconst 0, 1) := dz_3 (k_X8_cheapest 0 20 rfl)
theorem dX8_cheapest_21 : decode cX8_cheapest 21 = .ok (.goto 10, 3) := dz_167 (k_X8_cheapest 0 21 rfl) (k_X8_cheapest 0 22 rfl) (k_X8_cheapest 0 23 rfl) rfl
theorem dX8_cheapest_24 : decode cX8_cheapest 24 = .ok (.aload_n 0, 1) := dz_42 (k_X8_cheapest 0 24 rfl)
theorem dX8_cheapest_25 : decode cX8_cheapest 25 = .ok (.iload_n 1, 1) := dz_27 (k_X8_cheapest 0 25 rfl)
theorem dX8_cheapest_26 : decode cX8_cheapest 26 = .ok (.iload_n 2, 1) := dz_28 (k_X8_cheapest 0 26 rfl)
theorem dX8_cheapest_27 : decode cX8_cheapest 27 = .ok (.iload_n 3, 1) := dz_29 (k_X8_cheapest 0 27 rfl)
theorem dX8_cheapest_28 : decode cX8_cheapest 28 = .ok (.invokevirtual 422, 3) := dz_182 (k_X8_cheapest 0 28 rfl) (k_X8_cheapest 0 29 rfl) (k_X8_cheapest 0 30 rfl) rfl
theorem dX8_cheapest_31 : decode cX8_cheapest 31 = .ok (.ireturn, 1) := dz_172 (k_X8_cheapest 0 31 rfl)
def B_X8_copies : List (List Nat) := [[42, 180, 0, 20, 21, 5, 29, 28, 100, 79, 28, 54, 6, 21, 6, 29, 162, 0, 36, 42, 180, 0, 23, 16, 40, 21, 5, 104, 21, 6, 96, 28, 100, 42, 27, 21, 6, 182, 0, 114, 21, 4, 184, 0, 125, 79, 132, 6, 1, 167, 255, 220, 177]]
theorem k_X8_copies (j i : Nat) {b : Nat} (h : (B_X8_copies[j]?.bind fun c => c[i]?) = some b) : s_by cX8_copies (64 * j + i) b := s_byC (L := B_X8_copies) (by decide +kernel) (by decide +kernel) j i h
theorem dX8_copies_0 : decode cX8_copies 0 = .ok (.aload_n 0, 1) := dz_42 (k_X8_copies 0 0 rfl)
theorem dX8_copies_1 : decode cX8_copies 1 = .ok (.getfield 20, 3) := dz_180 (k_X8_copies 0 1 rfl) (k_X8_copies 0 2 rfl) (k_X8_copies 0 3 rfl) rfl
theorem dX8_copies_4 : decode cX8_copies 4 = .ok (.iload 5, 2) := dz_21 (k_X8_copies 0 4 rfl) (k_X8_copies 0 5 rfl)
theorem dX8_copies_6 : decode cX8_copies 6 = .ok (.iload_n 3, 1) := dz_29 (k_X8_copies 0 6 rfl)
theorem dX8_copies_7 : decode cX8_copies 7 = .ok (.iload_n 2, 1) := dz_28 (k_X8_copies 0 7 rfl)
theorem dX8_copies_8 : decode cX8_copies 8 = .ok (.isub, 1) := dz_100 (k_X8_copies 0 8 rfl)
theorem dX8_copies_9 : decode cX8_copies 9 = .ok (.iastore, 1) := dz_79 (k_X8_copies 0 9 rfl)
theorem dX8_copies_10 : decode cX8_copies 10 = .ok (.iload_n 2, 1) := dz_28 (k_X8_copies 0 10 rfl)
theorem dX8_copies_11 : decode cX8_copies 11 = .ok (.istore 6, 2) := dz_54 (k_X8_copies 0 11 rfl) (k_X8_copies 0 12 rfl)
theorem dX8_copies_13 : decode cX8_copies 13 = .ok (.iload 6, 2) := dz_21 (k_X8_copies 0 13 rfl) (k_X8_copies 0 14 rfl)
theorem dX8_copies_15 : decode cX8_copies 15 = .ok (.iload_n 3, 1) := dz_29 (k_X8_copies 0 15 rfl)
theorem dX8_copies_16 : decode cX8_copies 16 = .ok (.if_icmp .ge 36, 3) := dz_162 (k_X8_copies 0 16 rfl) (k_X8_copies 0 17 rfl) (k_X8_copies 0 18 rfl) rfl
theorem dX8_copies_19 : decode cX8_copies 19 = .ok (.aload_n 0, 1) := dz_42 (k_X8_copies 0 19 rfl)
theorem dX8_copies_20 : decode cX8_copies 20 = .ok (.getfield 23, 3) := dz_180 (k_X8_copies 0 20 rfl) (k_X8_copies 0 21 rfl) (k_X8_copies 0 22 rfl) rfl
theorem dX8_copies_23 : decode cX8_copies 23 = .ok (.bipush 40, 2) := dz_16 (k_X8_copies 0 23 rfl) (k_X8_copies 0 24 rfl) rfl
theorem dX8_copies_25 : decode cX8_copies 25 = .ok (.iload 5, 2) := dz_21 (k_X8_copies 0 25 rfl) (k_X8_copies 0 26 rfl)
theorem dX8_copies_27 : decode cX8_copies 27 = .ok (.imul, 1) := dz_104 (k_X8_copies 0 27 rfl)
theorem dX8_copies_28 : decode cX8_copies 28 = .ok (.iload 6, 2) := dz_21 (k_X8_copies 0 28 rfl) (k_X8_copies 0 29 rfl)
theorem dX8_copies_30 : decode cX8_copies 30 = .ok (.iadd, 1) := dz_96 (k_X8_copies 0 30 rfl)
theorem dX8_copies_31 : decode cX8_copies 31 = .ok (.iload_n 2, 1) := dz_28 (k_X8_copies 0 31 rfl)
theorem dX8_copies_32 : decode cX8_copies 32 = .ok (.isub, 1) := dz_100 (k_X8_copies 0 32 rfl)
theorem dX8_copies_33 : decode cX8_copies 33 = .ok (.aload_n 0, 1) := dz_42 (k_X8_copies 0 33 rfl)
theorem dX8_copies_34 : decode cX8_copies 34 = .ok (.iload_n 1, 1) := dz_27 (k_X8_copies 0 34 rfl)
theorem dX8_copies_35 : decode cX8_copies 35 = .ok (.iload 6, 2) := dz_21 (k_X8_copies 0 35 rfl) (k_X8_copies 0 36 rfl)
theorem dX8_copies_37 : decode cX8_copies 37 = .ok (.invokevirtual 114, 3) := dz_182 (k_X8_copies 0 37 rfl) (k_X8_copies 0 38 rfl) (k_X8_copies 0 39 rfl) rfl
theorem dX8_copies_40 : decode cX8_copies 40 = .ok (.iload 4, 2) := dz_21 (k_X8_copies 0 40 rfl) (k_X8_copies 0 41 rfl)
theorem dX8_copies_42 : decode cX8_copies 42 = .ok (.invokestatic 125, 3) := dz_184 (k_X8_copies 0 42 rfl) (k_X8_copies 0 43 rfl) (k_X8_copies 0 44 rfl) rfl
theorem dX8_copies_45 : decode cX8_copies 45 = .ok (.iastore, 1) := dz_79 (k_X8_copies 0 45 rfl)
theorem dX8_copies_46 : decode cX8_copies 46 = .ok (.iinc 6 1, 3) := dz_132 (k_X8_copies 0 46 rfl) (k_X8_copies 0 47 rfl) (k_X8_copies 0 48 rfl) rfl
theorem dX8_copies_49 : decode cX8_copies 49 = .ok (.goto (-36), 3) := dz_167 (k_X8_copies 0 49 rfl) (k_X8_copies 0 50 rfl) (k_X8_copies 0 51 rfl) rfl
theorem dX8_copies_52 : decode cX8_copies 52 = .ok (.return_, 1) := dz_177 (k_X8_copies 0 52 rfl)
def B_X8_core : List (List Nat) := [[42, 3, 181, 0, 3, 42, 27, 182, 1, 77, 61, 42, 28, 184, 1, 72, 16, 14, 164, 0, 7, 4, 167, 0, 4, 3, 4, 182, 0, 224, 154, 0, 11, 42, 28, 182, 1, 83, 154, 0, 5, 3, 172, 28, 62, 28, 54, 4, 21, 4, 158, 0, 39, 21, 4, 29, 184, 1, 80, 153, 0, 17, 42, 21], [4, 182, 1, 83, 153, 0, 8, 21, 4, 167, 0, 4, 29, 62, 21, 4, 4, 100, 28, 126, 54, 4, 167, 255, 218, 29, 172]]
theorem k_X8_core (j i : Nat) {b : Nat} (h : (B_X8_core[j]?.bind fun c => c[i]?) = some b) : s_by cX8_core (64 * j + i) b := s_byC (L := B_X8_core) (by decide +kernel) (by decide +kernel) j i h
theorem dX8_core_0 : decode cX8_core 0 = .ok (.aload_n 0, 1) := dz_42 (k_X8_core 0 0 rfl)
theorem dX8_core_1 : decode cX8_core 1 = .ok (.iconst 0, 1) := dz_3 (k_X8_core 0 1 rfl)
theorem dX8_core_2 : decode cX8_core 2 = .ok (.putfield 3, 3) := dz_181 (k_X8_core 0 2 rfl) (k_X8_core 0 3 rfl) (k_X8_core 0 4 rfl) rfl
theorem dX8_core_5 : decode cX8_core 5 = .ok (.aload_n 0, 1) := dz_42 (k_X8_core 0 5 rfl)
theorem dX8_core_6 : decode cX8_core 6 = .ok (.iload_n 1, 1) := dz_27 (k_X8_core 0 6 rfl)
theorem dX8_core_7 : decode cX8_core 7 = .ok (.invokevirtual 333, 3) := dz_182 (k_X8_core 0 7 rfl) (k_X8_core 0 8 rfl) (k_X8_core 0 9 rfl) rfl
theorem dX8_core_10 : decode cX8_core 10 = .ok (.istore_n 2, 1) := dz_61 (k_X8_core 0 10 rfl)
theorem dX8_core_11 : decode cX8_core 11 = .ok (.aload_n 0, 1) := dz_42 (k_X8_core 0 11 rfl)
theorem dX8_core_12 : decode cX8_core 12 = .ok (.iload_n 2, 1) := dz_28 (k_X8_core 0 12 rfl)
theorem dX8_core_13 : decode cX8_core 13 = .ok (.invokestatic 328, 3) := dz_184 (k_X8_core 0 13 rfl) (k_X8_core 0 14 rfl) (k_X8_core 0 15 rfl) rfl
theorem dX8_core_16 : decode cX8_core 16 = .ok (.bipush 14, 2) := dz_16 (k_X8_core 0 16 rfl) (k_X8_core 0 17 rfl) rfl
theorem dX8_core_18 : decode cX8_core 18 = .ok (.if_icmp .le 7, 3) := dz_164 (k_X8_core 0 18 rfl) (k_X8_core 0 19 rfl) (k_X8_core 0 20 rfl) rfl
theorem dX8_core_21 : decode cX8_core 21 = .ok (.iconst 1, 1) := dz_4 (k_X8_core 0 21 rfl)
theorem dX8_core_22 : decode cX8_core 22 = .ok (.goto 4, 3) := dz_167 (k_X8_core 0 22 rfl) (k_X8_core 0 23 rfl) (k_X8_core 0 24 rfl) rfl
theorem dX8_core_25 : decode cX8_core 25 = .ok (.iconst 0, 1) := dz_3 (k_X8_core 0 25 rfl)
theorem dX8_core_26 : decode cX8_core 26 = .ok (.iconst 1, 1) := dz_4 (k_X8_core 0 26 rfl)
theorem dX8_core_27 : decode cX8_core 27 = .ok (.invokevirtual 224, 3) := dz_182 (k_X8_core 0 27 rfl) (k_X8_core 0 28 rfl) (k_X8_core 0 29 rfl) rfl
theorem dX8_core_30 : decode cX8_core 30 = .ok (.ifCond .ne 11, 3) := dz_154 (k_X8_core 0 30 rfl) (k_X8_core 0 31 rfl) (k_X8_core 0 32 rfl) rfl
theorem dX8_core_33 : decode cX8_core 33 = .ok (.aload_n 0, 1) := dz_42 (k_X8_core 0 33 rfl)
theorem dX8_core_34 : decode cX8_core 34 = .ok (.iload_n 2, 1) := dz_28 (k_X8_core 0 34 rfl)
theorem dX8_core_35 : decode cX8_core 35 = .ok (.invokevirtual 339, 3) := dz_182 (k_X8_core 0 35 rfl) (k_X8_core 0 36 rfl) (k_X8_core 0 37 rfl) rfl
theorem dX8_core_38 : decode cX8_core 38 = .ok (.ifCond .ne 5, 3) := dz_154 (k_X8_core 0 38 rfl) (k_X8_core 0 39 rfl) (k_X8_core 0 40 rfl) rfl
theorem dX8_core_41 : decode cX8_core 41 = .ok (.iconst 0, 1) := dz_3 (k_X8_core 0 41 rfl)
theorem dX8_core_42 : decode cX8_core 42 = .ok (.ireturn, 1) := dz_172 (k_X8_core 0 42 rfl)
theorem dX8_core_43 : decode cX8_core 43 = .ok (.iload_n 2, 1) := dz_28 (k_X8_core 0 43 rfl)
theorem dX8_core_44 : decode cX8_core 44 = .ok (.istore_n 3, 1) := dz_62 (k_X8_core 0 44 rfl)
theorem dX8_core_45 : decode cX8_core 45 = .ok (.iload_n 2, 1) := dz_28 (k_X8_core 0 45 rfl)
theorem dX8_core_46 : decode cX8_core 46 = .ok (.istore 4, 2) := dz_54 (k_X8_core 0 46 rfl) (k_X8_core 0 47 rfl)
theorem dX8_core_48 : decode cX8_core 48 = .ok (.iload 4, 2) := dz_21 (k_X8_core 0 48 rfl) (k_X8_core 0 49 rfl)
theorem dX8_core_50 : decode cX8_core 50 = .ok (.ifCond .le 39, 3) := dz_158 (k_X8_core 0 50 rfl) (k_X8_core 0 51 rfl) (k_X8_core 0 52 rfl) rfl
theorem dX8_core_53 : decode cX8_core 53 = .ok (.iload 4, 2) := dz_21 (k_X8_core 0 53 rfl) (k_X8_core 0 54 rfl)
theorem dX8_core_55 : decode cX8_core 55 = .ok (.iload_n 3, 1) := dz_29 (k_X8_core 0 55 rfl)
theorem dX8_core_56 : decode cX8_core 56 = .ok (.invokestatic 336, 3) := dz_184 (k_X8_core 0 56 rfl) (k_X8_core 0 57 rfl) (k_X8_core 0 58 rfl) rfl
theorem dX8_core_59 : decode cX8_core 59 = .ok (.ifCond .eq 17, 3) := dz_153 (k_X8_core 0 59 rfl) (k_X8_core 0 60 rfl) (k_X8_core 0 61 rfl) rfl
theorem dX8_core_62 : decode cX8_core 62 = .ok (.aload_n 0, 1) := dz_42 (k_X8_core 0 62 rfl)
theorem dX8_core_63 : decode cX8_core 63 = .ok (.iload 4, 2) := dz_21 (k_X8_core 0 63 rfl) (k_X8_core 1 0 rfl)
theorem dX8_core_65 : decode cX8_core 65 = .ok (.invokevirtual 339, 3) := dz_182 (k_X8_core 1 1 rfl) (k_X8_core 1 2 rfl) (k_X8_core 1 3 rfl) rfl
theorem dX8_core_68 : decode cX8_core 68 = .ok (.ifCond .eq 8, 3) := dz_153 (k_X8_core 1 4 rfl) (k_X8_core 1 5 rfl) (k_X8_core 1 6 rfl) rfl
theorem dX8_core_71 : decode cX8_core 71 = .ok (.iload 4, 2) := dz_21 (k_X8_core 1 7 rfl) (k_X8_core 1 8 rfl)
theorem dX8_core_73 : decode cX8_core 73 = .ok (.goto 4, 3) := dz_167 (k_X8_core 1 9 rfl) (k_X8_core 1 10 rfl) (k_X8_core 1 11 rfl) rfl
theorem dX8_core_76 : decode cX8_core 76 = .ok (.iload_n 3, 1) := dz_29 (k_X8_core 1 12 rfl)
theorem dX8_core_77 : decode cX8_core 77 = .ok (.istore_n 3, 1) := dz_62 (k_X8_core 1 13 rfl)
theorem dX8_core_78 : decode cX8_core 78 = .ok (.iload 4, 2) := dz_21 (k_X8_core 1 14 rfl) (k_X8_core 1 15 rfl)
theorem dX8_core_80 : decode cX8_core 80 = .ok (.iconst 1, 1) := dz_4 (k_X8_core 1 16 rfl)
theorem dX8_core_81 : decode cX8_core 81 = .ok (.isub, 1) := dz_100 (k_X8_core 1 17 rfl)
theorem dX8_core_82 : decode cX8_core 82 = .ok (.iload_n 2, 1) := dz_28 (k_X8_core 1 18 rfl)
theorem dX8_core_83 : decode cX8_core 83 = .ok (.iand, 1) := dz_126 (k_X8_core 1 19 rfl)
theorem dX8_core_84 : decode cX8_core 84 = .ok (.istore 4, 2) := dz_54 (k_X8_core 1 20 rfl) (k_X8_core 1 21 rfl)
theorem dX8_core_86 : decode cX8_core 86 = .ok (.goto (-38), 3) := dz_167 (k_X8_core 1 22 rfl) (k_X8_core 1 23 rfl) (k_X8_core 1 24 rfl) rfl
theorem dX8_core_89 : decode cX8_core 89 = .ok (.iload_n 3, 1) := dz_29 (k_X8_core 1 25 rfl)
theorem dX8_core_90 : decode cX8_core 90 = .ok (.ireturn, 1) := dz_172 (k_X8_core 1 26 rfl)
def B_X8_costAt : List (List Nat) := [[27, 156, 0, 9, 19, 1, 131, 167, 0, 14, 42, 180, 0, 89, 16, 8, 27, 104, 28, 96, 46, 172]]
theorem k_X8_costAt (j i : Nat) {b : Nat} (h : (B_X8_costAt[j]?.bind fun c => c[i]?) = some b) : s_by cX8_costAt (64 * j + i) b := s_byC (L := B_X8_costAt) (by decide +kernel) (by decide +kernel) j i h
theorem dX8_costAt_0 : decode cX8_costAt 0 = .ok (.iload_n 1, 1) := dz_27 (k_X8_costAt 0 0 rfl)
theorem dX8_costAt_1 : decode cX8_costAt 1 = .ok (.ifCond .ge 9, 3) := dz_156 (k_X8_costAt 0 1 rfl) (k_X8_costAt 0 2 rfl) (k_X8_costAt 0 3 rfl) rfl
theorem dX8_costAt_4 : decode cX8_costAt 4 = .ok (.ldc_w 387, 3) := dz_19 (k_X8_costAt 0 4 rfl) (k_X8_costAt 0 5 rfl) (k_X8_costAt 0 6 rfl) rfl
theorem dX8_costAt_7 : decode cX8_costAt 7 = .ok (.goto 14, 3) := dz_167 (k_X8_costAt 0 7 rfl) (k_X8_costAt 0 8 rfl) (k_X8_costAt 0 9 rfl) rfl
theorem dX8_costAt_10 : decode cX8_costAt 10 = .ok (.aload_n 0, 1) := dz_42 (k_X8_costAt 0 10 rfl)
theorem dX8_costAt_11 : decode cX8_costAt 11 = .ok (.getfield 89, 3) := dz_180 (k_X8_costAt 0 11 rfl) (k_X8_costAt 0 12 rfl) (k_X8_costAt 0 13 rfl) rfl
theorem dX8_costAt_14 : decode cX8_costAt 14 = .ok (.bipush 8, 2) := dz_16 (k_X8_costAt 0 14 rfl) (k_X8_costAt 0 15 rfl) rfl
theorem dX8_costAt_16 : decode cX8_costAt 16 = .ok (.iload_n 1, 1) := dz_27 (k_X8_costAt 0 16 rfl)
theorem dX8_costAt_17 : decode cX8_costAt 17 = .ok (.imul, 1) := dz_104 (k_X8_costAt 0 17 rfl)
theorem dX8_costAt_18 : decode cX8_costAt 18 = .ok (.iload_n 2, 1) := dz_28 (k_X8_costAt 0 18 rfl)
theorem dX8_costAt_19 : decode cX8_costAt 19 = .ok (.iadd, 1) := dz_96 (k_X8_costAt 0 19 rfl)
theorem dX8_costAt_20 : decode cX8_costAt 20 = .ok (.iaload, 1) := dz_46 (k_X8_costAt 0 20 rfl)
theorem dX8_costAt_21 : decode cX8_costAt 21 = .ok (.ireturn, 1) := dz_172 (k_X8_costAt 0 21 rfl)
def B_X8_costOf : List (List Nat) := [[42, 180, 0, 13, 7, 16, 18, 27, 104, 96, 4, 96, 28, 96, 46, 42, 180, 0, 20, 29, 46, 42, 180, 0, 13, 7, 16, 18, 27, 104, 96, 4, 96, 16, 16, 96, 46, 104, 96, 172]]
theorem k_X8_costOf (j i : Nat) {b : Nat} (h : (B_X8_costOf[j]?.bind fun c => c[i]?) = some b) : s_by cX8_costOf (64 * j + i) b := s_byC (L := B_X8_costOf) (by decide +kernel) (by decide +kernel) j i h
theorem dX8_costOf_0 : decode cX8_costOf 0 = .ok (.aload_n 0, 1) := dz_42 (k_X8_costOf 0 0 rfl)
theorem dX8_costOf_1 : decode cX8_costOf 1 = .ok (.getfield 13, 3) := dz_180 (k_X8_costOf 0 1 rfl) (k_X8_costOf 0 2 rfl) (k_X8_costOf 0 3 rfl) rfl
theorem dX8_costOf_4 : decode cX8_costOf 4 = .ok (.iconst 4, 1) := dz_7 (k_X8_costOf 0 4 rfl)
theorem dX8_costOf_5 : decode cX8_costOf 5 = .ok (.bipush 18, 2) := dz_16 (k_X8_costOf 0 5 rfl) (k_X8_costOf 0 6 rfl) rfl
theorem dX8_costOf_7 : decode cX8_costOf 7 = .ok (.iload_n 1, 1) := dz_27 (k_X8_costOf 0 7 rfl)
theorem dX8_costOf_8 : decode cX8_costOf 8 = .ok (.imul, 1) := dz_104 (k_X8_costOf 0 8 rfl)
theorem dX8_costOf_9 : decode cX8_costOf 9 = .ok (.iadd, 1) := dz_96 (k_X8_costOf 0 9 rfl)
theorem dX8_costOf_10 : decode cX8_costOf 10 = .ok (.iconst 1, 1) := dz_4 (k_X8_costOf 0 10 rfl)
theorem dX8_costOf_11 : decode cX8_costOf 11 = .ok (.iadd, 1) := dz_96 (k_X8_costOf 0 11 rfl)
theorem dX8_costOf_12 : decode cX8_costOf 12 = .ok (.iload_n 2, 1) := dz_28 (k_X8_costOf 0 12 rfl)
theorem dX8_costOf_13 : decode cX8_costOf 13 = .ok (.iadd, 1) := dz_96 (k_X8_costOf 0 13 rfl)
theorem dX8_costOf_14 : decode cX8_costOf 14 = .ok (.iaload, 1) := dz_46 (k_X8_costOf 0 14 rfl)
theorem dX8_costOf_15 : decode cX8_costOf 15 = .ok (.aload_n 0, 1) := dz_42 (k_X8_costOf 0 15 rfl)
theorem dX8_costOf_16 : decode cX8_costOf 16 = .ok (.getfield 20, 3) := dz_180 (k_X8_costOf 0 16 rfl) (k_X8_costOf 0 17 rfl) (k_X8_costOf 0 18 rfl) rfl
theorem dX8_costOf_19 : decode cX8_costOf 19 = .ok (.iload_n 3, 1) := dz_29 (k_X8_costOf 0 19 rfl)
theorem dX8_costOf_20 : decode cX8_costOf 20 = .ok (.iaload, 1) := dz_46 (k_X8_costOf 0 20 rfl)
theorem dX8_costOf_21 : decode cX8_costOf 21 = .ok (.aload_n 0, 1) := dz_42 (k_X8_costOf 0 21 rfl)
theorem dX8_costOf_22 : decode cX8_costOf 22 = .ok (.getfield 13, 3) := dz_180 (k_X8_costOf 0 22 rfl) (k_X8_costOf 0 23 rfl) (k_X8_costOf 0 24 rfl) rfl
theorem dX8_costOf_25 : decode cX8_costOf 25 = .ok (.iconst 4, 1) := dz_7 (k_X8_costOf 0 25 rfl)
theorem dX8_costOf_26 : decode cX8_costOf 26 = .ok (.bipush 18, 2) := dz_16 (k_X8_costOf 0 26 rfl) (k_X8_costOf 0 27 rfl) rfl
theorem dX8_costOf_28 : decode cX8_costOf 28 = .ok (.iload_n 1, 1) := dz_27 (k_X8_costOf 0 28 rfl)
theorem dX8_costOf_29 : decode cX8_costOf 29 = .ok (.imul, 1) := dz_104 (k_X8_costOf 0 29 rfl)
theorem dX8_costOf_30 : decode cX8_costOf 30 = .ok (.iadd, 1) := dz_96 (k_X8_costOf 0 30 rfl)
theorem dX8_costOf_31 : decode cX8_costOf 31 = .ok (.iconst 1, 1) := dz_4 (k_X8_costOf 0 31 rfl)
theorem dX8_costOf_32 : decode cX8_costOf 32 = .ok (.iadd, 1) := dz_96 (k_X8_costOf 0 32 rfl)
theorem dX8_costOf_33 : decode cX8_costOf 33 = .ok (.bipush 16, 2) := dz_16 (k_X8_costOf 0 33 rfl) (k_X8_costOf 0 34 rfl) rfl
theorem dX8_costOf_35 : decode cX8_costOf 35 = .ok (.iadd, 1) := dz_96 (k_X8_costOf 0 35 rfl)
theorem dX8_costOf_36 : decode cX8_costOf 36 = .ok (.iaload, 1) := dz_46 (k_X8_costOf 0 36 rfl)
theorem dX8_costOf_37 : decode cX8_costOf 37 = .ok (.imul, 1) := dz_104 (k_X8_costOf 0 37 rfl)
theorem dX8_costOf_38 : decode cX8_costOf 38 = .ok (.iadd, 1) := dz_96 (k_X8_costOf 0 38 rfl)
theorem dX8_costOf_39 : decode cX8_costOf 39 = .ok (.ireturn, 1) := dz_172 (k_X8_costOf 0 39 rfl)
def B_X8_costs : List (List Nat) := [[42, 27, 181, 1, 146, 42, 29, 42, 28, 182, 0, 252, 182, 1, 153, 42, 42, 28, 182, 0, 252, 182, 1, 156, 3, 54, 4, 21, 4, 42, 180, 0, 89, 190, 162, 0, 19, 42, 180, 0, 89, 21, 4, 19, 1, 131, 79, 132, 4, 1, 167, 255, 233, 4, 54, 4, 21, 4, 153, 0, 130, 3, 54, 4], [3, 54, 5, 21, 5, 42, 180, 1, 104, 162, 0, 112, 3, 54, 6, 21, 6, 4, 42, 180, 1, 122, 120, 162, 0, 92, 42, 21, 5, 21, 6, 182, 1, 137, 54, 7, 3, 54, 8, 21, 8, 16, 15, 162, 0, 26, 21, 7, 42, 21, 8, 21, 5, 21, 6, 182, 1, 160, 184, 1, 132, 54, 7, 132], [8, 1, 167, 255, 229, 21, 4, 154, 0, 16, 21, 7, 42, 21, 5, 21, 6, 182, 1, 137, 162, 0, 7, 4, 167, 0, 4, 3, 54, 4, 42, 180, 0, 89, 16, 8, 21, 5, 104, 21, 6, 96, 21, 7, 79, 132, 6, 1, 167, 255, 159, 132, 5, 1, 167, 255, 141, 167, 255, 127, 42, 3, 3, 182], [1, 137, 19, 1, 131, 161, 0, 7, 2, 167, 0, 9, 42, 3, 3, 182, 1, 137, 172]]
theorem k_X8_costs (j i : Nat) {b : Nat} (h : (B_X8_costs[j]?.bind fun c => c[i]?) = some b) : s_by cX8_costs (64 * j + i) b := s_byC (L := B_X8_costs) (by decide +kernel) (by decide +kernel) j i h
theorem dX8_costs_0 : decode cX8_costs 0 = .ok (.aload_n 0, 1) := dz_42 (k_X8_costs 0 0 rfl)
theorem dX8_costs_1 : decode cX8_costs 1 = .ok (.iload_n 1, 1) := dz_27 (k_X8_costs 0 1 rfl)
theorem dX8_costs_2 : decode cX8_costs 2 = .ok (.putfield 402, 3) := dz_181 (k_X8_costs 0 2 rfl) (k_X8_costs 0 3 rfl) (k_X8_costs 0 4 rfl) rfl
theorem dX8_costs_5 : decode cX8_costs 5 = .ok (.aload_n 0, 1) := dz_42 (k_X8_costs 0 5 rfl)
theorem dX8_costs_6 : decode cX8_costs 6 = .ok (.iload_n 3, 1) := dz_29 (k_X8_costs 0 6 rfl)
theorem dX8_costs_7 : decode cX8_costs 7 = .ok (.aload_n 0, 1) := dz_42 (k_X8_costs 0 7 rfl)
theorem dX8_costs_8 : decode cX8_costs 8 = .ok (.iload_n 2, 1) := dz_28 (k_X8_costs 0 8 rfl)
theorem dX8_costs_9 : decode cX8_costs 9 = .ok (.invokevirtual 252, 3) := dz_182 (k_X8_costs 0 9 rfl) (k_X8_costs 0 10 rfl) (k_X8_costs 0 11 rfl) rfl
theorem dX8_costs_12 : decode cX8_costs 12 = .ok (.invokevirtual 409, 3) := dz_182 (k_X8_costs 0 12 rfl) (k_X8_costs 0 13 rfl) (k_X8_costs 0 14 rfl) rfl
theorem dX8_costs_15 : decode cX8_costs 15 = .ok (.aload_n 0, 1) := dz_42 (k_X8_costs 0 15 rfl)
theorem dX8_costs_16 : decode cX8_costs 16 = .ok (.aload_n 0, 1) := dz_42 (k_X8_costs 0 16 rfl)
theorem dX8_costs_17 : decode cX8_costs 17 = .ok (.iload_n 2, 1) := dz_28 (k_X8_costs 0 17 rfl)
theorem dX8_costs_18 : decode cX8_costs 18 = .ok (.invokevirtual 252, 3) := dz_182 (k_X8_costs 0 18 rfl) (k_X8_costs 0 19 rfl) (k_X8_costs 0 20 rfl) rfl
theorem dX8_costs_21 : decode cX8_costs 21 = .ok (.invokevirtual 412, 3) := dz_182 (k_X8_costs 0 21 rfl) (k_X8_costs 0 22 rfl) (k_X8_costs 0 23 rfl) rfl
theorem dX8_costs_24 : decode cX8_costs 24 = .ok (.iconst 0, 1) := dz_3 (k_X8_costs 0 24 rfl)
theorem dX8_costs_25 : decode cX8_costs 25 = .ok (.istore 4, 2) := dz_54 (k_X8_costs 0 25 rfl) (k_X8_costs 0 26 rfl)
theorem dX8_costs_27 : decode cX8_costs 27 = .ok (.iload 4, 2) := dz_21 (k_X8_costs 0 27 rfl) (k_X8_costs 0 28 rfl)
theorem dX8_costs_29 : decode cX8_costs 29 = .ok (.aload_n 0, 1) := dz_42 (k_X8_costs 0 29 rfl)
theorem dX8_costs_30 : decode cX8_costs 30 = .ok (.getfield 89, 3) := dz_180 (k_X8_costs 0 30 rfl) (k_X8_costs 0 31 rfl) (k_X8_costs 0 32 rfl) rfl
theorem dX8_costs_33 : decode cX8_costs 33 = .ok (.arraylength, 1) := dz_190 (k_X8_costs 0 33 rfl)
theorem dX8_costs_34 : decode cX8_costs 34 = .ok (.if_icmp .ge 19, 3) := dz_162 (k_X8_costs 0 34 rfl) (k_X8_costs 0 35 rfl) (k_X8_costs 0 36 rfl) rfl
theorem dX8_costs_37 : decode cX8_costs 37 = .ok (.aload_n 0, 1) := dz_42 (k_X8_costs 0 37 rfl)
theorem dX8_costs_38 : decode cX8_costs 38 = .ok (.getfield 89, 3) := dz_180 (k_X8_costs 0 38 rfl) (k_X8_costs 0 39 rfl) (k_X8_costs 0 40 rfl) rfl
theorem dX8_costs_41 : decode cX8_costs 41 = .ok (.iload 4, 2) := dz_21 (k_X8_costs 0 41 rfl) (k_X8_costs 0 42 rfl)
theorem dX8_costs_43 : decode cX8_costs 43 = .ok (.ldc_w 387, 3) := dz_19 (k_X8_costs 0 43 rfl) (k_X8_costs 0 44 rfl) (k_X8_costs 0 45 rfl) rfl
theorem dX8_costs_46 : decode cX8_costs 46 = .ok (.iastore, 1) := dz_79 (k_X8_costs 0 46 rfl)
theorem dX8_costs_47 : decode cX8_costs 47 = .ok (.iinc 4 1, 3) := dz_132 (k_X8_costs 0 47 rfl) (k_X8_costs 0 48 rfl) (k_X8_costs 0 49 rfl) rfl
theorem dX8_costs_50 : decode cX8_costs 50 = .ok (.goto (-23), 3) := dz_167 (k_X8_costs 0 50 rfl) (k_X8_costs 0 51 rfl) (k_X8_costs 0 52 rfl) rfl
theorem dX8_costs_53 : decode cX8_costs 53 = .ok (.iconst 1, 1) := dz_4 (k_X8_costs 0 53 rfl)
theorem dX8_costs_54 : decode cX8_costs 54 = .ok (.istore 4, 2) := dz_54 (k_X8_costs 0 54 rfl) (k_X8_costs 0 55 rfl)
theorem dX8_costs_56 : decode cX8_costs 56 = .ok (.iload 4, 2) := dz_21 (k_X8_costs 0 56 rfl) (k_X8_costs 0 57 rfl)
theorem dX8_costs_58 : decode cX8_costs 58 = .ok (.ifCond .eq 130, 3) := dz_153 (k_X8_costs 0 58 rfl) (k_X8_costs 0 59 rfl) (k_X8_costs 0 60 rfl) rfl
theorem dX8_costs_61 : decode cX8_costs 61 = .ok (.iconst 0, 1) := dz_3 (k_X8_costs 0 61 rfl)
theorem dX8_costs_62 : decode cX8_costs 62 = .ok (.istore 4, 2) := dz_54 (k_X8_costs 0 62 rfl) (k_X8_costs 0 63 rfl)
theorem dX8_costs_64 : decode cX8_costs 64 = .ok (.iconst 0, 1) := dz_3 (k_X8_costs 1 0 rfl)
theorem dX8_costs_65 : decode cX8_costs 65 = .ok (.istore 5, 2) := dz_54 (k_X8_costs 1 1 rfl) (k_X8_costs 1 2 rfl)
theorem dX8_costs_67 : decode cX8_costs 67 = .ok (.iload 5, 2) := dz_21 (k_X8_costs 1 3 rfl) (k_X8_costs 1 4 rfl)
theorem dX8_costs_69 : decode cX8_costs 69 = .ok (.aload_n 0, 1) := dz_42 (k_X8_costs 1 5 rfl)
theorem dX8_costs_70 : decode cX8_costs 70 = .ok (.getfield 360, 3) := dz_180 (k_X8_costs 1 6 rfl) (k_X8_costs 1 7 rfl) (k_X8_costs 1 8 rfl) rfl
theorem dX8_costs_73 : decode cX8_costs 73 = .ok (.if_icmp .ge 112, 3) := dz_162 (k_X8_costs 1 9 rfl) (k_X8_costs 1 10 rfl) (k_X8_costs 1 11 rfl) rfl
theorem dX8_costs_76 : decode cX8_costs 76 = .ok (.iconst 0, 1) := dz_3 (k_X8_costs 1 12 rfl)
theorem dX8_costs_77 : decode cX8_costs 77 = .ok (.istore 6, 2) := dz_54 (k_X8_costs 1 13 rfl) (k_X8_costs 1 14 rfl)
theorem dX8_costs_79 : decode cX8_costs 79 = .ok (.iload 6, 2) := dz_21 (k_X8_costs 1 15 rfl) (k_X8_costs 1 16 rfl)
theorem dX8_costs_81 : decode cX8_costs 81 = .ok (.iconst 1, 1) := dz_4 (k_X8_costs 1 17 rfl)
theorem dX8_costs_82 : decode cX8_costs 82 = .ok (.aload_n 0, 1) := dz_42 (k_X8_costs 1 18 rfl)
theorem dX8_costs_83 : decode cX8_costs 83 = .ok (.getfield 378, 3) := dz_180 (k_X8_costs 1 19 rfl) (k_X8_costs 1 20 rfl) (k_X8_costs 1 21 rfl) rfl
theorem dX8_costs_86 : decode cX8_costs 86 = .ok (.ishl, 1) := dz_120 (k_X8_costs 1 22 rfl)
theorem dX8_costs_87 : decode cX8_costs 87 = .ok (.if_icmp .ge 92, 3) := dz_162 (k_X8_costs 1 23 rfl) (k_X8_costs 1 24 rfl) (k_X8_costs 1 25 rfl) rfl
theorem dX8_costs_90 : decode cX8_costs 90 = .ok (.aload_n 0, 1) := dz_42 (k_X8_costs 1 26 rfl)
theorem dX8_costs_91 : decode cX8_costs 91 = .ok (.iload 5, 2) := dz_21 (k_X8_costs 1 27 rfl) (k_X8_costs 1 28 rfl)
theorem dX8_costs_93 : decode cX8_costs 93 = .ok (.iload 6, 2) := dz_21 (k_X8_costs 1 29 rfl) (k_X8_costs 1 30 rfl)
theorem dX8_costs_95 : decode cX8_costs 95 = .ok (.invokevirtual 393, 3) := dz_182 (k_X8_costs 1 31 rfl) (k_X8_costs 1 32 rfl) (k_X8_costs 1 33 rfl) rfl
theorem dX8_costs_98 : decode cX8_costs 98 = .ok (.istore 7, 2) := dz_54 (k_X8_costs 1 34 rfl) (k_X8_costs 1 35 rfl)
theorem dX8_costs_100 : decode cX8_costs 100 = .ok (.iconst 0, 1) := dz_3 (k_X8_costs 1 36 rfl)
theorem dX8_costs_101 : decode cX8_costs 101 = .ok (.istore 8, 2) := dz_54 (k_X8_costs 1 37 rfl) (k_X8_costs 1 38 rfl)
theorem dX8_costs_103 : decode cX8_costs 103 = .ok (.iload 8, 2) := dz_21 (k_X8_costs 1 39 rfl) (k_X8_costs 1 40 rfl)
theorem dX8_costs_105 : decode cX8_costs 105 = .ok (.bipush 15, 2) := dz_16 (k_X8_costs 1 41 rfl) (k_X8_costs 1 42 rfl) rfl
theorem dX8_costs_107 : decode cX8_costs 107 = .ok (.if_icmp .ge 26, 3) := dz_162 (k_X8_costs 1 43 rfl) (k_X8_costs 1 44 rfl) (k_X8_costs 1 45 rfl) rfl
theorem dX8_costs_110 : decode cX8_costs 110 = .ok (.iload 7, 2) := dz_21 (k_X8_costs 1 46 rfl) (k_X8_costs 1 47 rfl)
theorem dX8_costs_112 : decode cX8_costs 112 = .ok (.aload_n 0, 1) := dz_42 (k_X8_costs 1 48 rfl)
theorem dX8_costs_113 : decode cX8_costs 113 = .ok (.iload 8, 2) := dz_21 (k_X8_costs 1 49 rfl) (k_X8_costs 1 50 rfl)
theorem dX8_costs_115 : decode cX8_costs 115 = .ok (.iload 5, 2) := dz_21 (k_X8_costs 1 51 rfl) (k_X8_costs 1 52 rfl)
theorem dX8_costs_117 : decode cX8_costs 117 = .ok (.iload 6, 2) := dz_21 (k_X8_costs 1 53 rfl) (k_X8_costs 1 54 rfl)
theorem dX8_costs_119 : decode cX8_costs 119 = .ok (.invokevirtual 416, 3) := dz_182 (k_X8_costs 1 55 rfl) (k_X8_costs 1 56 rfl) (k_X8_costs 1 57 rfl) rfl
theorem dX8_costs_122 : decode cX8_costs 122 = .ok (.invokestatic 388, 3) := dz_184 (k_X8_costs 1 58 rfl) (k_X8_costs 1 59 rfl) (k_X8_costs 1 60 rfl) rfl
theorem dX8_costs_125 : decode cX8_costs 125 = .ok (.istore 7, 2) := dz_54 (k_X8_costs 1 61 rfl) (k_X8_costs 1 62 rfl)
theorem dX8_costs_127 : decode cX8_costs 127 = .ok (.iinc 8 1, 3) := dz_132 (k_X8_costs 1 63 rfl) (k_X8_costs 2 0 rfl) (k_X8_costs 2 1 rfl) rfl
theorem dX8_costs_130 : decode cX8_costs 130 = .ok (.goto (-27), 3) := dz_167 (k_X8_costs 2 2 rfl) (k_X8_costs 2 3 rfl) (k_X8_costs 2 4 rfl) rfl
theorem dX8_costs_133 : decode cX8_costs 133 = .ok (.iload 4, 2) := dz_21 (k_X8_costs 2 5 rfl) (k_X8_costs 2 6 rfl)
theorem dX8_costs_135 : decode cX8_costs 135 = .ok (.ifCond .ne 16, 3) := dz_154 (k_X8_costs 2 7 rfl) (k_X8_costs 2 8 rfl) (k_X8_costs 2 9 rfl) rfl
theorem dX8_costs_138 : decode cX8_costs 138 = .ok (.iload 7, 2) := dz_21 (k_X8_costs 2 10 rfl) (k_X8_costs 2 11 rfl)
theorem dX8_costs_140 : decode cX8_costs 140 = .ok (.aload_n 0, 1) := dz_42 (k_X8_costs 2 12 rfl)
theorem dX8_costs_141 : decode cX8_costs 141 = .ok (.iload 5, 2) := dz_21 (k_X8_costs 2 13 rfl) (k_X8_costs 2 14 rfl)
theorem dX8_costs_143 : decode cX8_costs 143 = .ok (.iload 6, 2) := dz_21 (k_X8_costs 2 15 rfl) (k_X8_costs 2 16 rfl)
theorem dX8_costs_145 : decode cX8_costs 145 = .ok (.invokevirtual 393, 3) := dz_182 (k_X8_costs 2 17 rfl) (k_X8_costs 2 18 rfl) (k_X8_costs 2 19 rfl) rfl
theorem dX8_costs_148 : decode cX8_costs 148 = .ok (.if_icmp .ge 7, 3) := dz_162 (k_X8_costs 2 20 rfl) (k_X8_costs 2 21 rfl) (k_X8_costs 2 22 rfl) rfl
theorem dX8_costs_151 : decode cX8_costs 151 = .ok (.iconst 1, 1) := dz_4 (k_X8_costs 2 23 rfl)
theorem dX8_costs_152 : decode cX8_costs 152 = .ok (.goto 4, 3) := dz_167 (k_X8_costs 2 24 rfl) (k_X8_costs 2 25 rfl) (k_X8_costs 2 26 rfl) rfl
theorem dX8_costs_155 : decode cX8_costs 155 = .ok (.iconst 0, 1) := dz_3 (k_X8_costs 2 27 rfl)
theorem dX8_costs_156 : decode cX8_costs 156 = .ok (.istore 4, 2) := dz_54 (k_X8_costs 2 28 rfl) (k_X8_costs 2 29 rfl)
theorem dX8_costs_158 : decode cX8_costs 158 = .ok (.aload_n 0, 1) := dz_42 (k_X8_costs 2 30 rfl)
theorem dX8_costs_159 : decode cX8_costs 159 = .ok (.getfield 89, 3) := dz_180 (k_X8_costs 2 31 rfl) (k_X8_costs 2 32 rfl) (k_X8_costs 2 33 rfl) rfl
theorem dX8_costs_162 : decode cX8_costs 162 = .ok (.bipush 8, 2) := dz_16 (k_X8_costs 2 34 rfl) (k_X8_costs 2 35 rfl) rfl
theorem dX8_costs_164 : decode cX8_costs 164 = .ok (.iload 5, 2) := dz_21 (k_X8_costs 2 36 rfl) (k_X8_costs 2 37 rfl)
theorem dX8_costs_166 : decode cX8_costs 166 = .ok (.imul, 1) := dz_104 (k_X8_costs 2 38 rfl)
theorem dX8_costs_167 : decode cX8_costs 167 = .ok (.iload 6, 2) := dz_21 (k_X8_costs 2 39 rfl) (k_X8_costs 2 40 rfl)
theorem dX8_costs_169 : decode cX8_costs 169 = .ok (.iadd, 1) := dz_96 (k_X8_costs 2 41 rfl)
theorem dX8_costs_170 : decode cX8_costs 170 = .ok (.iload 7, 2) := dz_21 (k_X8_costs 2 42 rfl) (k_X8_costs 2 43 rfl)
theorem dX8_costs_172 : decode cX8_costs 172 = .ok (.iastore, 1) := dz_79 (k_X8_costs 2 44 rfl)
theorem dX8_costs_173 : decode cX8_costs 173 = .ok (.iinc 6 1, 3) := dz_132 (k_X8_costs 2 45 rfl) (k_X8_costs 2 46 rfl) (k_X8_costs 2 47 rfl) rfl
theorem dX8_costs_176 : decode cX8_costs 176 = .ok (.goto (-97), 3) := dz_167 (k_X8_costs 2 48 rfl) (k_X8_costs 2 49 rfl) (k_X8_costs 2 50 rfl) rfl
theorem dX8_costs_179 : decode cX8_costs 179 = .ok (.iinc 5 1, 3) := dz_132 (k_X8_costs 2 51 rfl) (k_X8_costs 2 52 rfl) (k_X8_costs 2 53 rfl) rfl
theorem dX8_costs_182 : decode cX8_costs 182 = .ok (.goto (-115), 3) := dz_167 (k_X8_costs 2 54 rfl) (k_X8_costs 2 55 rfl) (k_X8_costs 2 56 rfl) rfl
theorem dX8_costs_185 : decode cX8_costs 185 = .ok (.goto (-129), 3) := dz_167 (k_X8_costs 2 57 rfl) (k_X8_costs 2 58 rfl) (k_X8_costs 2 59 rfl) rfl
theorem dX8_costs_188 : decode cX8_costs 188 = .ok (.aload_n 0, 1) := dz_42 (k_X8_costs 2 60 rfl)
theorem dX8_costs_189 : decode cX8_costs 189 = .ok (.iconst 0, 1) := dz_3 (k_X8_costs 2 61 rfl)
theorem dX8_costs_190 : decode cX8_costs 190 = .ok (.iconst 0, 1) := dz_3 (k_X8_costs 2 62 rfl)
theorem dX8_costs_191 : decode cX8_costs 191 = .ok (.invokevirtual 393, 3) := dz_182 (k_X8_costs 2 63 rfl) (k_X8_costs 3 0 rfl) (k_X8_costs 3 1 rfl) rfl
theorem dX8_costs_194 : decode cX8_costs 194 = .ok (.ldc_w 387, 3) := dz_19 (k_X8_costs 3 2 rfl) (k_X8_costs 3 3 rfl) (k_X8_costs 3 4 rfl) rfl
theorem dX8_costs_197 : decode cX8_costs 197 = .ok (.if_icmp .lt 7, 3) := dz_161 (k_X8_costs 3 5 rfl) (k_X8_costs 3 6 rfl) (k_X8_costs 3 7 rfl) rfl
theorem dX8_costs_200 : decode cX8_costs 200 = .ok (.iconst (-1), 1) := dz_2 (k_X8_costs 3 8 rfl)
theorem dX8_costs_201 : decode cX8_costs 201 = .ok (.goto 9, 3) := dz_167 (k_X8_costs 3 9 rfl) (k_X8_costs 3 10 rfl) (k_X8_costs 3 11 rfl) rfl
theorem dX8_costs_204 : decode cX8_costs 204 = .ok (.aload_n 0, 1) := dz_42 (k_X8_costs 3 12 rfl)
theorem dX8_costs_205 : decode cX8_costs 205 = .ok (.iconst 0, 1) := dz_3 (k_X8_costs 3 13 rfl)
theorem dX8_costs_206 : decode cX8_costs 206 = .ok (.iconst 0, 1) := dz_3 (k_X8_costs 3 14 rfl)
theorem dX8_costs_207 : decode cX8_costs 207 = .ok (.invokevirtual 393, 3) := dz_182 (k_X8_costs 3 15 rfl) (k_X8_costs 3 16 rfl) (k_X8_costs 3 17 rfl) rfl
theorem dX8_costs_210 : decode cX8_costs 210 = .ok (.ireturn, 1) := dz_172 (k_X8_costs 3 18 rfl)
def B_X8_count : List (List Nat) := [[42, 3, 181, 0, 3, 3, 61, 27, 170, 0, 0, 0, 0, 0, 0, 171, 0, 0, 0, 0, 0, 0, 0, 6, 0, 0, 0, 44, 0, 0, 0, 49, 0, 0, 0, 54, 0, 0, 0, 59, 0, 0, 0, 64, 0, 0, 0, 98, 0, 0, 0, 132, 42, 182, 0, 138, 172, 42, 182, 0, 103, 172, 42, 182], [0, 111, 172, 42, 182, 1, 175, 172, 3, 62, 29, 42, 182, 1, 175, 162, 0, 25, 28, 42, 29, 182, 1, 181, 153, 0, 7, 4, 167, 0, 4, 3, 96, 61, 132, 3, 1, 167, 255, 229, 28, 172, 3, 62, 29, 42, 182, 0, 111, 162, 0, 25, 28, 42, 29, 182, 1, 46, 153, 0, 7, 3, 167, 0], [4, 4, 96, 61, 132, 3, 1, 167, 255, 229, 28, 172, 3, 62, 29, 42, 182, 1, 175, 162, 0, 30, 28, 42, 29, 182, 1, 181, 153, 0, 7, 3, 167, 0, 9, 42, 29, 5, 182, 1, 178, 96, 61, 132, 3, 1, 167, 255, 224, 28, 172, 2, 172]]
theorem k_X8_count (j i : Nat) {b : Nat} (h : (B_X8_count[j]?.bind fun c => c[i]?) = some b) : s_by cX8_count (64 * j + i) b := s_byC (L := B_X8_count) (by decide +kernel) (by decide +kernel) j i h
theorem dX8_count_0 : decode cX8_count 0 = .ok (.aload_n 0, 1) := dz_42 (k_X8_count 0 0 rfl)
theorem dX8_count_1 : decode cX8_count 1 = .ok (.iconst 0, 1) := dz_3 (k_X8_count 0 1 rfl)
theorem dX8_count_2 : decode cX8_count 2 = .ok (.putfield 3, 3) := dz_181 (k_X8_count 0 2 rfl) (k_X8_count 0 3 rfl) (k_X8_count 0 4 rfl) rfl
theorem dX8_count_5 : decode cX8_count 5 = .ok (.iconst 0, 1) := dz_3 (k_X8_count 0 5 rfl)
theorem dX8_count_6 : decode cX8_count 6 = .ok (.istore_n 2, 1) := dz_61 (k_X8_count 0 6 rfl)
theorem dX8_count_7 : decode cX8_count 7 = .ok (.iload_n 1, 1) := dz_27 (k_X8_count 0 7 rfl)
theorem dX8_count_8 : decode cX8_count 8 = .ok (.tableswitch 171 0 6 #[44, 49, 54, 59, 64, 98, 132], 44) := by decide +kernel
theorem dX8_count_52 : decode cX8_count 52 = .ok (.aload_n 0, 1) := dz_42 (k_X8_count 0 52 rfl)
theorem dX8_count_53 : decode cX8_count 53 = .ok (.invokevirtual 138, 3) := dz_182 (k_X8_count 0 53 rfl) (k_X8_count 0 54 rfl) (k_X8_count 0 55 rfl) rfl
theorem dX8_count_56 : decode cX8_count 56 = .ok (.ireturn, 1) := dz_172 (k_X8_count 0 56 rfl)
theorem dX8_count_57 : decode cX8_count 57 = .ok (.aload_n 0, 1) := dz_42 (k_X8_count 0 57 rfl)
theorem dX8_count_58 : decode cX8_count 58 = .ok (.invokevirtual 103, 3) := dz_182 (k_X8_count 0 58 rfl) (k_X8_count 0 59 rfl) (k_X8_count 0 60 rfl) rfl
theorem dX8_count_61 : decode cX8_count 61 = .ok (.ireturn, 1) := dz_172 (k_X8_count 0 61 rfl)
theorem dX8_count_62 : decode cX8_count 62 = .ok (.aload_n 0, 1) := dz_42 (k_X8_count 0 62 rfl)
theorem dX8_count_63 : decode cX8_count 63 = .ok (.invokevirtual 111, 3) := dz_182 (k_X8_count 0 63 rfl) (k_X8_count 1 0 rfl) (k_X8_count 1 1 rfl) rfl
theorem dX8_count_66 : decode cX8_count 66 = .ok (.ireturn, 1) := dz_172 (k_X8_count 1 2 rfl)
theorem dX8_count_67 : decode cX8_count 67 = .ok (.aload_n 0, 1) := dz_42 (k_X8_count 1 3 rfl)
theorem dX8_count_68 : decode cX8_count 68 = .ok (.invokevirtual 431, 3) := dz_182 (k_X8_count 1 4 rfl) (k_X8_count 1 5 rfl) (k_X8_count 1 6 rfl) rfl
theorem dX8_count_71 : decode cX8_count 71 = .ok (.ireturn, 1) := dz_172 (k_X8_count 1 7 rfl)
theorem dX8_count_72 : decode cX8_count 72 = .ok (.iconst 0, 1) := dz_3 (k_X8_count 1 8 rfl)
theorem dX8_count_73 : decode cX8_count 73 = .ok (.istore_n 3, 1) := dz_62 (k_X8_count 1 9 rfl)
theorem dX8_count_74 : decode cX8_count 74 = .ok (.iload_n 3, 1) := dz_29 (k_X8_count 1 10 rfl)
theorem dX8_count_75 : decode cX8_count 75 = .ok (.aload_n 0, 1) := dz_42 (k_X8_count 1 11 rfl)
theorem dX8_count_76 : decode cX8_count 76 = .ok (.invokevirtual 431, 3) := dz_182 (k_X8_count 1 12 rfl) (k_X8_count 1 13 rfl) (k_X8_count 1 14 rfl) rfl
theorem dX8_count_79 : decode cX8_count 79 = .ok (.if_icmp .ge 25, 3) := dz_162 (k_X8_count 1 15 rfl) (k_X8_count 1 16 rfl) (k_X8_count 1 17 rfl) rfl
theorem dX8_count_82 : decode cX8_count 82 = .ok (.iload_n 2, 1) := dz_28 (k_X8_count 1 18 rfl)
theorem dX8_count_83 : decode cX8_count 83 = .ok (.aload_n 0, 1) := dz_42 (k_X8_count 1 19 rfl)
theorem dX8_count_84 : decode cX8_count 84 = .ok (.iload_n 3, 1) := dz_29 (k_X8_count 1 20 rfl)
theorem dX8_count_85 : decode cX8_count 85 = .ok (.invokevirtual 437, 3) := dz_182 (k_X8_count 1 21 rfl) (k_X8_count 1 22 rfl) (k_X8_count 1 23 rfl) rfl
theorem dX8_count_88 : decode cX8_count 88 = .ok (.ifCond .eq 7, 3) := dz_153 (k_X8_count 1 24 rfl) (k_X8_count 1 25 rfl) (k_X8_count 1 26 rfl) rfl
theorem dX8_count_91 : decode cX8_count 91 = .ok (.iconst 1, 1) := dz_4 (k_X8_count 1 27 rfl)
theorem dX8_count_92 : decode cX8_count 92 = .ok (.goto 4, 3) := dz_167 (k_X8_count 1 28 rfl) (k_X8_count 1 29 rfl) (k_X8_count 1 30 rfl) rfl
theorem dX8_count_95 : decode cX8_count 95 = .ok (.iconst 0, 1) := dz_3 (k_X8_count 1 31 rfl)
theorem dX8_count_96 : decode cX8_count 96 = .ok (.iadd, 1) := dz_96 (k_X8_count 1 32 rfl)
theorem dX8_count_97 : decode cX8_count 97 = .ok (.istore_n 2, 1) := dz_61 (k_X8_count 1 33 rfl)
theorem dX8_count_98 : decode cX8_count 98 = .ok (.iinc 3 1, 3) := dz_132 (k_X8_count 1 34 rfl) (k_X8_count 1 35 rfl) (k_X8_count 1 36 rfl) rfl
theorem dX8_count_101 : decode cX8_count 101 = .ok (.goto (-27), 3) := dz_167 (k_X8_count 1 37 rfl) (k_X8_count 1 38 rfl) (k_X8_count 1 39 rfl) rfl
theorem dX8_count_104 : decode cX8_count 104 = .ok (.iload_n 2, 1) := dz_28 (k_X8_count 1 40 rfl)
theorem dX8_count_105 : decode cX8_count 105 = .ok (.ireturn, 1) := dz_172 (k_X8_count 1 41 rfl)
theorem dX8_count_106 : decode cX8_count 106 = .ok (.iconst 0, 1) := dz_3 (k_X8_count 1 42 rfl)
theorem dX8_count_107 : decode cX8_count 107 = .ok (.istore_n 3, 1) := dz_62 (k_X8_count 1 43 rfl)
theorem dX8_count_108 : decode cX8_count 108 = .ok (.iload_n 3, 1) := dz_29 (k_X8_count 1 44 rfl)
theorem dX8_count_109 : decode cX8_count 109 = .ok (.aload_n 0, 1) := dz_42 (k_X8_count 1 45 rfl)
theorem dX8_count_110 : decode cX8_count 110 = .ok (.invokevirtual 111, 3) := dz_182 (k_X8_count 1 46 rfl) (k_X8_count 1 47 rfl) (k_X8_count 1 48 rfl) rfl
theorem dX8_count_113 : decode cX8_count 113 = .ok (.if_icmp .ge 25, 3) := dz_162 (k_X8_count 1 49 rfl) (k_X8_count 1 50 rfl) (k_X8_count 1 51 rfl) rfl
theorem dX8_count_116 : decode cX8_count 116 = .ok (.iload_n 2, 1) := dz_28 (k_X8_count 1 52 rfl)
theorem dX8_count_117 : decode cX8_count 117 = .ok (.aload_n 0, 1) := dz_42 (k_X8_count 1 53 rfl)
theorem dX8_count_118 : decode cX8_count 118 = .ok (.iload_n 3, 1) := dz_29 (k_X8_count 1 54 rfl)
theorem dX8_count_119 : decode cX8_count 119 = .ok (.invokevirtual 302, 3) := dz_182 (k_X8_count 1 55 rfl) (k_X8_count 1 56 rfl) (k_X8_count 1 57 rfl) rfl
theorem dX8_count_122 : decode cX8_count 122 = .ok (.ifCond .eq 7, 3) := dz_153 (k_X8_count 1 58 rfl) (k_X8_count 1 59 rfl) (k_X8_count 1 60 rfl) rfl
theorem dX8_count_125 : decode cX8_count 125 = .ok (.iconst 0, 1) := dz_3 (k_X8_count 1 61 rfl)
theorem dX8_count_126 : decode cX8_count 126 = .ok (.goto 4, 3) := dz_167 (k_X8_count 1 62 rfl) (k_X8_count 1 63 rfl) (k_X8_count 2 0 rfl) rfl
theorem dX8_count_129 : decode cX8_count 129 = .ok (.iconst 1, 1) := dz_4 (k_X8_count 2 1 rfl)
theorem dX8_count_130 : decode cX8_count 130 = .ok (.iadd, 1) := dz_96 (k_X8_count 2 2 rfl)
theorem dX8_count_131 : decode cX8_count 131 = .ok (.istore_n 2, 1) := dz_61 (k_X8_count 2 3 rfl)
theorem dX8_count_132 : decode cX8_count 132 = .ok (.iinc 3 1, 3) := dz_132 (k_X8_count 2 4 rfl) (k_X8_count 2 5 rfl) (k_X8_count 2 6 rfl) rfl
theorem dX8_count_135 : decode cX8_count 135 = .ok (.goto (-27), 3) := dz_167 (k_X8_count 2 7 rfl) (k_X8_count 2 8 rfl) (k_X8_count 2 9 rfl) rfl
theorem dX8_count_138 : decode cX8_count 138 = .ok (.iload_n 2, 1) := dz_28 (k_X8_count 2 10 rfl)
theorem dX8_count_139 : decode cX8_count 139 = .ok (.ireturn, 1) := dz_172 (k_X8_count 2 11 rfl)
theorem dX8_count_140 : decode cX8_count 140 = .ok (.iconst 0, 1) := dz_3 (k_X8_count 2 12 rfl)
theorem dX8_count_141 : decode cX8_count 141 = .ok (.istore_n 3, 1) := dz_62 (k_X8_count 2 13 rfl)
theorem dX8_count_142 : decode cX8_count 142 = .ok (.iload_n 3, 1) := dz_29 (k_X8_count 2 14 rfl)
theorem dX8_count_143 : decode cX8_count 143 = .ok (.aload_n 0, 1) := dz_42 (k_X8_count 2 15 rfl)
theorem dX8_count_144 : decode cX8_count 144 = .ok (.invokevirtual 431, 3) := dz_182 (k_X8_count 2 16 rfl) (k_X8_count 2 17 rfl) (k_X8_count 2 18 rfl) rfl
theorem dX8_count_147 : decode cX8_count 147 = .ok (.if_icmp .ge 30, 3) := dz_162 (k_X8_count 2 19 rfl) (k_X8_count 2 20 rfl) (k_X8_count 2 21 rfl) rfl
theorem dX8_count_150 : decode cX8_count 150 = .ok (.iload_n 2, 1) := dz_28 (k_X8_count 2 22 rfl)
theorem dX8_count_151 : decode cX8_count 151 = .ok (.aload_n 0, 1) := dz_42 (k_X8_count 2 23 rfl)
theorem dX8_count_152 : decode cX8_count 152 = .ok (.iload_n 3, 1) := dz_29 (k_X8_count 2 24 rfl)
theorem dX8_count_153 : decode cX8_count 153 = .ok (.invokevirtual 437, 3) := dz_182 (k_X8_count 2 25 rfl) (k_X8_count 2 26 rfl) (k_X8_count 2 27 rfl) rfl
theorem dX8_count_156 : decode cX8_count 156 = .ok (.ifCond .eq 7, 3) := dz_153 (k_X8_count 2 28 rfl) (k_X8_count 2 29 rfl) (k_X8_count 2 30 rfl) rfl
theorem dX8_count_159 : decode cX8_count 159 = .ok (.iconst 0, 1) := dz_3 (k_X8_count 2 31 rfl)
theorem dX8_count_160 : decode cX8_count 160 = .ok (.goto 9, 3) := dz_167 (k_X8_count 2 32 rfl) (k_X8_count 2 33 rfl) (k_X8_count 2 34 rfl) rfl
theorem dX8_count_163 : decode cX8_count 163 = .ok (.aload_n 0, 1) := dz_42 (k_X8_count 2 35 rfl)
theorem dX8_count_164 : decode cX8_count 164 = .ok (.iload_n 3, 1) := dz_29 (k_X8_count 2 36 rfl)
theorem dX8_count_165 : decode cX8_count 165 = .ok (.iconst 2, 1) := dz_5 (k_X8_count 2 37 rfl)
theorem dX8_count_166 : decode cX8_count 166 = .ok (.invokevirtual 434, 3) := dz_182 (k_X8_count 2 38 rfl) (k_X8_count 2 39 rfl) (k_X8_count 2 40 rfl) rfl
theorem dX8_count_169 : decode cX8_count 169 = .ok (.iadd, 1) := dz_96 (k_X8_count 2 41 rfl)
theorem dX8_count_170 : decode cX8_count 170 = .ok (.istore_n 2, 1) := dz_61 (k_X8_count 2 42 rfl)
theorem dX8_count_171 : decode cX8_count 171 = .ok (.iinc 3 1, 3) := dz_132 (k_X8_count 2 43 rfl) (k_X8_count 2 44 rfl) (k_X8_count 2 45 rfl) rfl
theorem dX8_count_174 : decode cX8_count 174 = .ok (.goto (-32), 3) := dz_167 (k_X8_count 2 46 rfl) (k_X8_count 2 47 rfl) (k_X8_count 2 48 rfl) rfl
theorem dX8_count_177 : decode cX8_count 177 = .ok (.iload_n 2, 1) := dz_28 (k_X8_count 2 49 rfl)
theorem dX8_count_178 : decode cX8_count 178 = .ok (.ireturn, 1) := dz_172 (k_X8_count 2 50 rfl)
theorem dX8_count_179 : decode cX8_count 179 = .ok (.iconst (-1), 1) := dz_2 (k_X8_count 2 51 rfl)
theorem dX8_count_180 : decode cX8_count 180 = .ok (.ireturn, 1) := dz_172 (k_X8_count 2 52 rfl)
def B_X8_counter : List (List Nat) := [[42, 3, 181, 0, 3, 42, 27, 184, 0, 249, 154, 0, 11, 42, 28, 182, 0, 231, 153, 0, 7, 4, 167, 0, 4, 3, 4, 182, 0, 224, 153, 0, 7, 3, 167, 0, 13, 42, 42, 27, 182, 0, 252, 28, 182, 1, 69, 172]]
theorem k_X8_counter (j i : Nat) {b : Nat} (h : (B_X8_counter[j]?.bind fun c => c[i]?) = some b) : s_by cX8_counter (64 * j + i) b := s_byC (L := B_X8_counter) (by decide +kernel) (by decide +kernel) j i h
theorem dX8_counter_0 : decode cX8_counter 0 = .ok (.aload_n 0, 1) := dz_42 (k_X8_counter 0 0 rfl)
theorem dX8_counter_1 : decode cX8_counter 1 = .ok (.iconst 0, 1) := dz_3 (k_X8_counter 0 1 rfl)
theorem dX8_counter_2 : decode cX8_counter 2 = .ok (.putfield 3, 3) := dz_181 (k_X8_counter 0 2 rfl) (k_X8_counter 0 3 rfl) (k_X8_counter 0 4 rfl) rfl
theorem dX8_counter_5 : decode cX8_counter 5 = .ok (.aload_n 0, 1) := dz_42 (k_X8_counter 0 5 rfl)
theorem dX8_counter_6 : decode cX8_counter 6 = .ok (.iload_n 1, 1) := dz_27 (k_X8_counter 0 6 rfl)
theorem dX8_counter_7 : decode cX8_counter 7 = .ok (.invokestatic 249, 3) := dz_184 (k_X8_counter 0 7 rfl) (k_X8_counter 0 8 rfl) (k_X8_counter 0 9 rfl) rfl
theorem dX8_counter_10 : decode cX8_counter 10 = .ok (.ifCond .ne 11, 3) := dz_154 (k_X8_counter 0 10 rfl) (k_X8_counter 0 11 rfl) (k_X8_counter 0 12 rfl) rfl
theorem dX8_counter_13 : decode cX8_counter 13 = .ok (.aload_n 0, 1) := dz_42 (k_X8_counter 0 13 rfl)
theorem dX8_counter_14 : decode cX8_counter 14 = .ok (.iload_n 2, 1) := dz_28 (k_X8_counter 0 14 rfl)
theorem dX8_counter_15 : decode cX8_counter 15 = .ok (.invokevirtual 231, 3) := dz_182 (k_X8_counter 0 15 rfl) (k_X8_counter 0 16 rfl) (k_X8_counter 0 17 rfl) rfl
theorem dX8_counter_18 : decode cX8_counter 18 = .ok (.ifCond .eq 7, 3) := dz_153 (k_X8_counter 0 18 rfl) (k_X8_counter 0 19 rfl) (k_X8_counter 0 20 rfl) rfl
theorem dX8_counter_21 : decode cX8_counter 21 = .ok (.iconst 1, 1) := dz_4 (k_X8_counter 0 21 rfl)
theorem dX8_counter_22 : decode cX8_counter 22 = .ok (.goto 4, 3) := dz_167 (k_X8_counter 0 22 rfl) (k_X8_counter 0 23 rfl) (k_X8_counter 0 24 rfl) rfl
theorem dX8_counter_25 : decode cX8_counter 25 = .ok (.iconst 0, 1) := dz_3 (k_X8_counter 0 25 rfl)
theorem dX8_counter_26 : decode cX8_counter 26 = .ok (.iconst 1, 1) := dz_4 (k_X8_counter 0 26 rfl)
theorem dX8_counter_27 : decode cX8_counter 27 = .ok (.invokevirtual 224, 3) := dz_182 (k_X8_counter 0 27 rfl) (k_X8_counter 0 28 rfl) (k_X8_counter 0 29 rfl) rfl
theorem dX8_counter_30 : decode cX8_counter 30 = .ok (.ifCond .eq 7, 3) := dz_153 (k_X8_counter 0 30 rfl) (k_X8_counter 0 31 rfl) (k_X8_counter 0 32 rfl) rfl
theorem dX8_counter_33 : decode cX8_counter 33 = .ok (.iconst 0, 1) := dz_3 (k_X8_counter 0 33 rfl)
theorem dX8_counter_34 : decode cX8_counter 34 = .ok (.goto 13, 3) := dz_167 (k_X8_counter 0 34 rfl) (k_X8_counter 0 35 rfl) (k_X8_counter 0 36 rfl) rfl
theorem dX8_counter_37 : decode cX8_counter 37 = .ok (.aload_n 0, 1) := dz_42 (k_X8_counter 0 37 rfl)
theorem dX8_counter_38 : decode cX8_counter 38 = .ok (.aload_n 0, 1) := dz_42 (k_X8_counter 0 38 rfl)
theorem dX8_counter_39 : decode cX8_counter 39 = .ok (.iload_n 1, 1) := dz_27 (k_X8_counter 0 39 rfl)
theorem dX8_counter_40 : decode cX8_counter 40 = .ok (.invokevirtual 252, 3) := dz_182 (k_X8_counter 0 40 rfl) (k_X8_counter 0 41 rfl) (k_X8_counter 0 42 rfl) rfl
theorem dX8_counter_43 : decode cX8_counter 43 = .ok (.iload_n 2, 1) := dz_28 (k_X8_counter 0 43 rfl)
theorem dX8_counter_44 : decode cX8_counter 44 = .ok (.invokevirtual 325, 3) := dz_182 (k_X8_counter 0 44 rfl) (k_X8_counter 0 45 rfl) (k_X8_counter 0 46 rfl) rfl
theorem dX8_counter_47 : decode cX8_counter 47 = .ok (.ireturn, 1) := dz_172 (k_X8_counter 0 47 rfl)
def B_X8_counts : List (List Nat) := [[42, 89, 180, 0, 172, 4, 96, 181, 0, 172, 42, 180, 0, 172, 16, 40, 163, 0, 7, 4, 167, 0, 4, 3, 172]]
theorem k_X8_counts (j i : Nat) {b : Nat} (h : (B_X8_counts[j]?.bind fun c => c[i]?) = some b) : s_by cX8_counts (64 * j + i) b := s_byC (L := B_X8_counts) (by decide +kernel) (by decide +kernel) j i h
theorem dX8_counts_0 : decode cX8_counts 0 = .ok (.aload_n 0, 1) := dz_42 (k_X8_counts 0 0 rfl)
theorem dX8_counts_1 : decode cX8_counts 1 = .ok (.dup, 1) := dz_89 (k_X8_counts 0 1 rfl)
theorem dX8_counts_2 : decode cX8_counts 2 = .ok (.getfield 172, 3) := dz_180 (k_X8_counts 0 2 rfl) (k_X8_counts 0 3 rfl) (k_X8_counts 0 4 rfl) rfl
theorem dX8_counts_5 : decode cX8_counts 5 = .ok (.iconst 1, 1) := dz_4 (k_X8_counts 0 5 rfl)
theorem dX8_counts_6 : decode cX8_counts 6 = .ok (.iadd, 1) := dz_96 (k_X8_counts 0 6 rfl)
theorem dX8_counts_7 : decode cX8_counts 7 = .ok (.putfield 172, 3) := dz_181 (k_X8_counts 0 7 rfl) (k_X8_counts 0 8 rfl) (k_X8_counts 0 9 rfl) rfl
theorem dX8_counts_10 : decode cX8_counts 10 = .ok (.aload_n 0, 1) := dz_42 (k_X8_counts 0 10 rfl)
theorem dX8_counts_11 : decode cX8_counts 11 = .ok (.getfield 172, 3) := dz_180 (k_X8_counts 0 11 rfl) (k_X8_counts 0 12 rfl) (k_X8_counts 0 13 rfl) rfl
theorem dX8_counts_14 : decode cX8_counts 14 = .ok (.bipush 40, 2) := dz_16 (k_X8_counts 0 14 rfl) (k_X8_counts 0 15 rfl) rfl
theorem dX8_counts_16 : decode cX8_counts 16 = .ok (.if_icmp .gt 7, 3) := dz_163 (k_X8_counts 0 16 rfl) (k_X8_counts 0 17 rfl) (k_X8_counts 0 18 rfl) rfl
theorem dX8_counts_19 : decode cX8_counts 19 = .ok (.iconst 1, 1) := dz_4 (k_X8_counts 0 19 rfl)
theorem dX8_counts_20 : decode cX8_counts 20 = .ok (.goto 4, 3) := dz_167 (k_X8_counts 0 20 rfl) (k_X8_counts 0 21 rfl) (k_X8_counts 0 22 rfl) rfl
theorem dX8_counts_23 : decode cX8_counts 23 = .ok (.iconst 0, 1) := dz_3 (k_X8_counts 0 23 rfl)
theorem dX8_counts_24 : decode cX8_counts 24 = .ok (.ireturn, 1) := dz_172 (k_X8_counts 0 24 rfl)
def B_X8_cutBy : List (List Nat) := [[42, 27, 3, 182, 0, 114, 28, 160, 0, 12, 42, 27, 4, 182, 0, 132, 167, 0, 4, 2, 172]]
theorem k_X8_cutBy (j i : Nat) {b : Nat} (h : (B_X8_cutBy[j]?.bind fun c => c[i]?) = some b) : s_by cX8_cutBy (64 * j + i) b := s_byC (L := B_X8_cutBy) (by decide +kernel) (by decide +kernel) j i h
theorem dX8_cutBy_0 : decode cX8_cutBy 0 = .ok (.aload_n 0, 1) := dz_42 (k_X8_cutBy 0 0 rfl)
theorem dX8_cutBy_1 : decode cX8_cutBy 1 = .ok (.iload_n 1, 1) := dz_27 (k_X8_cutBy 0 1 rfl)
theorem dX8_cutBy_2 : decode cX8_cutBy 2 = .ok (.iconst 0, 1) := dz_3 (k_X8_cutBy 0 2 rfl)
theorem dX8_cutBy_3 : decode cX8_cutBy 3 = .ok (.invokevirtual 114, 3) := dz_182 (k_X8_cutBy 0 3 rfl) (k_X8_cutBy 0 4 rfl) (k_X8_cutBy 0 5 rfl) rfl
theorem dX8_cutBy_6 : decode cX8_cutBy 6 = .ok (.iload_n 2, 1) := dz_28 (k_X8_cutBy 0 6 rfl)
theorem dX8_cutBy_7 : decode cX8_cutBy 7 = .ok (.if_icmp .ne 12, 3) := dz_160 (k_X8_cutBy 0 7 rfl) (k_X8_cutBy 0 8 rfl) (k_X8_cutBy 0 9 rfl) rfl
theorem dX8_cutBy_10 : decode cX8_cutBy 10 = .ok (.aload_n 0, 1) := dz_42 (k_X8_cutBy 0 10 rfl)
theorem dX8_cutBy_11 : decode cX8_cutBy 11 = .ok (.iload_n 1, 1) := dz_27 (k_X8_cutBy 0 11 rfl)
theorem dX8_cutBy_12 : decode cX8_cutBy 12 = .ok (.iconst 1, 1) := dz_4 (k_X8_cutBy 0 12 rfl)
theorem dX8_cutBy_13 : decode cX8_cutBy 13 = .ok (.invokevirtual 132, 3) := dz_182 (k_X8_cutBy 0 13 rfl) (k_X8_cutBy 0 14 rfl) (k_X8_cutBy 0 15 rfl) rfl
theorem dX8_cutBy_16 : decode cX8_cutBy 16 = .ok (.goto 4, 3) := dz_167 (k_X8_cutBy 0 16 rfl) (k_X8_cutBy 0 17 rfl) (k_X8_cutBy 0 18 rfl) rfl
theorem dX8_cutBy_19 : decode cX8_cutBy 19 = .ok (.iconst (-1), 1) := dz_2 (k_X8_cutBy 0 19 rfl)
theorem dX8_cutBy_20 : decode cX8_cutBy 20 = .ok (.ireturn, 1) := dz_172 (k_X8_cutBy 0 20 rfl)
def B_X8_d : List (List Nat) := [[42, 180, 0, 13, 3, 46, 172]]
theorem k_X8_d (j i : Nat) {b : Nat} (h : (B_X8_d[j]?.bind fun c => c[i]?) = some b) : s_by cX8_d (64 * j + i) b := s_byC (L := B_X8_d) (by decide +kernel) (by decide +kernel) j i h
theorem dX8_d_0 : decode cX8_d 0 = .ok (.aload_n 0, 1) := dz_42 (k_X8_d 0 0 rfl)
theorem dX8_d_1 : decode cX8_d 1 = .ok (.getfield 13, 3) := dz_180 (k_X8_d 0 1 rfl) (k_X8_d 0 2 rfl) (k_X8_d 0 3 rfl) rfl
theorem dX8_d_4 : decode cX8_d 4 = .ok (.iconst 0, 1) := dz_3 (k_X8_d 0 4 rfl)
theorem dX8_d_5 : decode cX8_d 5 = .ok (.iaload, 1) := dz_46 (k_X8_d 0 5 rfl)
theorem dX8_d_6 : decode cX8_d 6 = .ok (.ireturn, 1) := dz_172 (k_X8_d 0 6 rfl)
def B_X8_dearer : List (List Nat) := [[42, 3, 181, 0, 3, 42, 182, 1, 57, 3, 60, 3, 61, 28, 42, 182, 1, 175, 162, 0, 54, 27, 42, 42, 28, 3, 182, 1, 178, 5, 182, 1, 0, 16, 15, 160, 0, 28, 42, 28, 5, 182, 1, 178, 42, 42, 28, 3, 182, 1, 178, 182, 1, 63, 164, 0, 9, 4, 28, 120, 167, 0, 4, 3], [128, 60, 132, 2, 1, 167, 255, 200, 27, 172]]
theorem k_X8_dearer (j i : Nat) {b : Nat} (h : (B_X8_dearer[j]?.bind fun c => c[i]?) = some b) : s_by cX8_dearer (64 * j + i) b := s_byC (L := B_X8_dearer) (by decide +kernel) (by decide +kernel) j i h
theorem dX8_dearer_0 : decode cX8_dearer 0 = .ok (.aload_n 0, 1) := dz_42 (k_X8_dearer 0 0 rfl)
theorem dX8_dearer_1 : decode cX8_dearer 1 = .ok (.iconst 0, 1) := dz_3 (k_X8_dearer 0 1 rfl)
theorem dX8_dearer_2 : decode cX8_dearer 2 = .ok (.putfield 3, 3) := dz_181 (k_X8_dearer 0 2 rfl) (k_X8_dearer 0 3 rfl) (k_X8_dearer 0 4 rfl) rfl
theorem dX8_dearer_5 : decode cX8_dearer 5 = .ok (.aload_n 0, 1) := dz_42 (k_X8_dearer 0 5 rfl)
theorem dX8_dearer_6 : decode cX8_dearer 6 = .ok (.invokevirtual 313, 3) := dz_182 (k_X8_dearer 0 6 rfl) (k_X8_dearer 0 7 rfl) (k_X8_dearer 0 8 rfl) rfl
theorem dX8_dearer_9 : decode cX8_dearer 9 = .ok (.iconst 0, 1) := dz_3 (k_X8_dearer 0 9 rfl)
theorem dX8_dearer_10 : decode cX8_dearer 10 = .ok (.istore_n 1, 1) := dz_60 (k_X8_dearer 0 10 rfl)
theorem dX8_dearer_11 : decode cX8_dearer 11 = .ok (.iconst 0, 1) := dz_3 (k_X8_dearer 0 11 rfl)
theorem dX8_dearer_12 : decode cX8_dearer 12 = .ok (.istore_n 2, 1) := dz_61 (k_X8_dearer 0 12 rfl)
theorem dX8_dearer_13 : decode cX8_dearer 13 = .ok (.iload_n 2, 1) := dz_28 (k_X8_dearer 0 13 rfl)
theorem dX8_dearer_14 : decode cX8_dearer 14 = .ok (.aload_n 0, 1) := dz_42 (k_X8_dearer 0 14 rfl)
theorem dX8_dearer_15 : decode cX8_dearer 15 = .ok (.invokevirtual 431, 3) := dz_182 (k_X8_dearer 0 15 rfl) (k_X8_dearer 0 16 rfl) (k_X8_dearer 0 17 rfl) rfl
theorem dX8_dearer_18 : decode cX8_dearer 18 = .ok (.if_icmp .ge 54, 3) := dz_162 (k_X8_dearer 0 18 rfl) (k_X8_dearer 0 19 rfl) (k_X8_dearer 0 20 rfl) rfl
theorem dX8_dearer_21 : decode cX8_dearer 21 = .ok (.iload_n 1, 1) := dz_27 (k_X8_dearer 0 21 rfl)
theorem dX8_dearer_22 : decode cX8_dearer 22 = .ok (.aload_n 0, 1) := dz_42 (k_X8_dearer 0 22 rfl)
theorem dX8_dearer_23 : decode cX8_dearer 23 = .ok (.aload_n 0, 1) := dz_42 (k_X8_dearer 0 23 rfl)
theorem dX8_dearer_24 : decode cX8_dearer 24 = .ok (.iload_n 2, 1) := dz_28 (k_X8_dearer 0 24 rfl)
theorem dX8_dearer_25 : decode cX8_dearer 25 = .ok (.iconst 0, 1) := dz_3 (k_X8_dearer 0 25 rfl)
theorem dX8_dearer_26 : decode cX8_dearer 26 = .ok (.invokevirtual 434, 3) := dz_182 (k_X8_dearer 0 26 rfl) (k_X8_dearer 0 27 rfl) (k_X8_dearer 0 28 rfl) rfl
theorem dX8_dearer_29 : decode cX8_dearer 29 = .ok (.iconst 2, 1) := dz_5 (k_X8_dearer 0 29 rfl)
theorem dX8_dearer_30 : decode cX8_dearer 30 = .ok (.invokevirtual 256, 3) := dz_182 (k_X8_dearer 0 30 rfl) (k_X8_dearer 0 31 rfl) (k_X8_dearer 0 32 rfl) rfl
theorem dX8_dearer_33 : decode cX8_dearer 33 = .ok (.bipush 15, 2) := dz_16 (k_X8_dearer 0 33 rfl) (k_X8_dearer 0 34 rfl) rfl
theorem dX8_dearer_35 : decode cX8_dearer 35 = .ok (.if_icmp .ne 28, 3) := dz_160 (k_X8_dearer 0 35 rfl) (k_X8_dearer 0 36 rfl) (k_X8_dearer 0 37 rfl) rfl
theorem dX8_dearer_38 : decode cX8_dearer 38 = .ok (.aload_n 0, 1) := dz_42 (k_X8_dearer 0 38 rfl)
theorem dX8_dearer_39 : decode cX8_dearer 39 = .ok (.iload_n 2, 1) := dz_28 (k_X8_dearer 0 39 rfl)
theorem dX8_dearer_40 : decode cX8_dearer 40 = .ok (.iconst 2, 1) := dz_5 (k_X8_dearer 0 40 rfl)
theorem dX8_dearer_41 : decode cX8_dearer 41 = .ok (.invokevirtual 434, 3) := dz_182 (k_X8_dearer 0 41 rfl) (k_X8_dearer 0 42 rfl) (k_X8_dearer 0 43 rfl) rfl
theorem dX8_dearer_44 : decode cX8_dearer 44 = .ok (.aload_n 0, 1) := dz_42 (k_X8_dearer 0 44 rfl)
theorem dX8_dearer_45 : decode cX8_dearer 45 = .ok (.aload_n 0, 1) := dz_42 (k_X8_dearer 0 45 rfl)
theorem dX8_dearer_46 : decode cX8_dearer 46 = .ok (.iload_n 2, 1) := dz_28 (k_X8_dearer 0 46 rfl)
theorem dX8_dearer_47 : decode cX8_dearer 47 = .ok (.iconst 0, 1) := dz_3 (k_X8_dearer 0 47 rfl)
theorem dX8_dearer_48 : decode cX8_dearer 48 = .ok (.invokevirtual 434, 3) := dz_182 (k_X8_dearer 0 48 rfl) (k_X8_dearer 0 49 rfl) (k_X8_dearer 0 50 rfl) rfl
theorem dX8_dearer_51 : decode cX8_dearer 51 = .ok (.invokevirtual 319, 3) := dz_182 (k_X8_dearer 0 51 rfl) (k_X8_dearer 0 52 rfl) (k_X8_dearer 0 53 rfl) rfl
theorem dX8_dearer_54 : decode cX8_dearer 54 = .ok (.if_icmp .le 9, 3) := dz_164 (k_X8_dearer 0 54 rfl) (k_X8_dearer 0 55 rfl) (k_X8_dearer 0 56 rfl) rfl
theorem dX8_dearer_57 : decode cX8_dearer 57 = .ok (.iconst 1, 1) := dz_4 (k_X8_dearer 0 57 rfl)
theorem dX8_dearer_58 : decode cX8_dearer 58 = .ok (.iload_n 2, 1) := dz_28 (k_X8_dearer 0 58 rfl)
theorem dX8_dearer_59 : decode cX8_dearer 59 = .ok (.ishl, 1) := dz_120 (k_X8_dearer 0 59 rfl)
theorem dX8_dearer_60 : decode cX8_dearer 60 = .ok (.goto 4, 3) := dz_167 (k_X8_dearer 0 60 rfl) (k_X8_dearer 0 61 rfl) (k_X8_dearer 0 62 rfl) rfl
theorem dX8_dearer_63 : decode cX8_dearer 63 = .ok (.iconst 0, 1) := dz_3 (k_X8_dearer 0 63 rfl)
theorem dX8_dearer_64 : decode cX8_dearer 64 = .ok (.ior, 1) := dz_128 (k_X8_dearer 1 0 rfl)
theorem dX8_dearer_65 : decode cX8_dearer 65 = .ok (.istore_n 1, 1) := dz_60 (k_X8_dearer 1 1 rfl)
theorem dX8_dearer_66 : decode cX8_dearer 66 = .ok (.iinc 2 1, 3) := dz_132 (k_X8_dearer 1 2 rfl) (k_X8_dearer 1 3 rfl) (k_X8_dearer 1 4 rfl) rfl
theorem dX8_dearer_69 : decode cX8_dearer 69 = .ok (.goto (-56), 3) := dz_167 (k_X8_dearer 1 5 rfl) (k_X8_dearer 1 6 rfl) (k_X8_dearer 1 7 rfl) rfl
theorem dX8_dearer_72 : decode cX8_dearer 72 = .ok (.iload_n 1, 1) := dz_27 (k_X8_dearer 1 8 rfl)
theorem dX8_dearer_73 : decode cX8_dearer 73 = .ok (.ireturn, 1) := dz_172 (k_X8_dearer 1 9 rfl)
def B_X8_deeper : List (List Nat) := [[42, 89, 180, 0, 179, 4, 96, 181, 0, 179, 42, 180, 0, 179, 16, 8, 163, 0, 7, 4, 167, 0, 4, 3, 172]]
theorem k_X8_deeper (j i : Nat) {b : Nat} (h : (B_X8_deeper[j]?.bind fun c => c[i]?) = some b) : s_by cX8_deeper (64 * j + i) b := s_byC (L := B_X8_deeper) (by decide +kernel) (by decide +kernel) j i h
theorem dX8_deeper_0 : decode cX8_deeper 0 = .ok (.aload_n 0, 1) := dz_42 (k_X8_deeper 0 0 rfl)
theorem dX8_deeper_1 : decode cX8_deeper 1 = .ok (.dup, 1) := dz_89 (k_X8_deeper 0 1 rfl)
theorem dX8_deeper_2 : decode cX8_deeper 2 = .ok (.getfield 179, 3) := dz_180 (k_X8_deeper 0 2 rfl) (k_X8_deeper 0 3 rfl) (k_X8_deeper 0 4 rfl) rfl
theorem dX8_deeper_5 : decode cX8_deeper 5 = .ok (.iconst 1, 1) := dz_4 (k_X8_deeper 0 5 rfl)
theorem dX8_deeper_6 : decode cX8_deeper 6 = .ok (.iadd, 1) := dz_96 (k_X8_deeper 0 6 rfl)
theorem dX8_deeper_7 : decode cX8_deeper 7 = .ok (.putfield 179, 3) := dz_181 (k_X8_deeper 0 7 rfl) (k_X8_deeper 0 8 rfl) (k_X8_deeper 0 9 rfl) rfl
theorem dX8_deeper_10 : decode cX8_deeper 10 = .ok (.aload_n 0, 1) := dz_42 (k_X8_deeper 0 10 rfl)
theorem dX8_deeper_11 : decode cX8_deeper 11 = .ok (.getfield 179, 3) := dz_180 (k_X8_deeper 0 11 rfl) (k_X8_deeper 0 12 rfl) (k_X8_deeper 0 13 rfl) rfl
theorem dX8_deeper_14 : decode cX8_deeper 14 = .ok (.bipush 8, 2) := dz_16 (k_X8_deeper 0 14 rfl) (k_X8_deeper 0 15 rfl) rfl
theorem dX8_deeper_16 : decode cX8_deeper 16 = .ok (.if_icmp .gt 7, 3) := dz_163 (k_X8_deeper 0 16 rfl) (k_X8_deeper 0 17 rfl) (k_X8_deeper 0 18 rfl) rfl
theorem dX8_deeper_19 : decode cX8_deeper 19 = .ok (.iconst 1, 1) := dz_4 (k_X8_deeper 0 19 rfl)
theorem dX8_deeper_20 : decode cX8_deeper 20 = .ok (.goto 4, 3) := dz_167 (k_X8_deeper 0 20 rfl) (k_X8_deeper 0 21 rfl) (k_X8_deeper 0 22 rfl) rfl
theorem dX8_deeper_23 : decode cX8_deeper 23 = .ok (.iconst 0, 1) := dz_3 (k_X8_deeper 0 23 rfl)
theorem dX8_deeper_24 : decode cX8_deeper 24 = .ok (.ireturn, 1) := dz_172 (k_X8_deeper 0 24 rfl)
def B_X8_end : List (List Nat) := [[42, 3, 181, 0, 3, 27, 155, 0, 11, 27, 42, 180, 0, 145, 164, 0, 5, 3, 172, 42, 27, 181, 0, 145, 4, 172]]
theorem k_X8_end (j i : Nat) {b : Nat} (h : (B_X8_end[j]?.bind fun c => c[i]?) = some b) : s_by cX8_end (64 * j + i) b := s_byC (L := B_X8_end) (by decide +kernel) (by decide +kernel) j i h
theorem dX8_end_0 : decode cX8_end 0 = .ok (.aload_n 0, 1) := dz_42 (k_X8_end 0 0 rfl)
theorem dX8_end_1 : decode cX8_end 1 = .ok (.iconst 0, 1) := dz_3 (k_X8_end 0 1 rfl)
theorem dX8_end_2 : decode cX8_end 2 = .ok (.putfield 3, 3) := dz_181 (k_X8_end 0 2 rfl) (k_X8_end 0 3 rfl) (k_X8_end 0 4 rfl) rfl
theorem dX8_end_5 : decode cX8_end 5 = .ok (.iload_n 1, 1) := dz_27 (k_X8_end 0 5 rfl)
theorem dX8_end_6 : decode cX8_end 6 = .ok (.ifCond .lt 11, 3) := dz_155 (k_X8_end 0 6 rfl) (k_X8_end 0 7 rfl) (k_X8_end 0 8 rfl) rfl
theorem dX8_end_9 : decode cX8_end 9 = .ok (.iload_n 1, 1) := dz_27 (k_X8_end 0 9 rfl)
theorem dX8_end_10 : decode cX8_end 10 = .ok (.aload_n 0, 1) := dz_42 (k_X8_end 0 10 rfl)
theorem dX8_end_11 : decode cX8_end 11 = .ok (.getfield 145, 3) := dz_180 (k_X8_end 0 11 rfl) (k_X8_end 0 12 rfl) (k_X8_end 0 13 rfl) rfl
theorem dX8_end_14 : decode cX8_end 14 = .ok (.if_icmp .le 5, 3) := dz_164 (k_X8_end 0 14 rfl) (k_X8_end 0 15 rfl) (k_X8_end 0 16 rfl) rfl
theorem dX8_end_17 : decode cX8_end 17 = .ok (.iconst 0, 1) := dz_3 (k_X8_end 0 17 rfl)
theorem dX8_end_18 : decode cX8_end 18 = .ok (.ireturn, 1) := dz_172 (k_X8_end 0 18 rfl)
theorem dX8_end_19 : decode cX8_end 19 = .ok (.aload_n 0, 1) := dz_42 (k_X8_end 0 19 rfl)
theorem dX8_end_20 : decode cX8_end 20 = .ok (.iload_n 1, 1) := dz_27 (k_X8_end 0 20 rfl)
theorem dX8_end_21 : decode cX8_end 21 = .ok (.putfield 145, 3) := dz_181 (k_X8_end 0 21 rfl) (k_X8_end 0 22 rfl) (k_X8_end 0 23 rfl) rfl
theorem dX8_end_24 : decode cX8_end 24 = .ok (.iconst 1, 1) := dz_4 (k_X8_end 0 24 rfl)
theorem dX8_end_25 : decode cX8_end 25 = .ok (.ireturn, 1) := dz_172 (k_X8_end 0 25 rfl)
def B_X8_endOf : List (List Nat) := [[4, 62, 28, 54, 4, 29, 158, 0, 47, 29, 42, 27, 21, 4, 182, 0, 114, 184, 0, 118, 153, 0, 7, 4, 167, 0, 21, 42, 27, 21, 4, 182, 0, 114, 184, 0, 122, 153, 0, 7, 3, 167, 0, 4, 2, 96, 62, 132, 4, 1, 167, 255, 211, 21, 4, 172]]
theorem k_X8_endOf (j i : Nat) {b : Nat} (h : (B_X8_endOf[j]?.bind fun c => c[i]?) = some b) : s_by cX8_endOf (64 * j + i) b := s_byC (L := B_X8_endOf) (by decide +kernel) (by decide +kernel) j i h
theorem dX8_endOf_0 : decode cX8_endOf 0 = .ok (.iconst 1, 1) := dz_4 (k_X8_endOf 0 0 rfl)
theorem dX8_endOf_1 : decode cX8_endOf 1 = .ok (.istore_n 3, 1) := dz_62 (k_X8_endOf 0 1 rfl)
theorem dX8_endOf_2 : decode cX8_endOf 2 = .ok (.iload_n 2, 1) := dz_28 (k_X8_endOf 0 2 rfl)
theorem dX8_endOf_3 : decode cX8_endOf 3 = .ok (.istore 4, 2) := dz_54 (k_X8_endOf 0 3 rfl) (k_X8_endOf 0 4 rfl)
theorem dX8_endOf_5 : decode cX8_endOf 5 = .ok (.iload_n 3, 1) := dz_29 (k_X8_endOf 0 5 rfl)
theorem dX8_endOf_6 : decode cX8_endOf 6 = .ok (.ifCond .le 47, 3) := dz_158 (k_X8_endOf 0 6 rfl) (k_X8_endOf 0 7 rfl) (k_X8_endOf 0 8 rfl) rfl
theorem dX8_endOf_9 : decode cX8_endOf 9 = .ok (.iload_n 3, 1) := dz_29 (k_X8_endOf 0 9 rfl)
theorem dX8_endOf_10 : decode cX8_endOf 10 = .ok (.aload_n 0, 1) := dz_42 (k_X8_endOf 0 10 rfl)
theorem dX8_endOf_11 : decode cX8_endOf 11 = .ok (.iload_n 1, 1) := dz_27 (k_X8_endOf 0 11 rfl)
theorem dX8_endOf_12 : decode cX8_endOf 12 = .ok (.iload 4, 2) := dz_21 (k_X8_endOf 0 12 rfl) (k_X8_endOf 0 13 rfl)
theorem dX8_endOf_14 : decode cX8_endOf 14 = .ok (.invokevirtual 114, 3) := dz_182 (k_X8_endOf 0 14 rfl) (k_X8_endOf 0 15 rfl) (k_X8_endOf 0 16 rfl) rfl
theorem dX8_endOf_17 : decode cX8_endOf 17 = .ok (.invokestatic 118, 3) := dz_184 (k_X8_endOf 0 17 rfl) (k_X8_endOf 0 18 rfl) (k_X8_endOf 0 19 rfl) rfl
theorem dX8_endOf_20 : decode cX8_endOf 20 = .ok (.ifCond .eq 7, 3) := dz_153 (k_X8_endOf 0 20 rfl) (k_X8_endOf 0 21 rfl) (k_X8_endOf 0 22 rfl) rfl
theorem dX8_endOf_23 : decode cX8_endOf 23 = .ok (.iconst 1, 1) := dz_4 (k_X8_endOf 0 23 rfl)
theorem dX8_endOf_24 : decode cX8_endOf 24 = .ok (.goto 21, 3) := dz_167 (k_X8_endOf 0 24 rfl) (k_X8_endOf 0 25 rfl) (k_X8_endOf 0 26 rfl) rfl
theorem dX8_endOf_27 : decode cX8_endOf 27 = .ok (.aload_n 0, 1) := dz_42 (k_X8_endOf 0 27 rfl)
theorem dX8_endOf_28 : decode cX8_endOf 28 = .ok (.iload_n 1, 1) := dz_27 (k_X8_endOf 0 28 rfl)
theorem dX8_endOf_29 : decode cX8_endOf 29 = .ok (.iload 4, 2) := dz_21 (k_X8_endOf 0 29 rfl) (k_X8_endOf 0 30 rfl)
theorem dX8_endOf_31 : decode cX8_endOf 31 = .ok (.invokevirtual 114, 3) := dz_182 (k_X8_endOf 0 31 rfl) (k_X8_endOf 0 32 rfl) (k_X8_endOf 0 33 rfl) rfl
theorem dX8_endOf_34 : decode cX8_endOf 34 = .ok (.invokestatic 122, 3) := dz_184 (k_X8_endOf 0 34 rfl) (k_X8_endOf 0 35 rfl) (k_X8_endOf 0 36 rfl) rfl
theorem dX8_endOf_37 : decode cX8_endOf 37 = .ok (.ifCond .eq 7, 3) := dz_153 (k_X8_endOf 0 37 rfl) (k_X8_endOf 0 38 rfl) (k_X8_endOf 0 39 rfl) rfl
theorem dX8_endOf_40 : decode cX8_endOf 40 = .ok (.iconst 0, 1) := dz_3 (k_X8_endOf 0 40 rfl)
theorem dX8_endOf_41 : decode cX8_endOf 41 = .ok (.goto 4, 3) := dz_167 (k_X8_endOf 0 41 rfl) (k_X8_endOf 0 42 rfl) (k_X8_endOf 0 43 rfl) rfl
theorem dX8_endOf_44 : decode cX8_endOf 44 = .ok (.iconst (-1), 1) := dz_2 (k_X8_endOf 0 44 rfl)
theorem dX8_endOf_45 : decode cX8_endOf 45 = .ok (.iadd, 1) := dz_96 (k_X8_endOf 0 45 rfl)
theorem dX8_endOf_46 : decode cX8_endOf 46 = .ok (.istore_n 3, 1) := dz_62 (k_X8_endOf 0 46 rfl)
theorem dX8_endOf_47 : decode cX8_endOf 47 = .ok (.iinc 4 1, 3) := dz_132 (k_X8_endOf 0 47 rfl) (k_X8_endOf 0 48 rfl) (k_X8_endOf 0 49 rfl) rfl
theorem dX8_endOf_50 : decode cX8_endOf 50 = .ok (.goto (-45), 3) := dz_167 (k_X8_endOf 0 50 rfl) (k_X8_endOf 0 51 rfl) (k_X8_endOf 0 52 rfl) rfl
theorem dX8_endOf_53 : decode cX8_endOf 53 = .ok (.iload 4, 2) := dz_21 (k_X8_endOf 0 53 rfl) (k_X8_endOf 0 54 rfl)
theorem dX8_endOf_55 : decode cX8_endOf 55 = .ok (.ireturn, 1) := dz_172 (k_X8_endOf 0 55 rfl)
def B_X8_fails : List (List Nat) := [[27, 4, 42, 182, 0, 103, 120, 4, 100, 126, 61, 3, 62, 29, 42, 182, 0, 237, 162, 0, 71, 42, 180, 0, 50, 29, 3, 79, 3, 54, 4, 21, 4, 42, 182, 0, 103, 162, 0, 46, 42, 180, 0, 50, 29, 92, 46, 28, 21, 4, 122, 4, 126, 4, 160, 0, 20, 42, 21, 4, 29, 182, 0, 243], [154, 0, 10, 4, 21, 4, 120, 167, 0, 4, 3, 128, 79, 132, 4, 1, 167, 255, 207, 132, 3, 1, 167, 255, 183, 28, 172]]
theorem k_X8_fails (j i : Nat) {b : Nat} (h : (B_X8_fails[j]?.bind fun c => c[i]?) = some b) : s_by cX8_fails (64 * j + i) b := s_byC (L := B_X8_fails) (by decide +kernel) (by decide +kernel) j i h
theorem dX8_fails_0 : decode cX8_fails 0 = .ok (.iload_n 1, 1) := dz_27 (k_X8_fails 0 0 rfl)
theorem dX8_fails_1 : decode cX8_fails 1 = .ok (.iconst 1, 1) := dz_4 (k_X8_fails 0 1 rfl)
theorem dX8_fails_2 : decode cX8_fails 2 = .ok (.aload_n 0, 1) := dz_42 (k_X8_fails 0 2 rfl)
theorem dX8_fails_3 : decode cX8_fails 3 = .ok (.invokevirtual 103, 3) := dz_182 (k_X8_fails 0 3 rfl) (k_X8_fails 0 4 rfl) (k_X8_fails 0 5 rfl) rfl
theorem dX8_fails_6 : decode cX8_fails 6 = .ok (.ishl, 1) := dz_120 (k_X8_fails 0 6 rfl)
theorem dX8_fails_7 : decode cX8_fails 7 = .ok (.iconst 1, 1) := dz_4 (k_X8_fails 0 7 rfl)
theorem dX8_fails_8 : decode cX8_fails 8 = .ok (.isub, 1) := dz_100 (k_X8_fails 0 8 rfl)
theorem dX8_fails_9 : decode cX8_fails 9 = .ok (.iand, 1) := dz_126 (k_X8_fails 0 9 rfl)
theorem dX8_fails_10 : decode cX8_fails 10 = .ok (.istore_n 2, 1) := dz_61 (k_X8_fails 0 10 rfl)
theorem dX8_fails_11 : decode cX8_fails 11 = .ok (.iconst 0, 1) := dz_3 (k_X8_fails 0 11 rfl)
theorem dX8_fails_12 : decode cX8_fails 12 = .ok (.istore_n 3, 1) := dz_62 (k_X8_fails 0 12 rfl)
theorem dX8_fails_13 : decode cX8_fails 13 = .ok (.iload_n 3, 1) := dz_29 (k_X8_fails 0 13 rfl)
theorem dX8_fails_14 : decode cX8_fails 14 = .ok (.aload_n 0, 1) := dz_42 (k_X8_fails 0 14 rfl)
theorem dX8_fails_15 : decode cX8_fails 15 = .ok (.invokevirtual 237, 3) := dz_182 (k_X8_fails 0 15 rfl) (k_X8_fails 0 16 rfl) (k_X8_fails 0 17 rfl) rfl
theorem dX8_fails_18 : decode cX8_fails 18 = .ok (.if_icmp .ge 71, 3) := dz_162 (k_X8_fails 0 18 rfl) (k_X8_fails 0 19 rfl) (k_X8_fails 0 20 rfl) rfl
theorem dX8_fails_21 : decode cX8_fails 21 = .ok (.aload_n 0, 1) := dz_42 (k_X8_fails 0 21 rfl)
theorem dX8_fails_22 : decode cX8_fails 22 = .ok (.getfield 50, 3) := dz_180 (k_X8_fails 0 22 rfl) (k_X8_fails 0 23 rfl) (k_X8_fails 0 24 rfl) rfl
theorem dX8_fails_25 : decode cX8_fails 25 = .ok (.iload_n 3, 1) := dz_29 (k_X8_fails 0 25 rfl)
theorem dX8_fails_26 : decode cX8_fails 26 = .ok (.iconst 0, 1) := dz_3 (k_X8_fails 0 26 rfl)
theorem dX8_fails_27 : decode cX8_fails 27 = .ok (.iastore, 1) := dz_79 (k_X8_fails 0 27 rfl)
theorem dX8_fails_28 : decode cX8_fails 28 = .ok (.iconst 0, 1) := dz_3 (k_X8_fails 0 28 rfl)
theorem dX8_fails_29 : decode cX8_fails 29 = .ok (.istore 4, 2) := dz_54 (k_X8_fails 0 29 rfl) (k_X8_fails 0 30 rfl)
theorem dX8_fails_31 : decode cX8_fails 31 = .ok (.iload 4, 2) := dz_21 (k_X8_fails 0 31 rfl) (k_X8_fails 0 32 rfl)
theorem dX8_fails_33 : decode cX8_fails 33 = .ok (.aload_n 0, 1) := dz_42 (k_X8_fails 0 33 rfl)
theorem dX8_fails_34 : decode cX8_fails 34 = .ok (.invokevirtual 103, 3) := dz_182 (k_X8_fails 0 34 rfl) (k_X8_fails 0 35 rfl) (k_X8_fails 0 36 rfl) rfl
theorem dX8_fails_37 : decode cX8_fails 37 = .ok (.if_icmp .ge 46, 3) := dz_162 (k_X8_fails 0 37 rfl) (k_X8_fails 0 38 rfl) (k_X8_fails 0 39 rfl) rfl
theorem dX8_fails_40 : decode cX8_fails 40 = .ok (.aload_n 0, 1) := dz_42 (k_X8_fails 0 40 rfl)
theorem dX8_fails_41 : decode cX8_fails 41 = .ok (.getfield 50, 3) := dz_180 (k_X8_fails 0 41 rfl) (k_X8_fails 0 42 rfl) (k_X8_fails 0 43 rfl) rfl
theorem dX8_fails_44 : decode cX8_fails 44 = .ok (.iload_n 3, 1) := dz_29 (k_X8_fails 0 44 rfl)
theorem dX8_fails_45 : decode cX8_fails 45 = .ok (.dup2, 1) := dz_92 (k_X8_fails 0 45 rfl)
theorem dX8_fails_46 : decode cX8_fails 46 = .ok (.iaload, 1) := dz_46 (k_X8_fails 0 46 rfl)
theorem dX8_fails_47 : decode cX8_fails 47 = .ok (.iload_n 2, 1) := dz_28 (k_X8_fails 0 47 rfl)
theorem dX8_fails_48 : decode cX8_fails 48 = .ok (.iload 4, 2) := dz_21 (k_X8_fails 0 48 rfl) (k_X8_fails 0 49 rfl)
theorem dX8_fails_50 : decode cX8_fails 50 = .ok (.ishr, 1) := dz_122 (k_X8_fails 0 50 rfl)
theorem dX8_fails_51 : decode cX8_fails 51 = .ok (.iconst 1, 1) := dz_4 (k_X8_fails 0 51 rfl)
theorem dX8_fails_52 : decode cX8_fails 52 = .ok (.iand, 1) := dz_126 (k_X8_fails 0 52 rfl)
theorem dX8_fails_53 : decode cX8_fails 53 = .ok (.iconst 1, 1) := dz_4 (k_X8_fails 0 53 rfl)
theorem dX8_fails_54 : decode cX8_fails 54 = .ok (.if_icmp .ne 20, 3) := dz_160 (k_X8_fails 0 54 rfl) (k_X8_fails 0 55 rfl) (k_X8_fails 0 56 rfl) rfl
theorem dX8_fails_57 : decode cX8_fails 57 = .ok (.aload_n 0, 1) := dz_42 (k_X8_fails 0 57 rfl)
theorem dX8_fails_58 : decode cX8_fails 58 = .ok (.iload 4, 2) := dz_21 (k_X8_fails 0 58 rfl) (k_X8_fails 0 59 rfl)
theorem dX8_fails_60 : decode cX8_fails 60 = .ok (.iload_n 3, 1) := dz_29 (k_X8_fails 0 60 rfl)
theorem dX8_fails_61 : decode cX8_fails 61 = .ok (.invokevirtual 243, 3) := dz_182 (k_X8_fails 0 61 rfl) (k_X8_fails 0 62 rfl) (k_X8_fails 0 63 rfl) rfl
theorem dX8_fails_64 : decode cX8_fails 64 = .ok (.ifCond .ne 10, 3) := dz_154 (k_X8_fails 1 0 rfl) (k_X8_fails 1 1 rfl) (k_X8_fails 1 2 rfl) rfl
theorem dX8_fails_67 : decode cX8_fails 67 = .ok (.iconst 1, 1) := dz_4 (k_X8_fails 1 3 rfl)
theorem dX8_fails_68 : decode cX8_fails 68 = .ok (.iload 4, 2) := dz_21 (k_X8_fails 1 4 rfl) (k_X8_fails 1 5 rfl)
theorem dX8_fails_70 : decode cX8_fails 70 = .ok (.ishl, 1) := dz_120 (k_X8_fails 1 6 rfl)
theorem dX8_fails_71 : decode cX8_fails 71 = .ok (.goto 4, 3) := dz_167 (k_X8_fails 1 7 rfl) (k_X8_fails 1 8 rfl) (k_X8_fails 1 9 rfl) rfl
theorem dX8_fails_74 : decode cX8_fails 74 = .ok (.iconst 0, 1) := dz_3 (k_X8_fails 1 10 rfl)
theorem dX8_fails_75 : decode cX8_fails 75 = .ok (.ior, 1) := dz_128 (k_X8_fails 1 11 rfl)
theorem dX8_fails_76 : decode cX8_fails 76 = .ok (.iastore, 1) := dz_79 (k_X8_fails 1 12 rfl)
theorem dX8_fails_77 : decode cX8_fails 77 = .ok (.iinc 4 1, 3) := dz_132 (k_X8_fails 1 13 rfl) (k_X8_fails 1 14 rfl) (k_X8_fails 1 15 rfl) rfl
theorem dX8_fails_80 : decode cX8_fails 80 = .ok (.goto (-49), 3) := dz_167 (k_X8_fails 1 16 rfl) (k_X8_fails 1 17 rfl) (k_X8_fails 1 18 rfl) rfl
theorem dX8_fails_83 : decode cX8_fails 83 = .ok (.iinc 3 1, 3) := dz_132 (k_X8_fails 1 19 rfl) (k_X8_fails 1 20 rfl) (k_X8_fails 1 21 rfl) rfl
theorem dX8_fails_86 : decode cX8_fails 86 = .ok (.goto (-73), 3) := dz_167 (k_X8_fails 1 22 rfl) (k_X8_fails 1 23 rfl) (k_X8_fails 1 24 rfl) rfl
theorem dX8_fails_89 : decode cX8_fails 89 = .ok (.iload_n 2, 1) := dz_28 (k_X8_fails 1 25 rfl)
theorem dX8_fails_90 : decode cX8_fails 90 = .ok (.ireturn, 1) := dz_172 (k_X8_fails 1 26 rfl)
def B_X8_falls : List (List Nat) := [[42, 3, 181, 0, 3, 42, 27, 184, 0, 249, 154, 0, 11, 42, 28, 182, 0, 231, 153, 0, 7, 4, 167, 0, 4, 3, 4, 182, 0, 224, 153, 0, 5, 9, 173, 42, 182, 1, 57, 9, 66, 3, 54, 5, 21, 5, 42, 182, 0, 111, 162, 0, 29, 33, 42, 21, 5, 182, 1, 51, 153, 0, 10, 10], [21, 5, 121, 167, 0, 4, 9, 129, 66, 132, 5, 1, 167, 255, 224, 42, 27, 182, 0, 252, 54, 5, 42, 180, 0, 13, 16, 58, 27, 96, 21, 5, 4, 28, 120, 2, 130, 126, 79, 9, 55, 6, 3, 54, 8, 21, 8, 42, 182, 0, 111, 162, 0, 31, 22, 6, 42, 21, 8, 182, 1, 51, 153, 0], [10, 10, 21, 8, 121, 167, 0, 4, 9, 129, 55, 6, 132, 8, 1, 167, 255, 222, 42, 180, 0, 13, 16, 58, 27, 96, 21, 5, 79, 22, 6, 33, 20, 1, 49, 131, 127, 173]]
theorem k_X8_falls (j i : Nat) {b : Nat} (h : (B_X8_falls[j]?.bind fun c => c[i]?) = some b) : s_by cX8_falls (64 * j + i) b := s_byC (L := B_X8_falls) (by decide +kernel) (by decide +kernel) j i h
theorem dX8_falls_0 : decode cX8_falls 0 = .ok (.aload_n 0, 1) := dz_42 (k_X8_falls 0 0 rfl)
theorem dX8_falls_1 : decode cX8_falls 1 = .ok (.iconst 0, 1) := dz_3 (k_X8_falls 0 1 rfl)
theorem dX8_falls_2 : decode cX8_falls 2 = .ok (.putfield 3, 3) := dz_181 (k_X8_falls 0 2 rfl) (k_X8_falls 0 3 rfl) (k_X8_falls 0 4 rfl) rfl
theorem dX8_falls_5 : decode cX8_falls 5 = .ok (.aload_n 0, 1) := dz_42 (k_X8_falls 0 5 rfl)
theorem dX8_falls_6 : decode cX8_falls 6 = .ok (.iload_n 1, 1) := dz_27 (k_X8_falls 0 6 rfl)
theorem dX8_falls_7 : decode cX8_falls 7 = .ok (.invokestatic 249, 3) := dz_184 (k_X8_falls 0 7 rfl) (k_X8_falls 0 8 rfl) (k_X8_falls 0 9 rfl) rfl
theorem dX8_falls_10 : decode cX8_falls 10 = .ok (.ifCond .ne 11, 3) := dz_154 (k_X8_falls 0 10 rfl) (k_X8_falls 0 11 rfl) (k_X8_falls 0 12 rfl) rfl
theorem dX8_falls_13 : decode cX8_falls 13 = .ok (.aload_n 0, 1) := dz_42 (k_X8_falls 0 13 rfl)
theorem dX8_falls_14 : decode cX8_falls 14 = .ok (.iload_n 2, 1) := dz_28 (k_X8_falls 0 14 rfl)
theorem dX8_falls_15 : decode cX8_falls 15 = .ok (.invokevirtual 231, 3) := dz_182 (k_X8_falls 0 15 rfl) (k_X8_falls 0 16 rfl) (k_X8_falls 0 17 rfl) rfl
theorem dX8_falls_18 : decode cX8_falls 18 = .ok (.ifCond .eq 7, 3) := dz_153 (k_X8_falls 0 18 rfl) (k_X8_falls 0 19 rfl) (k_X8_falls 0 20 rfl) rfl
theorem dX8_falls_21 : decode cX8_falls 21 = .ok (.iconst 1, 1) := dz_4 (k_X8_falls 0 21 rfl)
theorem dX8_falls_22 : decode cX8_falls 22 = .ok (.goto 4, 3) := dz_167 (k_X8_falls 0 22 rfl) (k_X8_falls 0 23 rfl) (k_X8_falls 0 24 rfl) rfl
theorem dX8_falls_25 : decode cX8_falls 25 = .ok (.iconst 0, 1) := dz_3 (k_X8_falls 0 25 rfl)
theorem dX8_falls_26 : decode cX8_falls 26 = .ok (.iconst 1, 1) := dz_4 (k_X8_falls 0 26 rfl)
theorem dX8_falls_27 : decode cX8_falls 27 = .ok (.invokevirtual 224, 3) := dz_182 (k_X8_falls 0 27 rfl) (k_X8_falls 0 28 rfl) (k_X8_falls 0 29 rfl) rfl
theorem dX8_falls_30 : decode cX8_falls 30 = .ok (.ifCond .eq 5, 3) := dz_153 (k_X8_falls 0 30 rfl) (k_X8_falls 0 31 rfl) (k_X8_falls 0 32 rfl) rfl
theorem dX8_falls_33 : decode cX8_falls 33 = .ok (.lconst 0, 1) := dz_9 (k_X8_falls 0 33 rfl)
theorem dX8_falls_34 : decode cX8_falls 34 = .ok (.lreturn, 1) := dz_173 (k_X8_falls 0 34 rfl)
theorem dX8_falls_35 : decode cX8_falls 35 = .ok (.aload_n 0, 1) := dz_42 (k_X8_falls 0 35 rfl)
theorem dX8_falls_36 : decode cX8_falls 36 = .ok (.invokevirtual 313, 3) := dz_182 (k_X8_falls 0 36 rfl) (k_X8_falls 0 37 rfl) (k_X8_falls 0 38 rfl) rfl
theorem dX8_falls_39 : decode cX8_falls 39 = .ok (.lconst 0, 1) := dz_9 (k_X8_falls 0 39 rfl)
theorem dX8_falls_40 : decode cX8_falls 40 = .ok (.lstore_n 3, 1) := dz_66 (k_X8_falls 0 40 rfl)
theorem dX8_falls_41 : decode cX8_falls 41 = .ok (.iconst 0, 1) := dz_3 (k_X8_falls 0 41 rfl)
theorem dX8_falls_42 : decode cX8_falls 42 = .ok (.istore 5, 2) := dz_54 (k_X8_falls 0 42 rfl) (k_X8_falls 0 43 rfl)
theorem dX8_falls_44 : decode cX8_falls 44 = .ok (.iload 5, 2) := dz_21 (k_X8_falls 0 44 rfl) (k_X8_falls 0 45 rfl)
theorem dX8_falls_46 : decode cX8_falls 46 = .ok (.aload_n 0, 1) := dz_42 (k_X8_falls 0 46 rfl)
theorem dX8_falls_47 : decode cX8_falls 47 = .ok (.invokevirtual 111, 3) := dz_182 (k_X8_falls 0 47 rfl) (k_X8_falls 0 48 rfl) (k_X8_falls 0 49 rfl) rfl
theorem dX8_falls_50 : decode cX8_falls 50 = .ok (.if_icmp .ge 29, 3) := dz_162 (k_X8_falls 0 50 rfl) (k_X8_falls 0 51 rfl) (k_X8_falls 0 52 rfl) rfl
theorem dX8_falls_53 : decode cX8_falls 53 = .ok (.lload_n 3, 1) := dz_33 (k_X8_falls 0 53 rfl)
theorem dX8_falls_54 : decode cX8_falls 54 = .ok (.aload_n 0, 1) := dz_42 (k_X8_falls 0 54 rfl)
theorem dX8_falls_55 : decode cX8_falls 55 = .ok (.iload 5, 2) := dz_21 (k_X8_falls 0 55 rfl) (k_X8_falls 0 56 rfl)
theorem dX8_falls_57 : decode cX8_falls 57 = .ok (.invokevirtual 307, 3) := dz_182 (k_X8_falls 0 57 rfl) (k_X8_falls 0 58 rfl) (k_X8_falls 0 59 rfl) rfl
theorem dX8_falls_60 : decode cX8_falls 60 = .ok (.ifCond .eq 10, 3) := dz_153 (k_X8_falls 0 60 rfl) (k_X8_falls 0 61 rfl) (k_X8_falls 0 62 rfl) rfl
theorem dX8_falls_63 : decode cX8_falls 63 = .ok (.lconst 1, 1) := dz_10 (k_X8_falls 0 63 rfl)
theorem dX8_falls_64 : decode cX8_falls 64 = .ok (.iload 5, 2) := dz_21 (k_X8_falls 1 0 rfl) (k_X8_falls 1 1 rfl)
theorem dX8_falls_66 : decode cX8_falls 66 = .ok (.lshl, 1) := dz_121 (k_X8_falls 1 2 rfl)
theorem dX8_falls_67 : decode cX8_falls 67 = .ok (.goto 4, 3) := dz_167 (k_X8_falls 1 3 rfl) (k_X8_falls 1 4 rfl) (k_X8_falls 1 5 rfl) rfl
theorem dX8_falls_70 : decode cX8_falls 70 = .ok (.lconst 0, 1) := dz_9 (k_X8_falls 1 6 rfl)
theorem dX8_falls_71 : decode cX8_falls 71 = .ok (.lor, 1) := dz_129 (k_X8_falls 1 7 rfl)
theorem dX8_falls_72 : decode cX8_falls 72 = .ok (.lstore_n 3, 1) := dz_66 (k_X8_falls 1 8 rfl)
theorem dX8_falls_73 : decode cX8_falls 73 = .ok (.iinc 5 1, 3) := dz_132 (k_X8_falls 1 9 rfl) (k_X8_falls 1 10 rfl) (k_X8_falls 1 11 rfl) rfl
theorem dX8_falls_76 : decode cX8_falls 76 = .ok (.goto (-32), 3) := dz_167 (k_X8_falls 1 12 rfl) (k_X8_falls 1 13 rfl) (k_X8_falls 1 14 rfl) rfl
theorem dX8_falls_79 : decode cX8_falls 79 = .ok (.aload_n 0, 1) := dz_42 (k_X8_falls 1 15 rfl)
theorem dX8_falls_80 : decode cX8_falls 80 = .ok (.iload_n 1, 1) := dz_27 (k_X8_falls 1 16 rfl)
theorem dX8_falls_81 : decode cX8_falls 81 = .ok (.invokevirtual 252, 3) := dz_182 (k_X8_falls 1 17 rfl) (k_X8_falls 1 18 rfl) (k_X8_falls 1 19 rfl) rfl
theorem dX8_falls_84 : decode cX8_falls 84 = .ok (.istore 5, 2) := dz_54 (k_X8_falls 1 20 rfl) (k_X8_falls 1 21 rfl)
theorem dX8_falls_86 : decode cX8_falls 86 = .ok (.aload_n 0, 1) := dz_42 (k_X8_falls 1 22 rfl)
theorem dX8_falls_87 : decode cX8_falls 87 = .ok (.getfield 13, 3) := dz_180 (k_X8_falls 1 23 rfl) (k_X8_falls 1 24 rfl) (k_X8_falls 1 25 rfl) rfl
theorem dX8_falls_90 : decode cX8_falls 90 = .ok (.bipush 58, 2) := dz_16 (k_X8_falls 1 26 rfl) (k_X8_falls 1 27 rfl) rfl
theorem dX8_falls_92 : decode cX8_falls 92 = .ok (.iload_n 1, 1) := dz_27 (k_X8_falls 1 28 rfl)
theorem dX8_falls_93 : decode cX8_falls 93 = .ok (.iadd, 1) := dz_96 (k_X8_falls 1 29 rfl)
theorem dX8_falls_94 : decode cX8_falls 94 = .ok (.iload 5, 2) := dz_21 (k_X8_falls 1 30 rfl) (k_X8_falls 1 31 rfl)
theorem dX8_falls_96 : decode cX8_falls 96 = .ok (.iconst 1, 1) := dz_4 (k_X8_falls 1 32 rfl)
theorem dX8_falls_97 : decode cX8_falls 97 = .ok (.iload_n 2, 1) := dz_28 (k_X8_falls 1 33 rfl)
theorem dX8_falls_98 : decode cX8_falls 98 = .ok (.ishl, 1) := dz_120 (k_X8_falls 1 34 rfl)
theorem dX8_falls_99 : decode cX8_falls 99 = .ok (.iconst (-1), 1) := dz_2 (k_X8_falls 1 35 rfl)
theorem dX8_falls_100 : decode cX8_falls 100 = .ok (.ixor, 1) := dz_130 (k_X8_falls 1 36 rfl)
theorem dX8_falls_101 : decode cX8_falls 101 = .ok (.iand, 1) := dz_126 (k_X8_falls 1 37 rfl)
theorem dX8_falls_102 : decode cX8_falls 102 = .ok (.iastore, 1) := dz_79 (k_X8_falls 1 38 rfl)
theorem dX8_falls_103 : decode cX8_falls 103 = .ok (.lconst 0, 1) := dz_9 (k_X8_falls 1 39 rfl)
theorem dX8_falls_104 : decode cX8_falls 104 = .ok (.lstore 6, 2) := dz_55 (k_X8_falls 1 40 rfl) (k_X8_falls 1 41 rfl)
theorem dX8_falls_106 : decode cX8_falls 106 = .ok (.iconst 0, 1) := dz_3 (k_X8_falls 1 42 rfl)
theorem dX8_falls_107 : decode cX8_falls 107 = .ok (.istore 8, 2) := dz_54 (k_X8_falls 1 43 rfl) (k_X8_falls 1 44 rfl)
theorem dX8_falls_109 : decode cX8_falls 109 = .ok (.iload 8, 2) := dz_21 (k_X8_falls 1 45 rfl) (k_X8_falls 1 46 rfl)
theorem dX8_falls_111 : decode cX8_falls 111 = .ok (.aload_n 0, 1) := dz_42 (k_X8_falls 1 47 rfl)
theorem dX8_falls_112 : decode cX8_falls 112 = .ok (.invokevirtual 111, 3) := dz_182 (k_X8_falls 1 48 rfl) (k_X8_falls 1 49 rfl) (k_X8_falls 1 50 rfl) rfl
theorem dX8_falls_115 : decode cX8_falls 115 = .ok (.if_icmp .ge 31, 3) := dz_162 (k_X8_falls 1 51 rfl) (k_X8_falls 1 52 rfl) (k_X8_falls 1 53 rfl) rfl
theorem dX8_falls_118 : decode cX8_falls 118 = .ok (.lload 6, 2) := dz_22 (k_X8_falls 1 54 rfl) (k_X8_falls 1 55 rfl)
theorem dX8_falls_120 : decode cX8_falls 120 = .ok (.aload_n 0, 1) := dz_42 (k_X8_falls 1 56 rfl)
theorem dX8_falls_121 : decode cX8_falls 121 = .ok (.iload 8, 2) := dz_21 (k_X8_falls 1 57 rfl) (k_X8_falls 1 58 rfl)
theorem dX8_falls_123 : decode cX8_falls 123 = .ok (.invokevirtual 307, 3) := dz_182 (k_X8_falls 1 59 rfl) (k_X8_falls 1 60 rfl) (k_X8_falls 1 61 rfl) rfl
theorem dX8_falls_126 : decode cX8_falls 126 = .ok (.ifCond .eq 10, 3) := dz_153 (k_X8_falls 1 62 rfl) (k_X8_falls 1 63 rfl) (k_X8_falls 2 0 rfl) rfl
theorem dX8_falls_129 : decode cX8_falls 129 = .ok (.lconst 1, 1) := dz_10 (k_X8_falls 2 1 rfl)
theorem dX8_falls_130 : decode cX8_falls 130 = .ok (.iload 8, 2) := dz_21 (k_X8_falls 2 2 rfl) (k_X8_falls 2 3 rfl)
theorem dX8_falls_132 : decode cX8_falls 132 = .ok (.lshl, 1) := dz_121 (k_X8_falls 2 4 rfl)
theorem dX8_falls_133 : decode cX8_falls 133 = .ok (.goto 4, 3) := dz_167 (k_X8_falls 2 5 rfl) (k_X8_falls 2 6 rfl) (k_X8_falls 2 7 rfl) rfl
theorem dX8_falls_136 : decode cX8_falls 136 = .ok (.lconst 0, 1) := dz_9 (k_X8_falls 2 8 rfl)
theorem dX8_falls_137 : decode cX8_falls 137 = .ok (.lor, 1) := dz_129 (k_X8_falls 2 9 rfl)
theorem dX8_falls_138 : decode cX8_falls 138 = .ok (.lstore 6, 2) := dz_55 (k_X8_falls 2 10 rfl) (k_X8_falls 2 11 rfl)
theorem dX8_falls_140 : decode cX8_falls 140 = .ok (.iinc 8 1, 3) := dz_132 (k_X8_falls 2 12 rfl) (k_X8_falls 2 13 rfl) (k_X8_falls 2 14 rfl) rfl
theorem dX8_falls_143 : decode cX8_falls 143 = .ok (.goto (-34), 3) := dz_167 (k_X8_falls 2 15 rfl) (k_X8_falls 2 16 rfl) (k_X8_falls 2 17 rfl) rfl
theorem dX8_falls_146 : decode cX8_falls 146 = .ok (.aload_n 0, 1) := dz_42 (k_X8_falls 2 18 rfl)
theorem dX8_falls_147 : decode cX8_falls 147 = .ok (.getfield 13, 3) := dz_180 (k_X8_falls 2 19 rfl) (k_X8_falls 2 20 rfl) (k_X8_falls 2 21 rfl) rfl
theorem dX8_falls_150 : decode cX8_falls 150 = .ok (.bipush 58, 2) := dz_16 (k_X8_falls 2 22 rfl) (k_X8_falls 2 23 rfl) rfl
theorem dX8_falls_152 : decode cX8_falls 152 = .ok (.iload_n 1, 1) := dz_27 (k_X8_falls 2 24 rfl)
theorem dX8_falls_153 : decode cX8_falls 153 = .ok (.iadd, 1) := dz_96 (k_X8_falls 2 25 rfl)
theorem dX8_falls_154 : decode cX8_falls 154 = .ok (.iload 5, 2) := dz_21 (k_X8_falls 2 26 rfl) (k_X8_falls 2 27 rfl)
theorem dX8_falls_156 : decode cX8_falls 156 = .ok (.iastore, 1) := dz_79 (k_X8_falls 2 28 rfl)
theorem dX8_falls_157 : decode cX8_falls 157 = .ok (.lload 6, 2) := dz_22 (k_X8_falls 2 29 rfl) (k_X8_falls 2 30 rfl)
theorem dX8_falls_159 : decode cX8_falls 159 = .ok (.lload_n 3, 1) := dz_33 (k_X8_falls 2 31 rfl)
theorem dX8_falls_160 : decode cX8_falls 160 = .ok (.ldc2_w 305, 3) := dz_20 (k_X8_falls 2 32 rfl) (k_X8_falls 2 33 rfl) (k_X8_falls 2 34 rfl) rfl
theorem dX8_falls_163 : decode cX8_falls 163 = .ok (.lxor, 1) := dz_131 (k_X8_falls 2 35 rfl)
theorem dX8_falls_164 : decode cX8_falls 164 = .ok (.land, 1) := dz_127 (k_X8_falls 2 36 rfl)
theorem dX8_falls_165 : decode cX8_falls 165 = .ok (.lreturn, 1) := dz_173 (k_X8_falls 2 37 rfl)
def B_X8_fault : List (List Nat) := [[42, 3, 181, 0, 3, 42, 180, 0, 30, 172]]
theorem k_X8_fault (j i : Nat) {b : Nat} (h : (B_X8_fault[j]?.bind fun c => c[i]?) = some b) : s_by cX8_fault (64 * j + i) b := s_byC (L := B_X8_fault) (by decide +kernel) (by decide +kernel) j i h
theorem dX8_fault_0 : decode cX8_fault 0 = .ok (.aload_n 0, 1) := dz_42 (k_X8_fault 0 0 rfl)
theorem dX8_fault_1 : decode cX8_fault 1 = .ok (.iconst 0, 1) := dz_3 (k_X8_fault 0 1 rfl)
theorem dX8_fault_2 : decode cX8_fault 2 = .ok (.putfield 3, 3) := dz_181 (k_X8_fault 0 2 rfl) (k_X8_fault 0 3 rfl) (k_X8_fault 0 4 rfl) rfl
theorem dX8_fault_5 : decode cX8_fault 5 = .ok (.aload_n 0, 1) := dz_42 (k_X8_fault 0 5 rfl)
theorem dX8_fault_6 : decode cX8_fault 6 = .ok (.getfield 30, 3) := dz_180 (k_X8_fault 0 6 rfl) (k_X8_fault 0 7 rfl) (k_X8_fault 0 8 rfl) rfl
theorem dX8_fault_9 : decode cX8_fault 9 = .ok (.ireturn, 1) := dz_172 (k_X8_fault 0 9 rfl)
def B_X8_feed : List (List Nat) := [[42, 3, 181, 0, 3, 42, 180, 0, 145, 16, 20, 96, 17, 1, 144, 164, 0, 5, 2, 172, 42, 180, 0, 33, 3, 27, 79, 42, 180, 0, 33, 4, 28, 79, 42, 180, 0, 33, 5, 29, 79, 42, 180, 0, 33, 6, 21, 4, 79, 42, 180, 0, 33, 7, 21, 5, 79, 3, 54, 6, 21, 6, 16, 20], [162, 0, 42, 42, 180, 0, 26, 42, 180, 0, 145, 21, 6, 96, 42, 180, 0, 33, 21, 6, 7, 108, 46, 16, 24, 16, 8, 21, 6, 7, 112, 104, 100, 122, 145, 84, 132, 6, 1, 167, 255, 213, 42, 89, 180, 0, 145, 16, 20, 96, 181, 0, 145, 42, 180, 0, 145, 172]]
theorem k_X8_feed (j i : Nat) {b : Nat} (h : (B_X8_feed[j]?.bind fun c => c[i]?) = some b) : s_by cX8_feed (64 * j + i) b := s_byC (L := B_X8_feed) (by decide +kernel) (by decide +kernel) j i h
theorem dX8_feed_0 : decode cX8_feed 0 = .ok (.aload_n 0, 1) := dz_42 (k_X8_feed 0 0 rfl)
theorem dX8_feed_1 : decode cX8_feed 1 = .ok (.iconst 0, 1) := dz_3 (k_X8_feed 0 1 rfl)
theorem dX8_feed_2 : decode cX8_feed 2 = .ok (.putfield 3, 3) := dz_181 (k_X8_feed 0 2 rfl) (k_X8_feed 0 3 rfl) (k_X8_feed 0 4 rfl) rfl
theorem dX8_feed_5 : decode cX8_feed 5 = .ok (.aload_n 0, 1) := dz_42 (k_X8_feed 0 5 rfl)
theorem dX8_feed_6 : decode cX8_feed 6 = .ok (.getfield 145, 3) := dz_180 (k_X8_feed 0 6 rfl) (k_X8_feed 0 7 rfl) (k_X8_feed 0 8 rfl) rfl
theorem dX8_feed_9 : decode cX8_feed 9 = .ok (.bipush 20, 2) := dz_16 (k_X8_feed 0 9 rfl) (k_X8_feed 0 10 rfl) rfl
theorem dX8_feed_11 : decode cX8_feed 11 = .ok (.iadd, 1) := dz_96 (k_X8_feed 0 11 rfl)
theorem dX8_feed_12 : decode cX8_feed 12 = .ok (.sipush 400, 3) := dz_17 (k_X8_feed 0 12 rfl) (k_X8_feed 0 13 rfl) (k_X8_feed 0 14 rfl) rfl
theorem dX8_feed_15 : decode cX8_feed 15 = .ok (.if_icmp .le 5, 3) := dz_164 (k_X8_feed 0 15 rfl) (k_X8_feed 0 16 rfl) (k_X8_feed 0 17 rfl) rfl
theorem dX8_feed_18 : decode cX8_feed 18 = .ok (.iconst (-1), 1) := dz_2 (k_X8_feed 0 18 rfl)
theorem dX8_feed_19 : decode cX8_feed 19 = .ok (.ireturn, 1) := dz_172 (k_X8_feed 0 19 rfl)
theorem dX8_feed_20 : decode cX8_feed 20 = .ok (.aload_n 0, 1) := dz_42 (k_X8_feed 0 20 rfl)
theorem dX8_feed_21 : decode cX8_feed 21 = .ok (.getfield 33, 3) := dz_180 (k_X8_feed 0 21 rfl) (k_X8_feed 0 22 rfl) (k_X8_feed 0 23 rfl) rfl
theorem dX8_feed_24 : decode cX8_feed 24 = .ok (.iconst 0, 1) := dz_3 (k_X8_feed 0 24 rfl)
theorem dX8_feed_25 : decode cX8_feed 25 = .ok (.iload_n 1, 1) := dz_27 (k_X8_feed 0 25 rfl)
theorem dX8_feed_26 : decode cX8_feed 26 = .ok (.iastore, 1) := dz_79 (k_X8_feed 0 26 rfl)
theorem dX8_feed_27 : decode cX8_feed 27 = .ok (.aload_n 0, 1) := dz_42 (k_X8_feed 0 27 rfl)
theorem dX8_feed_28 : decode cX8_feed 28 = .ok (.getfield 33, 3) := dz_180 (k_X8_feed 0 28 rfl) (k_X8_feed 0 29 rfl) (k_X8_feed 0 30 rfl) rfl
theorem dX8_feed_31 : decode cX8_feed 31 = .ok (.iconst 1, 1) := dz_4 (k_X8_feed 0 31 rfl)
theorem dX8_feed_32 : decode cX8_feed 32 = .ok (.iload_n 2, 1) := dz_28 (k_X8_feed 0 32 rfl)
theorem dX8_feed_33 : decode cX8_feed 33 = .ok (.iastore, 1) := dz_79 (k_X8_feed 0 33 rfl)
theorem dX8_feed_34 : decode cX8_feed 34 = .ok (.aload_n 0, 1) := dz_42 (k_X8_feed 0 34 rfl)
theorem dX8_feed_35 : decode cX8_feed 35 = .ok (.getfield 33, 3) := dz_180 (k_X8_feed 0 35 rfl) (k_X8_feed 0 36 rfl) (k_X8_feed 0 37 rfl) rfl
theorem dX8_feed_38 : decode cX8_feed 38 = .ok (.iconst 2, 1) := dz_5 (k_X8_feed 0 38 rfl)
theorem dX8_feed_39 : decode cX8_feed 39 = .ok (.iload_n 3, 1) := dz_29 (k_X8_feed 0 39 rfl)
theorem dX8_feed_40 : decode cX8_feed 40 = .ok (.iastore, 1) := dz_79 (k_X8_feed 0 40 rfl)
theorem dX8_feed_41 : decode cX8_feed 41 = .ok (.aload_n 0, 1) := dz_42 (k_X8_feed 0 41 rfl)
theorem dX8_feed_42 : decode cX8_feed 42 = .ok (.getfield 33, 3) := dz_180 (k_X8_feed 0 42 rfl) (k_X8_feed 0 43 rfl) (k_X8_feed 0 44 rfl) rfl
theorem dX8_feed_45 : decode cX8_feed 45 = .ok (.iconst 3, 1) := dz_6 (k_X8_feed 0 45 rfl)
theorem dX8_feed_46 : decode cX8_feed 46 = .ok (.iload 4, 2) := dz_21 (k_X8_feed 0 46 rfl) (k_X8_feed 0 47 rfl)
theorem dX8_feed_48 : decode cX8_feed 48 = .ok (.iastore, 1) := dz_79 (k_X8_feed 0 48 rfl)
theorem dX8_feed_49 : decode cX8_feed 49 = .ok (.aload_n 0, 1) := dz_42 (k_X8_feed 0 49 rfl)
theorem dX8_feed_50 : decode cX8_feed 50 = .ok (.getfield 33, 3) := dz_180 (k_X8_feed 0 50 rfl) (k_X8_feed 0 51 rfl) (k_X8_feed 0 52 rfl) rfl
theorem dX8_feed_53 : decode cX8_feed 53 = .ok (.iconst 4, 1) := dz_7 (k_X8_feed 0 53 rfl)
theorem dX8_feed_54 : decode cX8_feed 54 = .ok (.iload 5, 2) := dz_21 (k_X8_feed 0 54 rfl) (k_X8_feed 0 55 rfl)
theorem dX8_feed_56 : decode cX8_feed 56 = .ok (.iastore, 1) := dz_79 (k_X8_feed 0 56 rfl)
theorem dX8_feed_57 : decode cX8_feed 57 = .ok (.iconst 0, 1) := dz_3 (k_X8_feed 0 57 rfl)
theorem dX8_feed_58 : decode cX8_feed 58 = .ok (.istore 6, 2) := dz_54 (k_X8_feed 0 58 rfl) (k_X8_feed 0 59 rfl)
theorem dX8_feed_60 : decode cX8_feed 60 = .ok (.iload 6, 2) := dz_21 (k_X8_feed 0 60 rfl) (k_X8_feed 0 61 rfl)
theorem dX8_feed_62 : decode cX8_feed 62 = .ok (.bipush 20, 2) := dz_16 (k_X8_feed 0 62 rfl) (k_X8_feed 0 63 rfl) rfl
theorem dX8_feed_64 : decode cX8_feed 64 = .ok (.if_icmp .ge 42, 3) := dz_162 (k_X8_feed 1 0 rfl) (k_X8_feed 1 1 rfl) (k_X8_feed 1 2 rfl) rfl
theorem dX8_feed_67 : decode cX8_feed 67 = .ok (.aload_n 0, 1) := dz_42 (k_X8_feed 1 3 rfl)
theorem dX8_feed_68 : decode cX8_feed 68 = .ok (.getfield 26, 3) := dz_180 (k_X8_feed 1 4 rfl) (k_X8_feed 1 5 rfl) (k_X8_feed 1 6 rfl) rfl
theorem dX8_feed_71 : decode cX8_feed 71 = .ok (.aload_n 0, 1) := dz_42 (k_X8_feed 1 7 rfl)
theorem dX8_feed_72 : decode cX8_feed 72 = .ok (.getfield 145, 3) := dz_180 (k_X8_feed 1 8 rfl) (k_X8_feed 1 9 rfl) (k_X8_feed 1 10 rfl) rfl
theorem dX8_feed_75 : decode cX8_feed 75 = .ok (.iload 6, 2) := dz_21 (k_X8_feed 1 11 rfl) (k_X8_feed 1 12 rfl)
theorem dX8_feed_77 : decode cX8_feed 77 = .ok (.iadd, 1) := dz_96 (k_X8_feed 1 13 rfl)
theorem dX8_feed_78 : decode cX8_feed 78 = .ok (.aload_n 0, 1) := dz_42 (k_X8_feed 1 14 rfl)
theorem dX8_feed_79 : decode cX8_feed 79 = .ok (.getfield 33, 3) := dz_180 (k_X8_feed 1 15 rfl) (k_X8_feed 1 16 rfl) (k_X8_feed 1 17 rfl) rfl
theorem dX8_feed_82 : decode cX8_feed 82 = .ok (.iload 6, 2) := dz_21 (k_X8_feed 1 18 rfl) (k_X8_feed 1 19 rfl)
theorem dX8_feed_84 : decode cX8_feed 84 = .ok (.iconst 4, 1) := dz_7 (k_X8_feed 1 20 rfl)
theorem dX8_feed_85 : decode cX8_feed 85 = .ok (.idiv, 1) := dz_108 (k_X8_feed 1 21 rfl)
theorem dX8_feed_86 : decode cX8_feed 86 = .ok (.iaload, 1) := dz_46 (k_X8_feed 1 22 rfl)
theorem dX8_feed_87 : decode cX8_feed 87 = .ok (.bipush 24, 2) := dz_16 (k_X8_feed 1 23 rfl) (k_X8_feed 1 24 rfl) rfl
theorem dX8_feed_89 : decode cX8_feed 89 = .ok (.bipush 8, 2) := dz_16 (k_X8_feed 1 25 rfl) (k_X8_feed 1 26 rfl) rfl
theorem dX8_feed_91 : decode cX8_feed 91 = .ok (.iload 6, 2) := dz_21 (k_X8_feed 1 27 rfl) (k_X8_feed 1 28 rfl)
theorem dX8_feed_93 : decode cX8_feed 93 = .ok (.iconst 4, 1) := dz_7 (k_X8_feed 1 29 rfl)
theorem dX8_feed_94 : decode cX8_feed 94 = .ok (.irem, 1) := dz_112 (k_X8_feed 1 30 rfl)
theorem dX8_feed_95 : decode cX8_feed 95 = .ok (.imul, 1) := dz_104 (k_X8_feed 1 31 rfl)
theorem dX8_feed_96 : decode cX8_feed 96 = .ok (.isub, 1) := dz_100 (k_X8_feed 1 32 rfl)
theorem dX8_feed_97 : decode cX8_feed 97 = .ok (.ishr, 1) := dz_122 (k_X8_feed 1 33 rfl)
theorem dX8_feed_98 : decode cX8_feed 98 = .ok (.i2b, 1) := dz_145 (k_X8_feed 1 34 rfl)
theorem dX8_feed_99 : decode cX8_feed 99 = .ok (.bastore, 1) := dz_84 (k_X8_feed 1 35 rfl)
theorem dX8_feed_100 : decode cX8_feed 100 = .ok (.iinc 6 1, 3) := dz_132 (k_X8_feed 1 36 rfl) (k_X8_feed 1 37 rfl) (k_X8_feed 1 38 rfl) rfl
theorem dX8_feed_103 : decode cX8_feed 103 = .ok (.goto (-43), 3) := dz_167 (k_X8_feed 1 39 rfl) (k_X8_feed 1 40 rfl) (k_X8_feed 1 41 rfl) rfl
theorem dX8_feed_106 : decode cX8_feed 106 = .ok (.aload_n 0, 1) := dz_42 (k_X8_feed 1 42 rfl)
theorem dX8_feed_107 : decode cX8_feed 107 = .ok (.dup, 1) := dz_89 (k_X8_feed 1 43 rfl)
theorem dX8_feed_108 : decode cX8_feed 108 = .ok (.getfield 145, 3) := dz_180 (k_X8_feed 1 44 rfl) (k_X8_feed 1 45 rfl) (k_X8_feed 1 46 rfl) rfl
theorem dX8_feed_111 : decode cX8_feed 111 = .ok (.bipush 20, 2) := dz_16 (k_X8_feed 1 47 rfl) (k_X8_feed 1 48 rfl) rfl
theorem dX8_feed_113 : decode cX8_feed 113 = .ok (.iadd, 1) := dz_96 (k_X8_feed 1 49 rfl)
theorem dX8_feed_114 : decode cX8_feed 114 = .ok (.putfield 145, 3) := dz_181 (k_X8_feed 1 50 rfl) (k_X8_feed 1 51 rfl) (k_X8_feed 1 52 rfl) rfl
theorem dX8_feed_117 : decode cX8_feed 117 = .ok (.aload_n 0, 1) := dz_42 (k_X8_feed 1 53 rfl)
theorem dX8_feed_118 : decode cX8_feed 118 = .ok (.getfield 145, 3) := dz_180 (k_X8_feed 1 54 rfl) (k_X8_feed 1 55 rfl) (k_X8_feed 1 56 rfl) rfl
theorem dX8_feed_121 : decode cX8_feed 121 = .ok (.ireturn, 1) := dz_172 (k_X8_feed 1 57 rfl)
def B_X8_fills : List (List Nat) := [[3, 60, 27, 42, 182, 0, 103, 162, 0, 72, 42, 180, 0, 20, 27, 42, 180, 0, 13, 16, 62, 16, 41, 27, 104, 96, 46, 79, 3, 61, 28, 42, 180, 0, 20, 27, 46, 162, 0, 36, 42, 180, 0, 23, 16, 40, 27, 104, 28, 96, 42, 180, 0, 13, 16, 62, 16, 41, 27, 104, 96, 4, 96, 28], [96, 46, 79, 132, 2, 1, 167, 255, 216, 132, 1, 1, 167, 255, 182, 177]]
theorem k_X8_fills (j i : Nat) {b : Nat} (h : (B_X8_fills[j]?.bind fun c => c[i]?) = some b) : s_by cX8_fills (64 * j + i) b := s_byC (L := B_X8_fills) (by decide +kernel) (by decide +kernel) j i h
theorem dX8_fills_0 : decode cX8_fills 0 = .ok (.iconst 0, 1) := dz_3 (k_X8_fills 0 0 rfl)
theorem dX8_fills_1 : decode cX8_fills 1 = .ok (.istore_n 1, 1) := dz_60 (k_X8_fills 0 1 rfl)
theorem dX8_fills_2 : decode cX8_fills 2 = .ok (.iload_n 1, 1) := dz_27 (k_X8_fills 0 2 rfl)
theorem dX8_fills_3 : decode cX8_fills 3 = .ok (.aload_n 0, 1) := dz_42 (k_X8_fills 0 3 rfl)
theorem dX8_fills_4 : decode cX8_fills 4 = .ok (.invokevirtual 103, 3) := dz_182 (k_X8_fills 0 4 rfl) (k_X8_fills 0 5 rfl) (k_X8_fills 0 6 rfl) rfl
theorem dX8_fills_7 : decode cX8_fills 7 = .ok (.if_icmp .ge 72, 3) := dz_162 (k_X8_fills 0 7 rfl) (k_X8_fills 0 8 rfl) (k_X8_fills 0 9 rfl) rfl
theorem dX8_fills_10 : decode cX8_fills 10 = .ok (.aload_n 0, 1) := dz_42 (k_X8_fills 0 10 rfl)
theorem dX8_fills_11 : decode cX8_fills 11 = .ok (.getfield 20, 3) := dz_180 (k_X8_fills 0 11 rfl) (k_X8_fills 0 12 rfl) (k_X8_fills 0 13 rfl) rfl
theorem dX8_fills_14 : decode cX8_fills 14 = .ok (.iload_n 1, 1) := dz_27 (k_X8_fills 0 14 rfl)
theorem dX8_fills_15 : decode cX8_fills 15 = .ok (.aload_n 0, 1) := dz_42 (k_X8_fills 0 15 rfl)
theorem dX8_fills_16 : decode cX8_fills 16 = .ok (.getfield 13, 3) := dz_180 (k_X8_fills 0 16 rfl) (k_X8_fills 0 17 rfl) (k_X8_fills 0 18 rfl) rfl
theorem dX8_fills_19 : decode cX8_fills 19 = .ok (.bipush 62, 2) := dz_16 (k_X8_fills 0 19 rfl) (k_X8_fills 0 20 rfl) rfl
theorem dX8_fills_21 : decode cX8_fills 21 = .ok (.bipush 41, 2) := dz_16 (k_X8_fills 0 21 rfl) (k_X8_fills 0 22 rfl) rfl
theorem dX8_fills_23 : decode cX8_fills 23 = .ok (.iload_n 1, 1) := dz_27 (k_X8_fills 0 23 rfl)
theorem dX8_fills_24 : decode cX8_fills 24 = .ok (.imul, 1) := dz_104 (k_X8_fills 0 24 rfl)
theorem dX8_fills_25 : decode cX8_fills 25 = .ok (.iadd, 1) := dz_96 (k_X8_fills 0 25 rfl)
theorem dX8_fills_26 : decode cX8_fills 26 = .ok (.iaload, 1) := dz_46 (k_X8_fills 0 26 rfl)
theorem dX8_fills_27 : decode cX8_fills 27 = .ok (.iastore, 1) := dz_79 (k_X8_fills 0 27 rfl)
theorem dX8_fills_28 : decode cX8_fills 28 = .ok (.iconst 0, 1) := dz_3 (k_X8_fills 0 28 rfl)
theorem dX8_fills_29 : decode cX8_fills 29 = .ok (.istore_n 2, 1) := dz_61 (k_X8_fills 0 29 rfl)
theorem dX8_fills_30 : decode cX8_fills 30 = .ok (.iload_n 2, 1) := dz_28 (k_X8_fills 0 30 rfl)
theorem dX8_fills_31 : decode cX8_fills 31 = .ok (.aload_n 0, 1) := dz_42 (k_X8_fills 0 31 rfl)
theorem dX8_fills_32 : decode cX8_fills 32 = .ok (.getfield 20, 3) := dz_180 (k_X8_fills 0 32 rfl) (k_X8_fills 0 33 rfl) (k_X8_fills 0 34 rfl) rfl
theorem dX8_fills_35 : decode cX8_fills 35 = .ok (.iload_n 1, 1) := dz_27 (k_X8_fills 0 35 rfl)
theorem dX8_fills_36 : decode cX8_fills 36 = .ok (.iaload, 1) := dz_46 (k_X8_fills 0 36 rfl)
theorem dX8_fills_37 : decode cX8_fills 37 = .ok (.if_icmp .ge 36, 3) := dz_162 (k_X8_fills 0 37 rfl) (k_X8_fills 0 38 rfl) (k_X8_fills 0 39 rfl) rfl
theorem dX8_fills_40 : decode cX8_fills 40 = .ok (.aload_n 0, 1) := dz_42 (k_X8_fills 0 40 rfl)
theorem dX8_fills_41 : decode cX8_fills 41 = .ok (.getfield 23, 3) := dz_180 (k_X8_fills 0 41 rfl) (k_X8_fills 0 42 rfl) (k_X8_fills 0 43 rfl) rfl
theorem dX8_fills_44 : decode cX8_fills 44 = .ok (.bipush 40, 2) := dz_16 (k_X8_fills 0 44 rfl) (k_X8_fills 0 45 rfl) rfl
theorem dX8_fills_46 : decode cX8_fills 46 = .ok (.iload_n 1, 1) := dz_27 (k_X8_fills 0 46 rfl)
theorem dX8_fills_47 : decode cX8_fills 47 = .ok (.imul, 1) := dz_104 (k_X8_fills 0 47 rfl)
theorem dX8_fills_48 : decode cX8_fills 48 = .ok (.iload_n 2, 1) := dz_28 (k_X8_fills 0 48 rfl)
theorem dX8_fills_49 : decode cX8_fills 49 = .ok (.iadd, 1) := dz_96 (k_X8_fills 0 49 rfl)
theorem dX8_fills_50 : decode cX8_fills 50 = .ok (.aload_n 0, 1) := dz_42 (k_X8_fills 0 50 rfl)
theorem dX8_fills_51 : decode cX8_fills 51 = .ok (.getfield 13, 3) := dz_180 (k_X8_fills 0 51 rfl) (k_X8_fills 0 52 rfl) (k_X8_fills 0 53 rfl) rfl
theorem dX8_fills_54 : decode cX8_fills 54 = .ok (.bipush 62, 2) := dz_16 (k_X8_fills 0 54 rfl) (k_X8_fills 0 55 rfl) rfl
theorem dX8_fills_56 : decode cX8_fills 56 = .ok (.bipush 41, 2) := dz_16 (k_X8_fills 0 56 rfl) (k_X8_fills 0 57 rfl) rfl
theorem dX8_fills_58 : decode cX8_fills 58 = .ok (.iload_n 1, 1) := dz_27 (k_X8_fills 0 58 rfl)
theorem dX8_fills_59 : decode cX8_fills 59 = .ok (.imul, 1) := dz_104 (k_X8_fills 0 59 rfl)
theorem dX8_fills_60 : decode cX8_fills 60 = .ok (.iadd, 1) := dz_96 (k_X8_fills 0 60 rfl)
theorem dX8_fills_61 : decode cX8_fills 61 = .ok (.iconst 1, 1) := dz_4 (k_X8_fills 0 61 rfl)
theorem dX8_fills_62 : decode cX8_fills 62 = .ok (.iadd, 1) := dz_96 (k_X8_fills 0 62 rfl)
theorem dX8_fills_63 : decode cX8_fills 63 = .ok (.iload_n 2, 1) := dz_28 (k_X8_fills 0 63 rfl)
theorem dX8_fills_64 : decode cX8_fills 64 = .ok (.iadd, 1) := dz_96 (k_X8_fills 1 0 rfl)
theorem dX8_fills_65 : decode cX8_fills 65 = .ok (.iaload, 1) := dz_46 (k_X8_fills 1 1 rfl)
theorem dX8_fills_66 : decode cX8_fills 66 = .ok (.iastore, 1) := dz_79 (k_X8_fills 1 2 rfl)
theorem dX8_fills_67 : decode cX8_fills 67 = .ok (.iinc 2 1, 3) := dz_132 (k_X8_fills 1 3 rfl) (k_X8_fills 1 4 rfl) (k_X8_fills 1 5 rfl) rfl
theorem dX8_fills_70 : decode cX8_fills 70 = .ok (.goto (-40), 3) := dz_167 (k_X8_fills 1 6 rfl) (k_X8_fills 1 7 rfl) (k_X8_fills 1 8 rfl) rfl
theorem dX8_fills_73 : decode cX8_fills 73 = .ok (.iinc 1 1, 3) := dz_132 (k_X8_fills 1 9 rfl) (k_X8_fills 1 10 rfl) (k_X8_fills 1 11 rfl) rfl
theorem dX8_fills_76 : decode cX8_fills 76 = .ok (.goto (-74), 3) := dz_167 (k_X8_fills 1 12 rfl) (k_X8_fills 1 13 rfl) (k_X8_fills 1 14 rfl) rfl
theorem dX8_fills_79 : decode cX8_fills 79 = .ok (.return_, 1) := dz_177 (k_X8_fills 1 15 rfl)
def B_X8_follows : List (List Nat) := [[42, 3, 181, 0, 3, 42, 27, 184, 0, 249, 154, 0, 11, 42, 28, 182, 0, 231, 153, 0, 7, 4, 167, 0, 4, 3, 4, 182, 0, 224, 154, 0, 20, 42, 42, 27, 182, 0, 252, 28, 182, 1, 69, 156, 0, 7, 4, 167, 0, 4, 3, 172]]
theorem k_X8_follows (j i : Nat) {b : Nat} (h : (B_X8_follows[j]?.bind fun c => c[i]?) = some b) : s_by cX8_follows (64 * j + i) b := s_byC (L := B_X8_follows) (by decide +kernel) (by decide +kernel) j i h
theorem dX8_follows_0 : decode cX8_follows 0 = .ok (.aload_n 0, 1) := dz_42 (k_X8_follows 0 0 rfl)
theorem dX8_follows_1 : decode cX8_follows 1 = .ok (.iconst 0, 1) := dz_3 (k_X8_follows 0 1 rfl)
theorem dX8_follows_2 : decode cX8_follows 2 = .ok (.putfield 3, 3) := dz_181 (k_X8_follows 0 2 rfl) (k_X8_follows 0 3 rfl) (k_X8_follows 0 4 rfl) rfl
theorem dX8_follows_5 : decode cX8_follows 5 = .ok (.aload_n 0, 1) := dz_42 (k_X8_follows 0 5 rfl)
theorem dX8_follows_6 : decode cX8_follows 6 = .ok (.iload_n 1, 1) := dz_27 (k_X8_follows 0 6 rfl)
theorem dX8_follows_7 : decode cX8_follows 7 = .ok (.invokestatic 249, 3) := dz_184 (k_X8_follows 0 7 rfl) (k_X8_follows 0 8 rfl) (k_X8_follows 0 9 rfl) rfl
theorem dX8_follows_10 : decode cX8_follows 10 = .ok (.ifCond .ne 11, 3) := dz_154 (k_X8_follows 0 10 rfl) (k_X8_follows 0 11 rfl) (k_X8_follows 0 12 rfl) rfl
theorem dX8_follows_13 : decode cX8_follows 13 = .ok (.aload_n 0, 1) := dz_42 (k_X8_follows 0 13 rfl)
theorem dX8_follows_14 : decode cX8_follows 14 = .ok (.iload_n 2, 1) := dz_28 (k_X8_follows 0 14 rfl)
theorem dX8_follows_15 : decode cX8_follows 15 = .ok (.invokevirtual 231, 3) := dz_182 (k_X8_follows 0 15 rfl) (k_X8_follows 0 16 rfl) (k_X8_follows 0 17 rfl) rfl
theorem dX8_follows_18 : decode cX8_follows 18 = .ok (.ifCond .eq 7, 3) := dz_153 (k_X8_follows 0 18 rfl) (k_X8_follows 0 19 rfl) (k_X8_follows 0 20 rfl) rfl
theorem dX8_follows_21 : decode cX8_follows 21 = .ok (.iconst 1, 1) := dz_4 (k_X8_follows 0 21 rfl)
theorem dX8_follows_22 : decode cX8_follows 22 = .ok (.goto 4, 3) := dz_167 (k_X8_follows 0 22 rfl) (k_X8_follows 0 23 rfl) (k_X8_follows 0 24 rfl) rfl
theorem dX8_follows_25 : decode cX8_follows 25 = .ok (.iconst 0, 1) := dz_3 (k_X8_follows 0 25 rfl)
theorem dX8_follows_26 : decode cX8_follows 26 = .ok (.iconst 1, 1) := dz_4 (k_X8_follows 0 26 rfl)
theorem dX8_follows_27 : decode cX8_follows 27 = .ok (.invokevirtual 224, 3) := dz_182 (k_X8_follows 0 27 rfl) (k_X8_follows 0 28 rfl) (k_X8_follows 0 29 rfl) rfl
theorem dX8_follows_30 : decode cX8_follows 30 = .ok (.ifCond .ne 20, 3) := dz_154 (k_X8_follows 0 30 rfl) (k_X8_follows 0 31 rfl) (k_X8_follows 0 32 rfl) rfl
theorem dX8_follows_33 : decode cX8_follows 33 = .ok (.aload_n 0, 1) := dz_42 (k_X8_follows 0 33 rfl)
theorem dX8_follows_34 : decode cX8_follows 34 = .ok (.aload_n 0, 1) := dz_42 (k_X8_follows 0 34 rfl)
theorem dX8_follows_35 : decode cX8_follows 35 = .ok (.iload_n 1, 1) := dz_27 (k_X8_follows 0 35 rfl)
theorem dX8_follows_36 : decode cX8_follows 36 = .ok (.invokevirtual 252, 3) := dz_182 (k_X8_follows 0 36 rfl) (k_X8_follows 0 37 rfl) (k_X8_follows 0 38 rfl) rfl
theorem dX8_follows_39 : decode cX8_follows 39 = .ok (.iload_n 2, 1) := dz_28 (k_X8_follows 0 39 rfl)
theorem dX8_follows_40 : decode cX8_follows 40 = .ok (.invokevirtual 325, 3) := dz_182 (k_X8_follows 0 40 rfl) (k_X8_follows 0 41 rfl) (k_X8_follows 0 42 rfl) rfl
theorem dX8_follows_43 : decode cX8_follows 43 = .ok (.ifCond .ge 7, 3) := dz_156 (k_X8_follows 0 43 rfl) (k_X8_follows 0 44 rfl) (k_X8_follows 0 45 rfl) rfl
theorem dX8_follows_46 : decode cX8_follows 46 = .ok (.iconst 1, 1) := dz_4 (k_X8_follows 0 46 rfl)
theorem dX8_follows_47 : decode cX8_follows 47 = .ok (.goto 4, 3) := dz_167 (k_X8_follows 0 47 rfl) (k_X8_follows 0 48 rfl) (k_X8_follows 0 49 rfl) rfl
theorem dX8_follows_50 : decode cX8_follows 50 = .ok (.iconst 0, 1) := dz_3 (k_X8_follows 0 50 rfl)
theorem dX8_follows_51 : decode cX8_follows 51 = .ok (.ireturn, 1) := dz_172 (k_X8_follows 0 51 rfl)
def B_X8_formula : List (List Nat) := [[42, 3, 181, 0, 3, 42, 42, 180, 0, 145, 181, 0, 151, 42, 3, 181, 0, 145, 42, 3, 181, 0, 148, 42, 3, 181, 0, 179, 42, 3, 181, 0, 172, 42, 3, 181, 0, 185, 42, 180, 0, 20, 16, 70, 3, 79, 42, 182, 0, 197, 60, 27, 153, 0, 24, 42, 182, 0, 161, 42, 180, 0, 148, 42], [180, 0, 151, 160, 0, 7, 4, 167, 0, 4, 3, 60, 42, 27, 153, 0, 7, 2, 167, 0, 7, 42, 180, 0, 158, 181, 0, 30, 42, 27, 154, 0, 7, 4, 167, 0, 4, 3, 4, 182, 0, 224, 154, 0, 25, 42, 42, 182, 0, 103, 16, 30, 160, 0, 7, 4, 167, 0, 4, 3, 5, 182, 0, 224], [153, 0, 5, 3, 172, 42, 182, 0, 103, 61, 42, 180, 0, 13, 16, 62, 16, 41, 28, 104, 96, 42, 180, 0, 20, 16, 70, 46, 79, 3, 62, 29, 42, 180, 0, 20, 16, 70, 46, 162, 0, 32, 42, 180, 0, 13, 16, 62, 16, 41, 28, 104, 96, 4, 96, 29, 96, 42, 16, 70, 29, 182, 0, 114], [79, 132, 3, 1, 167, 255, 219, 42, 180, 0, 13, 4, 92, 46, 4, 96, 79, 42, 182, 0, 100, 28, 172]]
theorem k_X8_formula (j i : Nat) {b : Nat} (h : (B_X8_formula[j]?.bind fun c => c[i]?) = some b) : s_by cX8_formula (64 * j + i) b := s_byC (L := B_X8_formula) (by decide +kernel) (by decide +kernel) j i h
theorem dX8_formula_0 : decode cX8_formula 0 = .ok (.aload_n 0, 1) := dz_42 (k_X8_formula 0 0 rfl)
theorem dX8_formula_1 : decode cX8_formula 1 = .ok (.iconst 0, 1) := dz_3 (k_X8_formula 0 1 rfl)
theorem dX8_formula_2 : decode cX8_formula 2 = .ok (.putfield 3, 3) := dz_181 (k_X8_formula 0 2 rfl) (k_X8_formula 0 3 rfl) (k_X8_formula 0 4 rfl) rfl
theorem dX8_formula_5 : decode cX8_formula 5 = .ok (.aload_n 0, 1) := dz_42 (k_X8_formula 0 5 rfl)
theorem dX8_formula_6 : decode cX8_formula 6 = .ok (.aload_n 0, 1) := dz_42 (k_X8_formula 0 6 rfl)
theorem dX8_formula_7 : decode cX8_formula 7 = .ok (.getfield 145, 3) := dz_180 (k_X8_formula 0 7 rfl) (k_X8_formula 0 8 rfl) (k_X8_formula 0 9 rfl) rfl
theorem dX8_formula_10 : decode cX8_formula 10 = .ok (.putfield 151, 3) := dz_181 (k_X8_formula 0 10 rfl) (k_X8_formula 0 11 rfl) (k_X8_formula 0 12 rfl) rfl
theorem dX8_formula_13 : decode cX8_formula 13 = .ok (.aload_n 0, 1) := dz_42 (k_X8_formula 0 13 rfl)
theorem dX8_formula_14 : decode cX8_formula 14 = .ok (.iconst 0, 1) := dz_3 (k_X8_formula 0 14 rfl)
theorem dX8_formula_15 : decode cX8_formula 15 = .ok (.putfield 145, 3) := dz_181 (k_X8_formula 0 15 rfl) (k_X8_formula 0 16 rfl) (k_X8_formula 0 17 rfl) rfl
theorem dX8_formula_18 : decode cX8_formula 18 = .ok (.aload_n 0, 1) := dz_42 (k_X8_formula 0 18 rfl)
theorem dX8_formula_19 : decode cX8_formula 19 = .ok (.iconst 0, 1) := dz_3 (k_X8_formula 0 19 rfl)
theorem dX8_formula_20 : decode cX8_formula 20 = .ok (.putfield 148, 3) := dz_181 (k_X8_formula 0 20 rfl) (k_X8_formula 0 21 rfl) (k_X8_formula 0 22 rfl) rfl
theorem dX8_formula_23 : decode cX8_formula 23 = .ok (.aload_n 0, 1) := dz_42 (k_X8_formula 0 23 rfl)
theorem dX8_formula_24 : decode cX8_formula 24 = .ok (.iconst 0, 1) := dz_3 (k_X8_formula 0 24 rfl)
theorem dX8_formula_25 : decode cX8_formula 25 = .ok (.putfield 179, 3) := dz_181 (k_X8_formula 0 25 rfl) (k_X8_formula 0 26 rfl) (k_X8_formula 0 27 rfl) rfl
theorem dX8_formula_28 : decode cX8_formula 28 = .ok (.aload_n 0, 1) := dz_42 (k_X8_formula 0 28 rfl)
theorem dX8_formula_29 : decode cX8_formula 29 = .ok (.iconst 0, 1) := dz_3 (k_X8_formula 0 29 rfl)
theorem dX8_formula_30 : decode cX8_formula 30 = .ok (.putfield 172, 3) := dz_181 (k_X8_formula 0 30 rfl) (k_X8_formula 0 31 rfl) (k_X8_formula 0 32 rfl) rfl
theorem dX8_formula_33 : decode cX8_formula 33 = .ok (.aload_n 0, 1) := dz_42 (k_X8_formula 0 33 rfl)
theorem dX8_formula_34 : decode cX8_formula 34 = .ok (.iconst 0, 1) := dz_3 (k_X8_formula 0 34 rfl)
theorem dX8_formula_35 : decode cX8_formula 35 = .ok (.putfield 185, 3) := dz_181 (k_X8_formula 0 35 rfl) (k_X8_formula 0 36 rfl) (k_X8_formula 0 37 rfl) rfl
theorem dX8_formula_38 : decode cX8_formula 38 = .ok (.aload_n 0, 1) := dz_42 (k_X8_formula 0 38 rfl)
theorem dX8_formula_39 : decode cX8_formula 39 = .ok (.getfield 20, 3) := dz_180 (k_X8_formula 0 39 rfl) (k_X8_formula 0 40 rfl) (k_X8_formula 0 41 rfl) rfl
theorem dX8_formula_42 : decode cX8_formula 42 = .ok (.bipush 70, 2) := dz_16 (k_X8_formula 0 42 rfl) (k_X8_formula 0 43 rfl) rfl
theorem dX8_formula_44 : decode cX8_formula 44 = .ok (.iconst 0, 1) := dz_3 (k_X8_formula 0 44 rfl)
theorem dX8_formula_45 : decode cX8_formula 45 = .ok (.iastore, 1) := dz_79 (k_X8_formula 0 45 rfl)
theorem dX8_formula_46 : decode cX8_formula 46 = .ok (.aload_n 0, 1) := dz_42 (k_X8_formula 0 46 rfl)
theorem dX8_formula_47 : decode cX8_formula 47 = .ok (.invokevirtual 197, 3) := dz_182 (k_X8_formula 0 47 rfl) (k_X8_formula 0 48 rfl) (k_X8_formula 0 49 rfl) rfl
theorem dX8_formula_50 : decode cX8_formula 50 = .ok (.istore_n 1, 1) := dz_60 (k_X8_formula 0 50 rfl)
theorem dX8_formula_51 : decode cX8_formula 51 = .ok (.iload_n 1, 1) := dz_27 (k_X8_formula 0 51 rfl)
theorem dX8_formula_52 : decode cX8_formula 52 = .ok (.ifCond .eq 24, 3) := dz_153 (k_X8_formula 0 52 rfl) (k_X8_formula 0 53 rfl) (k_X8_formula 0 54 rfl) rfl
theorem dX8_formula_55 : decode cX8_formula 55 = .ok (.aload_n 0, 1) := dz_42 (k_X8_formula 0 55 rfl)
theorem dX8_formula_56 : decode cX8_formula 56 = .ok (.invokevirtual 161, 3) := dz_182 (k_X8_formula 0 56 rfl) (k_X8_formula 0 57 rfl) (k_X8_formula 0 58 rfl) rfl
theorem dX8_formula_59 : decode cX8_formula 59 = .ok (.aload_n 0, 1) := dz_42 (k_X8_formula 0 59 rfl)
theorem dX8_formula_60 : decode cX8_formula 60 = .ok (.getfield 148, 3) := dz_180 (k_X8_formula 0 60 rfl) (k_X8_formula 0 61 rfl) (k_X8_formula 0 62 rfl) rfl
theorem dX8_formula_63 : decode cX8_formula 63 = .ok (.aload_n 0, 1) := dz_42 (k_X8_formula 0 63 rfl)
theorem dX8_formula_64 : decode cX8_formula 64 = .ok (.getfield 151, 3) := dz_180 (k_X8_formula 1 0 rfl) (k_X8_formula 1 1 rfl) (k_X8_formula 1 2 rfl) rfl
theorem dX8_formula_67 : decode cX8_formula 67 = .ok (.if_icmp .ne 7, 3) := dz_160 (k_X8_formula 1 3 rfl) (k_X8_formula 1 4 rfl) (k_X8_formula 1 5 rfl) rfl
theorem dX8_formula_70 : decode cX8_formula 70 = .ok (.iconst 1, 1) := dz_4 (k_X8_formula 1 6 rfl)
theorem dX8_formula_71 : decode cX8_formula 71 = .ok (.goto 4, 3) := dz_167 (k_X8_formula 1 7 rfl) (k_X8_formula 1 8 rfl) (k_X8_formula 1 9 rfl) rfl
theorem dX8_formula_74 : decode cX8_formula 74 = .ok (.iconst 0, 1) := dz_3 (k_X8_formula 1 10 rfl)
theorem dX8_formula_75 : decode cX8_formula 75 = .ok (.istore_n 1, 1) := dz_60 (k_X8_formula 1 11 rfl)
theorem dX8_formula_76 : decode cX8_formula 76 = .ok (.aload_n 0, 1) := dz_42 (k_X8_formula 1 12 rfl)
theorem dX8_formula_77 : decode cX8_formula 77 = .ok (.iload_n 1, 1) := dz_27 (k_X8_formula 1 13 rfl)
theorem dX8_formula_78 : decode cX8_formula 78 = .ok (.ifCond .eq 7, 3) := dz_153 (k_X8_formula 1 14 rfl) (k_X8_formula 1 15 rfl) (k_X8_formula 1 16 rfl) rfl
theorem dX8_formula_81 : decode cX8_formula 81 = .ok (.iconst (-1), 1) := dz_2 (k_X8_formula 1 17 rfl)
theorem dX8_formula_82 : decode cX8_formula 82 = .ok (.goto 7, 3) := dz_167 (k_X8_formula 1 18 rfl) (k_X8_formula 1 19 rfl) (k_X8_formula 1 20 rfl) rfl
theorem dX8_formula_85 : decode cX8_formula 85 = .ok (.aload_n 0, 1) := dz_42 (k_X8_formula 1 21 rfl)
theorem dX8_formula_86 : decode cX8_formula 86 = .ok (.getfield 158, 3) := dz_180 (k_X8_formula 1 22 rfl) (k_X8_formula 1 23 rfl) (k_X8_formula 1 24 rfl) rfl
theorem dX8_formula_89 : decode cX8_formula 89 = .ok (.putfield 30, 3) := dz_181 (k_X8_formula 1 25 rfl) (k_X8_formula 1 26 rfl) (k_X8_formula 1 27 rfl) rfl
theorem dX8_formula_92 : decode cX8_formula 92 = .ok (.aload_n 0, 1) := dz_42 (k_X8_formula 1 28 rfl)
theorem dX8_formula_93 : decode cX8_formula 93 = .ok (.iload_n 1, 1) := dz_27 (k_X8_formula 1 29 rfl)
theorem dX8_formula_94 : decode cX8_formula 94 = .ok (.ifCond .ne 7, 3) := dz_154 (k_X8_formula 1 30 rfl) (k_X8_formula 1 31 rfl) (k_X8_formula 1 32 rfl) rfl
theorem dX8_formula_97 : decode cX8_formula 97 = .ok (.iconst 1, 1) := dz_4 (k_X8_formula 1 33 rfl)
theorem dX8_formula_98 : decode cX8_formula 98 = .ok (.goto 4, 3) := dz_167 (k_X8_formula 1 34 rfl) (k_X8_formula 1 35 rfl) (k_X8_formula 1 36 rfl) rfl
theorem dX8_formula_101 : decode cX8_formula 101 = .ok (.iconst 0, 1) := dz_3 (k_X8_formula 1 37 rfl)
theorem dX8_formula_102 : decode cX8_formula 102 = .ok (.iconst 1, 1) := dz_4 (k_X8_formula 1 38 rfl)
theorem dX8_formula_103 : decode cX8_formula 103 = .ok (.invokevirtual 224, 3) := dz_182 (k_X8_formula 1 39 rfl) (k_X8_formula 1 40 rfl) (k_X8_formula 1 41 rfl) rfl
theorem dX8_formula_106 : decode cX8_formula 106 = .ok (.ifCond .ne 25, 3) := dz_154 (k_X8_formula 1 42 rfl) (k_X8_formula 1 43 rfl) (k_X8_formula 1 44 rfl) rfl
theorem dX8_formula_109 : decode cX8_formula 109 = .ok (.aload_n 0, 1) := dz_42 (k_X8_formula 1 45 rfl)
theorem dX8_formula_110 : decode cX8_formula 110 = .ok (.aload_n 0, 1) := dz_42 (k_X8_formula 1 46 rfl)
theorem dX8_formula_111 : decode cX8_formula 111 = .ok (.invokevirtual 103, 3) := dz_182 (k_X8_formula 1 47 rfl) (k_X8_formula 1 48 rfl) (k_X8_formula 1 49 rfl) rfl
theorem dX8_formula_114 : decode cX8_formula 114 = .ok (.bipush 30, 2) := dz_16 (k_X8_formula 1 50 rfl) (k_X8_formula 1 51 rfl) rfl
theorem dX8_formula_116 : decode cX8_formula 116 = .ok (.if_icmp .ne 7, 3) := dz_160 (k_X8_formula 1 52 rfl) (k_X8_formula 1 53 rfl) (k_X8_formula 1 54 rfl) rfl
theorem dX8_formula_119 : decode cX8_formula 119 = .ok (.iconst 1, 1) := dz_4 (k_X8_formula 1 55 rfl)
theorem dX8_formula_120 : decode cX8_formula 120 = .ok (.goto 4, 3) := dz_167 (k_X8_formula 1 56 rfl) (k_X8_formula 1 57 rfl) (k_X8_formula 1 58 rfl) rfl
theorem dX8_formula_123 : decode cX8_formula 123 = .ok (.iconst 0, 1) := dz_3 (k_X8_formula 1 59 rfl)
theorem dX8_formula_124 : decode cX8_formula 124 = .ok (.iconst 2, 1) := dz_5 (k_X8_formula 1 60 rfl)
theorem dX8_formula_125 : decode cX8_formula 125 = .ok (.invokevirtual 224, 3) := dz_182 (k_X8_formula 1 61 rfl) (k_X8_formula 1 62 rfl) (k_X8_formula 1 63 rfl) rfl
theorem dX8_formula_128 : decode cX8_formula 128 = .ok (.ifCond .eq 5, 3) := dz_153 (k_X8_formula 2 0 rfl) (k_X8_formula 2 1 rfl) (k_X8_formula 2 2 rfl) rfl
theorem dX8_formula_131 : decode cX8_formula 131 = .ok (.iconst 0, 1) := dz_3 (k_X8_formula 2 3 rfl)
theorem dX8_formula_132 : decode cX8_formula 132 = .ok (.ireturn, 1) := dz_172 (k_X8_formula 2 4 rfl)
theorem dX8_formula_133 : decode cX8_formula 133 = .ok (.aload_n 0, 1) := dz_42 (k_X8_formula 2 5 rfl)
theorem dX8_formula_134 : decode cX8_formula 134 = .ok (.invokevirtual 103, 3) := dz_182 (k_X8_formula 2 6 rfl) (k_X8_formula 2 7 rfl) (k_X8_formula 2 8 rfl) rfl
theorem dX8_formula_137 : decode cX8_formula 137 = .ok (.istore_n 2, 1) := dz_61 (k_X8_formula 2 9 rfl)
theorem dX8_formula_138 : decode cX8_formula 138 = .ok (.aload_n 0, 1) := dz_42 (k_X8_formula 2 10 rfl)
theorem dX8_formula_139 : decode cX8_formula 139 = .ok (.getfield 13, 3) := dz_180 (k_X8_formula 2 11 rfl) (k_X8_formula 2 12 rfl) (k_X8_formula 2 13 rfl) rfl
theorem dX8_formula_142 : decode cX8_formula 142 = .ok (.bipush 62, 2) := dz_16 (k_X8_formula 2 14 rfl) (k_X8_formula 2 15 rfl) rfl
theorem dX8_formula_144 : decode cX8_formula 144 = .ok (.bipush 41, 2) := dz_16 (k_X8_formula 2 16 rfl) (k_X8_formula 2 17 rfl) rfl
theorem dX8_formula_146 : decode cX8_formula 146 = .ok (.iload_n 2, 1) := dz_28 (k_X8_formula 2 18 rfl)
theorem dX8_formula_147 : decode cX8_formula 147 = .ok (.imul, 1) := dz_104 (k_X8_formula 2 19 rfl)
theorem dX8_formula_148 : decode cX8_formula 148 = .ok (.iadd, 1) := dz_96 (k_X8_formula 2 20 rfl)
theorem dX8_formula_149 : decode cX8_formula 149 = .ok (.aload_n 0, 1) := dz_42 (k_X8_formula 2 21 rfl)
theorem dX8_formula_150 : decode cX8_formula 150 = .ok (.getfield 20, 3) := dz_180 (k_X8_formula 2 22 rfl) (k_X8_formula 2 23 rfl) (k_X8_formula 2 24 rfl) rfl
theorem dX8_formula_153 : decode cX8_formula 153 = .ok (.bipush 70, 2) := dz_16 (k_X8_formula 2 25 rfl) (k_X8_formula 2 26 rfl) rfl
theorem dX8_formula_155 : decode cX8_formula 155 = .ok (.iaload, 1) := dz_46 (k_X8_formula 2 27 rfl)
theorem dX8_formula_156 : decode cX8_formula 156 = .ok (.iastore, 1) := dz_79 (k_X8_formula 2 28 rfl)
theorem dX8_formula_157 : decode cX8_formula 157 = .ok (.iconst 0, 1) := dz_3 (k_X8_formula 2 29 rfl)
theorem dX8_formula_158 : decode cX8_formula 158 = .ok (.istore_n 3, 1) := dz_62 (k_X8_formula 2 30 rfl)
theorem dX8_formula_159 : decode cX8_formula 159 = .ok (.iload_n 3, 1) := dz_29 (k_X8_formula 2 31 rfl)
theorem dX8_formula_160 : decode cX8_formula 160 = .ok (.aload_n 0, 1) := dz_42 (k_X8_formula 2 32 rfl)
theorem dX8_formula_161 : decode cX8_formula 161 = .ok (.getfield 20, 3) := dz_180 (k_X8_formula 2 33 rfl) (k_X8_formula 2 34 rfl) (k_X8_formula 2 35 rfl) rfl
theorem dX8_formula_164 : decode cX8_formula 164 = .ok (.bipush 70, 2) := dz_16 (k_X8_formula 2 36 rfl) (k_X8_formula 2 37 rfl) rfl
theorem dX8_formula_166 : decode cX8_formula 166 = .ok (.iaload, 1) := dz_46 (k_X8_formula 2 38 rfl)
theorem dX8_formula_167 : decode cX8_formula 167 = .ok (.if_icmp .ge 32, 3) := dz_162 (k_X8_formula 2 39 rfl) (k_X8_formula 2 40 rfl) (k_X8_formula 2 41 rfl) rfl
theorem dX8_formula_170 : decode cX8_formula 170 = .ok (.aload_n 0, 1) := dz_42 (k_X8_formula 2 42 rfl)
theorem dX8_formula_171 : decode cX8_formula 171 = .ok (.getfield 13, 3) := dz_180 (k_X8_formula 2 43 rfl) (k_X8_formula 2 44 rfl) (k_X8_formula 2 45 rfl) rfl
theorem dX8_formula_174 : decode cX8_formula 174 = .ok (.bipush 62, 2) := dz_16 (k_X8_formula 2 46 rfl) (k_X8_formula 2 47 rfl) rfl
theorem dX8_formula_176 : decode cX8_formula 176 = .ok (.bipush 41, 2) := dz_16 (k_X8_formula 2 48 rfl) (k_X8_formula 2 49 rfl) rfl
theorem dX8_formula_178 : decode cX8_formula 178 = .ok (.iload_n 2, 1) := dz_28 (k_X8_formula 2 50 rfl)
theorem dX8_formula_179 : decode cX8_formula 179 = .ok (.imul, 1) := dz_104 (k_X8_formula 2 51 rfl)
theorem dX8_formula_180 : decode cX8_formula 180 = .ok (.iadd, 1) := dz_96 (k_X8_formula 2 52 rfl)
theorem dX8_formula_181 : decode cX8_formula 181 = .ok (.iconst 1, 1) := dz_4 (k_X8_formula 2 53 rfl)
theorem dX8_formula_182 : decode cX8_formula 182 = .ok (.iadd, 1) := dz_96 (k_X8_formula 2 54 rfl)
theorem dX8_formula_183 : decode cX8_formula 183 = .ok (.iload_n 3, 1) := dz_29 (k_X8_formula 2 55 rfl)
theorem dX8_formula_184 : decode cX8_formula 184 = .ok (.iadd, 1) := dz_96 (k_X8_formula 2 56 rfl)
theorem dX8_formula_185 : decode cX8_formula 185 = .ok (.aload_n 0, 1) := dz_42 (k_X8_formula 2 57 rfl)
theorem dX8_formula_186 : decode cX8_formula 186 = .ok (.bipush 70, 2) := dz_16 (k_X8_formula 2 58 rfl) (k_X8_formula 2 59 rfl) rfl
theorem dX8_formula_188 : decode cX8_formula 188 = .ok (.iload_n 3, 1) := dz_29 (k_X8_formula 2 60 rfl)
theorem dX8_formula_189 : decode cX8_formula 189 = .ok (.invokevirtual 114, 3) := dz_182 (k_X8_formula 2 61 rfl) (k_X8_formula 2 62 rfl) (k_X8_formula 2 63 rfl) rfl
theorem dX8_formula_192 : decode cX8_formula 192 = .ok (.iastore, 1) := dz_79 (k_X8_formula 3 0 rfl)
theorem dX8_formula_193 : decode cX8_formula 193 = .ok (.iinc 3 1, 3) := dz_132 (k_X8_formula 3 1 rfl) (k_X8_formula 3 2 rfl) (k_X8_formula 3 3 rfl) rfl
theorem dX8_formula_196 : decode cX8_formula 196 = .ok (.goto (-37), 3) := dz_167 (k_X8_formula 3 4 rfl) (k_X8_formula 3 5 rfl) (k_X8_formula 3 6 rfl) rfl
theorem dX8_formula_199 : decode cX8_formula 199 = .ok (.aload_n 0, 1) := dz_42 (k_X8_formula 3 7 rfl)
theorem dX8_formula_200 : decode cX8_formula 200 = .ok (.getfield 13, 3) := dz_180 (k_X8_formula 3 8 rfl) (k_X8_formula 3 9 rfl) (k_X8_formula 3 10 rfl) rfl
theorem dX8_formula_203 : decode cX8_formula 203 = .ok (.iconst 1, 1) := dz_4 (k_X8_formula 3 11 rfl)
theorem dX8_formula_204 : decode cX8_formula 204 = .ok (.dup2, 1) := dz_92 (k_X8_formula 3 12 rfl)
theorem dX8_formula_205 : decode cX8_formula 205 = .ok (.iaload, 1) := dz_46 (k_X8_formula 3 13 rfl)
theorem dX8_formula_206 : decode cX8_formula 206 = .ok (.iconst 1, 1) := dz_4 (k_X8_formula 3 14 rfl)
theorem dX8_formula_207 : decode cX8_formula 207 = .ok (.iadd, 1) := dz_96 (k_X8_formula 3 15 rfl)
theorem dX8_formula_208 : decode cX8_formula 208 = .ok (.iastore, 1) := dz_79 (k_X8_formula 3 16 rfl)
theorem dX8_formula_209 : decode cX8_formula 209 = .ok (.aload_n 0, 1) := dz_42 (k_X8_formula 3 17 rfl)
theorem dX8_formula_210 : decode cX8_formula 210 = .ok (.invokevirtual 100, 3) := dz_182 (k_X8_formula 3 18 rfl) (k_X8_formula 3 19 rfl) (k_X8_formula 3 20 rfl) rfl
theorem dX8_formula_213 : decode cX8_formula 213 = .ok (.iload_n 2, 1) := dz_28 (k_X8_formula 3 21 rfl)
theorem dX8_formula_214 : decode cX8_formula 214 = .ok (.ireturn, 1) := dz_172 (k_X8_formula 3 22 rfl)
def B_X8_formulas : List (List Nat) := [[42, 180, 0, 13, 4, 46, 172]]
theorem k_X8_formulas (j i : Nat) {b : Nat} (h : (B_X8_formulas[j]?.bind fun c => c[i]?) = some b) : s_by cX8_formulas (64 * j + i) b := s_byC (L := B_X8_formulas) (by decide +kernel) (by decide +kernel) j i h
theorem dX8_formulas_0 : decode cX8_formulas 0 = .ok (.aload_n 0, 1) := dz_42 (k_X8_formulas 0 0 rfl)
theorem dX8_formulas_1 : decode cX8_formulas 1 = .ok (.getfield 13, 3) := dz_180 (k_X8_formulas 0 1 rfl) (k_X8_formulas 0 2 rfl) (k_X8_formulas 0 3 rfl) rfl
theorem dX8_formulas_4 : decode cX8_formulas 4 = .ok (.iconst 1, 1) := dz_4 (k_X8_formulas 0 4 rfl)
theorem dX8_formulas_5 : decode cX8_formulas 5 = .ok (.iaload, 1) := dz_46 (k_X8_formulas 0 5 rfl)
theorem dX8_formulas_6 : decode cX8_formulas 6 = .ok (.ireturn, 1) := dz_172 (k_X8_formulas 0 6 rfl)
def B_X8_forward : List (List Nat) := [[42, 3, 181, 0, 3, 42, 42, 27, 28, 29, 182, 1, 163, 4, 182, 0, 224, 153, 0, 5, 3, 172, 42, 27, 28, 29, 182, 1, 166, 54, 4, 42, 27, 28, 29, 182, 1, 169, 54, 5, 21, 4, 156, 0, 7, 2, 167, 0, 21, 21, 5, 156, 0, 7, 3, 167, 0, 12, 3, 21, 4, 21, 5, 100], [184, 1, 172, 172]]
theorem k_X8_forward (j i : Nat) {b : Nat} (h : (B_X8_forward[j]?.bind fun c => c[i]?) = some b) : s_by cX8_forward (64 * j + i) b := s_byC (L := B_X8_forward) (by decide +kernel) (by decide +kernel) j i h
theorem dX8_forward_0 : decode cX8_forward 0 = .ok (.aload_n 0, 1) := dz_42 (k_X8_forward 0 0 rfl)
theorem dX8_forward_1 : decode cX8_forward 1 = .ok (.iconst 0, 1) := dz_3 (k_X8_forward 0 1 rfl)
theorem dX8_forward_2 : decode cX8_forward 2 = .ok (.putfield 3, 3) := dz_181 (k_X8_forward 0 2 rfl) (k_X8_forward 0 3 rfl) (k_X8_forward 0 4 rfl) rfl
theorem dX8_forward_5 : decode cX8_forward 5 = .ok (.aload_n 0, 1) := dz_42 (k_X8_forward 0 5 rfl)
theorem dX8_forward_6 : decode cX8_forward 6 = .ok (.aload_n 0, 1) := dz_42 (k_X8_forward 0 6 rfl)
theorem dX8_forward_7 : decode cX8_forward 7 = .ok (.iload_n 1, 1) := dz_27 (k_X8_forward 0 7 rfl)
theorem dX8_forward_8 : decode cX8_forward 8 = .ok (.iload_n 2, 1) := dz_28 (k_X8_forward 0 8 rfl)
theorem dX8_forward_9 : decode cX8_forward 9 = .ok (.iload_n 3, 1) := dz_29 (k_X8_forward 0 9 rfl)
theorem dX8_forward_10 : decode cX8_forward 10 = .ok (.invokevirtual 419, 3) := dz_182 (k_X8_forward 0 10 rfl) (k_X8_forward 0 11 rfl) (k_X8_forward 0 12 rfl) rfl
theorem dX8_forward_13 : decode cX8_forward 13 = .ok (.iconst 1, 1) := dz_4 (k_X8_forward 0 13 rfl)
theorem dX8_forward_14 : decode cX8_forward 14 = .ok (.invokevirtual 224, 3) := dz_182 (k_X8_forward 0 14 rfl) (k_X8_forward 0 15 rfl) (k_X8_forward 0 16 rfl) rfl
theorem dX8_forward_17 : decode cX8_forward 17 = .ok (.ifCond .eq 5, 3) := dz_153 (k_X8_forward 0 17 rfl) (k_X8_forward 0 18 rfl) (k_X8_forward 0 19 rfl) rfl
theorem dX8_forward_20 : decode cX8_forward 20 = .ok (.iconst 0, 1) := dz_3 (k_X8_forward 0 20 rfl)
theorem dX8_forward_21 : decode cX8_forward 21 = .ok (.ireturn, 1) := dz_172 (k_X8_forward 0 21 rfl)
theorem dX8_forward_22 : decode cX8_forward 22 = .ok (.aload_n 0, 1) := dz_42 (k_X8_forward 0 22 rfl)
theorem dX8_forward_23 : decode cX8_forward 23 = .ok (.iload_n 1, 1) := dz_27 (k_X8_forward 0 23 rfl)
theorem dX8_forward_24 : decode cX8_forward 24 = .ok (.iload_n 2, 1) := dz_28 (k_X8_forward 0 24 rfl)
theorem dX8_forward_25 : decode cX8_forward 25 = .ok (.iload_n 3, 1) := dz_29 (k_X8_forward 0 25 rfl)
theorem dX8_forward_26 : decode cX8_forward 26 = .ok (.invokevirtual 422, 3) := dz_182 (k_X8_forward 0 26 rfl) (k_X8_forward 0 27 rfl) (k_X8_forward 0 28 rfl) rfl
theorem dX8_forward_29 : decode cX8_forward 29 = .ok (.istore 4, 2) := dz_54 (k_X8_forward 0 29 rfl) (k_X8_forward 0 30 rfl)
theorem dX8_forward_31 : decode cX8_forward 31 = .ok (.aload_n 0, 1) := dz_42 (k_X8_forward 0 31 rfl)
theorem dX8_forward_32 : decode cX8_forward 32 = .ok (.iload_n 1, 1) := dz_27 (k_X8_forward 0 32 rfl)
theorem dX8_forward_33 : decode cX8_forward 33 = .ok (.iload_n 2, 1) := dz_28 (k_X8_forward 0 33 rfl)
theorem dX8_forward_34 : decode cX8_forward 34 = .ok (.iload_n 3, 1) := dz_29 (k_X8_forward 0 34 rfl)
theorem dX8_forward_35 : decode cX8_forward 35 = .ok (.invokevirtual 425, 3) := dz_182 (k_X8_forward 0 35 rfl) (k_X8_forward 0 36 rfl) (k_X8_forward 0 37 rfl) rfl
theorem dX8_forward_38 : decode cX8_forward 38 = .ok (.istore 5, 2) := dz_54 (k_X8_forward 0 38 rfl) (k_X8_forward 0 39 rfl)
theorem dX8_forward_40 : decode cX8_forward 40 = .ok (.iload 4, 2) := dz_21 (k_X8_forward 0 40 rfl) (k_X8_forward 0 41 rfl)
theorem dX8_forward_42 : decode cX8_forward 42 = .ok (.ifCond .ge 7, 3) := dz_156 (k_X8_forward 0 42 rfl) (k_X8_forward 0 43 rfl) (k_X8_forward 0 44 rfl) rfl
theorem dX8_forward_45 : decode cX8_forward 45 = .ok (.iconst (-1), 1) := dz_2 (k_X8_forward 0 45 rfl)
theorem dX8_forward_46 : decode cX8_forward 46 = .ok (.goto 21, 3) := dz_167 (k_X8_forward 0 46 rfl) (k_X8_forward 0 47 rfl) (k_X8_forward 0 48 rfl) rfl
theorem dX8_forward_49 : decode cX8_forward 49 = .ok (.iload 5, 2) := dz_21 (k_X8_forward 0 49 rfl) (k_X8_forward 0 50 rfl)
theorem dX8_forward_51 : decode cX8_forward 51 = .ok (.ifCond .ge 7, 3) := dz_156 (k_X8_forward 0 51 rfl) (k_X8_forward 0 52 rfl) (k_X8_forward 0 53 rfl) rfl
theorem dX8_forward_54 : decode cX8_forward 54 = .ok (.iconst 0, 1) := dz_3 (k_X8_forward 0 54 rfl)
theorem dX8_forward_55 : decode cX8_forward 55 = .ok (.goto 12, 3) := dz_167 (k_X8_forward 0 55 rfl) (k_X8_forward 0 56 rfl) (k_X8_forward 0 57 rfl) rfl
theorem dX8_forward_58 : decode cX8_forward 58 = .ok (.iconst 0, 1) := dz_3 (k_X8_forward 0 58 rfl)
theorem dX8_forward_59 : decode cX8_forward 59 = .ok (.iload 4, 2) := dz_21 (k_X8_forward 0 59 rfl) (k_X8_forward 0 60 rfl)
theorem dX8_forward_61 : decode cX8_forward 61 = .ok (.iload 5, 2) := dz_21 (k_X8_forward 0 61 rfl) (k_X8_forward 0 62 rfl)
theorem dX8_forward_63 : decode cX8_forward 63 = .ok (.isub, 1) := dz_100 (k_X8_forward 0 63 rfl)
theorem dX8_forward_64 : decode cX8_forward 64 = .ok (.invokestatic 428, 3) := dz_184 (k_X8_forward 1 0 rfl) (k_X8_forward 1 1 rfl) (k_X8_forward 1 2 rfl) rfl
theorem dX8_forward_67 : decode cX8_forward 67 = .ok (.ireturn, 1) := dz_172 (k_X8_forward 1 3 rfl)
def B_X8_gains : List (List Nat) := [[42, 3, 181, 0, 3, 42, 27, 184, 0, 246, 4, 182, 0, 224, 154, 0, 26, 42, 28, 3, 16, 31, 184, 0, 107, 154, 0, 7, 4, 167, 0, 4, 3, 5, 182, 0, 224, 153, 0, 5, 3, 172, 42, 182, 1, 57, 3, 62, 3, 54, 4, 21, 4, 42, 182, 1, 175, 162, 0, 79, 42, 21, 4, 182], [1, 181, 154, 0, 13, 42, 21, 4, 28, 182, 1, 193, 153, 0, 7, 3, 167, 0, 10, 42, 21, 4, 5, 182, 1, 178, 54, 5, 29, 42, 21, 4, 182, 1, 190, 27, 160, 0, 8, 21, 5, 167, 0, 23, 42, 21, 4, 4, 182, 1, 178, 7, 100, 27, 160, 0, 9, 21, 5, 116, 167, 0, 4, 3], [96, 62, 132, 4, 1, 167, 255, 174, 29, 172]]
theorem k_X8_gains (j i : Nat) {b : Nat} (h : (B_X8_gains[j]?.bind fun c => c[i]?) = some b) : s_by cX8_gains (64 * j + i) b := s_byC (L := B_X8_gains) (by decide +kernel) (by decide +kernel) j i h
theorem dX8_gains_0 : decode cX8_gains 0 = .ok (.aload_n 0, 1) := dz_42 (k_X8_gains 0 0 rfl)
theorem dX8_gains_1 : decode cX8_gains 1 = .ok (.iconst 0, 1) := dz_3 (k_X8_gains 0 1 rfl)
theorem dX8_gains_2 : decode cX8_gains 2 = .ok (.putfield 3, 3) := dz_181 (k_X8_gains 0 2 rfl) (k_X8_gains 0 3 rfl) (k_X8_gains 0 4 rfl) rfl
theorem dX8_gains_5 : decode cX8_gains 5 = .ok (.aload_n 0, 1) := dz_42 (k_X8_gains 0 5 rfl)
theorem dX8_gains_6 : decode cX8_gains 6 = .ok (.iload_n 1, 1) := dz_27 (k_X8_gains 0 6 rfl)
theorem dX8_gains_7 : decode cX8_gains 7 = .ok (.invokestatic 246, 3) := dz_184 (k_X8_gains 0 7 rfl) (k_X8_gains 0 8 rfl) (k_X8_gains 0 9 rfl) rfl
theorem dX8_gains_10 : decode cX8_gains 10 = .ok (.iconst 1, 1) := dz_4 (k_X8_gains 0 10 rfl)
theorem dX8_gains_11 : decode cX8_gains 11 = .ok (.invokevirtual 224, 3) := dz_182 (k_X8_gains 0 11 rfl) (k_X8_gains 0 12 rfl) (k_X8_gains 0 13 rfl) rfl
theorem dX8_gains_14 : decode cX8_gains 14 = .ok (.ifCond .ne 26, 3) := dz_154 (k_X8_gains 0 14 rfl) (k_X8_gains 0 15 rfl) (k_X8_gains 0 16 rfl) rfl
theorem dX8_gains_17 : decode cX8_gains 17 = .ok (.aload_n 0, 1) := dz_42 (k_X8_gains 0 17 rfl)
theorem dX8_gains_18 : decode cX8_gains 18 = .ok (.iload_n 2, 1) := dz_28 (k_X8_gains 0 18 rfl)
theorem dX8_gains_19 : decode cX8_gains 19 = .ok (.iconst 0, 1) := dz_3 (k_X8_gains 0 19 rfl)
theorem dX8_gains_20 : decode cX8_gains 20 = .ok (.bipush 31, 2) := dz_16 (k_X8_gains 0 20 rfl) (k_X8_gains 0 21 rfl) rfl
theorem dX8_gains_22 : decode cX8_gains 22 = .ok (.invokestatic 107, 3) := dz_184 (k_X8_gains 0 22 rfl) (k_X8_gains 0 23 rfl) (k_X8_gains 0 24 rfl) rfl
theorem dX8_gains_25 : decode cX8_gains 25 = .ok (.ifCond .ne 7, 3) := dz_154 (k_X8_gains 0 25 rfl) (k_X8_gains 0 26 rfl) (k_X8_gains 0 27 rfl) rfl
theorem dX8_gains_28 : decode cX8_gains 28 = .ok (.iconst 1, 1) := dz_4 (k_X8_gains 0 28 rfl)
theorem dX8_gains_29 : decode cX8_gains 29 = .ok (.goto 4, 3) := dz_167 (k_X8_gains 0 29 rfl) (k_X8_gains 0 30 rfl) (k_X8_gains 0 31 rfl) rfl
theorem dX8_gains_32 : decode cX8_gains 32 = .ok (.iconst 0, 1) := dz_3 (k_X8_gains 0 32 rfl)
theorem dX8_gains_33 : decode cX8_gains 33 = .ok (.iconst 2, 1) := dz_5 (k_X8_gains 0 33 rfl)
theorem dX8_gains_34 : decode cX8_gains 34 = .ok (.invokevirtual 224, 3) := dz_182 (k_X8_gains 0 34 rfl) (k_X8_gains 0 35 rfl) (k_X8_gains 0 36 rfl) rfl
theorem dX8_gains_37 : decode cX8_gains 37 = .ok (.ifCond .eq 5, 3) := dz_153 (k_X8_gains 0 37 rfl) (k_X8_gains 0 38 rfl) (k_X8_gains 0 39 rfl) rfl
theorem dX8_gains_40 : decode cX8_gains 40 = .ok (.iconst 0, 1) := dz_3 (k_X8_gains 0 40 rfl)
theorem dX8_gains_41 : decode cX8_gains 41 = .ok (.ireturn, 1) := dz_172 (k_X8_gains 0 41 rfl)
theorem dX8_gains_42 : decode cX8_gains 42 = .ok (.aload_n 0, 1) := dz_42 (k_X8_gains 0 42 rfl)
theorem dX8_gains_43 : decode cX8_gains 43 = .ok (.invokevirtual 313, 3) := dz_182 (k_X8_gains 0 43 rfl) (k_X8_gains 0 44 rfl) (k_X8_gains 0 45 rfl) rfl
theorem dX8_gains_46 : decode cX8_gains 46 = .ok (.iconst 0, 1) := dz_3 (k_X8_gains 0 46 rfl)
theorem dX8_gains_47 : decode cX8_gains 47 = .ok (.istore_n 3, 1) := dz_62 (k_X8_gains 0 47 rfl)
theorem dX8_gains_48 : decode cX8_gains 48 = .ok (.iconst 0, 1) := dz_3 (k_X8_gains 0 48 rfl)
theorem dX8_gains_49 : decode cX8_gains 49 = .ok (.istore 4, 2) := dz_54 (k_X8_gains 0 49 rfl) (k_X8_gains 0 50 rfl)
theorem dX8_gains_51 : decode cX8_gains 51 = .ok (.iload 4, 2) := dz_21 (k_X8_gains 0 51 rfl) (k_X8_gains 0 52 rfl)
theorem dX8_gains_53 : decode cX8_gains 53 = .ok (.aload_n 0, 1) := dz_42 (k_X8_gains 0 53 rfl)
theorem dX8_gains_54 : decode cX8_gains 54 = .ok (.invokevirtual 431, 3) := dz_182 (k_X8_gains 0 54 rfl) (k_X8_gains 0 55 rfl) (k_X8_gains 0 56 rfl) rfl
theorem dX8_gains_57 : decode cX8_gains 57 = .ok (.if_icmp .ge 79, 3) := dz_162 (k_X8_gains 0 57 rfl) (k_X8_gains 0 58 rfl) (k_X8_gains 0 59 rfl) rfl
theorem dX8_gains_60 : decode cX8_gains 60 = .ok (.aload_n 0, 1) := dz_42 (k_X8_gains 0 60 rfl)
theorem dX8_gains_61 : decode cX8_gains 61 = .ok (.iload 4, 2) := dz_21 (k_X8_gains 0 61 rfl) (k_X8_gains 0 62 rfl)
theorem dX8_gains_63 : decode cX8_gains 63 = .ok (.invokevirtual 437, 3) := dz_182 (k_X8_gains 0 63 rfl) (k_X8_gains 1 0 rfl) (k_X8_gains 1 1 rfl) rfl
theorem dX8_gains_66 : decode cX8_gains 66 = .ok (.ifCond .ne 13, 3) := dz_154 (k_X8_gains 1 2 rfl) (k_X8_gains 1 3 rfl) (k_X8_gains 1 4 rfl) rfl
theorem dX8_gains_69 : decode cX8_gains 69 = .ok (.aload_n 0, 1) := dz_42 (k_X8_gains 1 5 rfl)
theorem dX8_gains_70 : decode cX8_gains 70 = .ok (.iload 4, 2) := dz_21 (k_X8_gains 1 6 rfl) (k_X8_gains 1 7 rfl)
theorem dX8_gains_72 : decode cX8_gains 72 = .ok (.iload_n 2, 1) := dz_28 (k_X8_gains 1 8 rfl)
theorem dX8_gains_73 : decode cX8_gains 73 = .ok (.invokevirtual 449, 3) := dz_182 (k_X8_gains 1 9 rfl) (k_X8_gains 1 10 rfl) (k_X8_gains 1 11 rfl) rfl
theorem dX8_gains_76 : decode cX8_gains 76 = .ok (.ifCond .eq 7, 3) := dz_153 (k_X8_gains 1 12 rfl) (k_X8_gains 1 13 rfl) (k_X8_gains 1 14 rfl) rfl
theorem dX8_gains_79 : decode cX8_gains 79 = .ok (.iconst 0, 1) := dz_3 (k_X8_gains 1 15 rfl)
theorem dX8_gains_80 : decode cX8_gains 80 = .ok (.goto 10, 3) := dz_167 (k_X8_gains 1 16 rfl) (k_X8_gains 1 17 rfl) (k_X8_gains 1 18 rfl) rfl
theorem dX8_gains_83 : decode cX8_gains 83 = .ok (.aload_n 0, 1) := dz_42 (k_X8_gains 1 19 rfl)
theorem dX8_gains_84 : decode cX8_gains 84 = .ok (.iload 4, 2) := dz_21 (k_X8_gains 1 20 rfl) (k_X8_gains 1 21 rfl)
theorem dX8_gains_86 : decode cX8_gains 86 = .ok (.iconst 2, 1) := dz_5 (k_X8_gains 1 22 rfl)
theorem dX8_gains_87 : decode cX8_gains 87 = .ok (.invokevirtual 434, 3) := dz_182 (k_X8_gains 1 23 rfl) (k_X8_gains 1 24 rfl) (k_X8_gains 1 25 rfl) rfl
theorem dX8_gains_90 : decode cX8_gains 90 = .ok (.istore 5, 2) := dz_54 (k_X8_gains 1 26 rfl) (k_X8_gains 1 27 rfl)
theorem dX8_gains_92 : decode cX8_gains 92 = .ok (.iload_n 3, 1) := dz_29 (k_X8_gains 1 28 rfl)
theorem dX8_gains_93 : decode cX8_gains 93 = .ok (.aload_n 0, 1) := dz_42 (k_X8_gains 1 29 rfl)
theorem dX8_gains_94 : decode cX8_gains 94 = .ok (.iload 4, 2) := dz_21 (k_X8_gains 1 30 rfl) (k_X8_gains 1 31 rfl)
theorem dX8_gains_96 : decode cX8_gains 96 = .ok (.invokevirtual 446, 3) := dz_182 (k_X8_gains 1 32 rfl) (k_X8_gains 1 33 rfl) (k_X8_gains 1 34 rfl) rfl
theorem dX8_gains_99 : decode cX8_gains 99 = .ok (.iload_n 1, 1) := dz_27 (k_X8_gains 1 35 rfl)
theorem dX8_gains_100 : decode cX8_gains 100 = .ok (.if_icmp .ne 8, 3) := dz_160 (k_X8_gains 1 36 rfl) (k_X8_gains 1 37 rfl) (k_X8_gains 1 38 rfl) rfl
theorem dX8_gains_103 : decode cX8_gains 103 = .ok (.iload 5, 2) := dz_21 (k_X8_gains 1 39 rfl) (k_X8_gains 1 40 rfl)
theorem dX8_gains_105 : decode cX8_gains 105 = .ok (.goto 23, 3) := dz_167 (k_X8_gains 1 41 rfl) (k_X8_gains 1 42 rfl) (k_X8_gains 1 43 rfl) rfl
theorem dX8_gains_108 : decode cX8_gains 108 = .ok (.aload_n 0, 1) := dz_42 (k_X8_gains 1 44 rfl)
theorem dX8_gains_109 : decode cX8_gains 109 = .ok (.iload 4, 2) := dz_21 (k_X8_gains 1 45 rfl) (k_X8_gains 1 46 rfl)
theorem dX8_gains_111 : decode cX8_gains 111 = .ok (.iconst 1, 1) := dz_4 (k_X8_gains 1 47 rfl)
theorem dX8_gains_112 : decode cX8_gains 112 = .ok (.invokevirtual 434, 3) := dz_182 (k_X8_gains 1 48 rfl) (k_X8_gains 1 49 rfl) (k_X8_gains 1 50 rfl) rfl
theorem dX8_gains_115 : decode cX8_gains 115 = .ok (.iconst 4, 1) := dz_7 (k_X8_gains 1 51 rfl)
theorem dX8_gains_116 : decode cX8_gains 116 = .ok (.isub, 1) := dz_100 (k_X8_gains 1 52 rfl)
theorem dX8_gains_117 : decode cX8_gains 117 = .ok (.iload_n 1, 1) := dz_27 (k_X8_gains 1 53 rfl)
theorem dX8_gains_118 : decode cX8_gains 118 = .ok (.if_icmp .ne 9, 3) := dz_160 (k_X8_gains 1 54 rfl) (k_X8_gains 1 55 rfl) (k_X8_gains 1 56 rfl) rfl
theorem dX8_gains_121 : decode cX8_gains 121 = .ok (.iload 5, 2) := dz_21 (k_X8_gains 1 57 rfl) (k_X8_gains 1 58 rfl)
theorem dX8_gains_123 : decode cX8_gains 123 = .ok (.ineg, 1) := dz_116 (k_X8_gains 1 59 rfl)
theorem dX8_gains_124 : decode cX8_gains 124 = .ok (.goto 4, 3) := dz_167 (k_X8_gains 1 60 rfl) (k_X8_gains 1 61 rfl) (k_X8_gains 1 62 rfl) rfl
theorem dX8_gains_127 : decode cX8_gains 127 = .ok (.iconst 0, 1) := dz_3 (k_X8_gains 1 63 rfl)
theorem dX8_gains_128 : decode cX8_gains 128 = .ok (.iadd, 1) := dz_96 (k_X8_gains 2 0 rfl)
theorem dX8_gains_129 : decode cX8_gains 129 = .ok (.istore_n 3, 1) := dz_62 (k_X8_gains 2 1 rfl)
theorem dX8_gains_130 : decode cX8_gains 130 = .ok (.iinc 4 1, 3) := dz_132 (k_X8_gains 2 2 rfl) (k_X8_gains 2 3 rfl) (k_X8_gains 2 4 rfl) rfl
theorem dX8_gains_133 : decode cX8_gains 133 = .ok (.goto (-82), 3) := dz_167 (k_X8_gains 2 5 rfl) (k_X8_gains 2 6 rfl) (k_X8_gains 2 7 rfl) rfl
theorem dX8_gains_136 : decode cX8_gains 136 = .ok (.iload_n 3, 1) := dz_29 (k_X8_gains 2 8 rfl)
theorem dX8_gains_137 : decode cX8_gains 137 = .ok (.ireturn, 1) := dz_172 (k_X8_gains 2 9 rfl)
def B_X8_givenBy : List (List Nat) := [[42, 180, 0, 59, 27, 46, 16, 15, 160, 0, 37, 42, 180, 0, 62, 27, 46, 155, 0, 28, 42, 42, 180, 0, 62, 27, 46, 182, 1, 125, 155, 0, 15, 42, 42, 180, 1, 146, 4, 182, 1, 16, 154, 0, 7, 19, 1, 131, 172, 42, 42, 180, 0, 65, 27, 46, 28, 4, 42, 42, 180, 0, 62, 27], [46, 182, 1, 125, 120, 128, 182, 1, 137, 42, 42, 180, 1, 146, 4, 16, 30, 42, 180, 0, 62, 27, 46, 96, 182, 1, 3, 184, 1, 140, 172]]
theorem k_X8_givenBy (j i : Nat) {b : Nat} (h : (B_X8_givenBy[j]?.bind fun c => c[i]?) = some b) : s_by cX8_givenBy (64 * j + i) b := s_byC (L := B_X8_givenBy) (by decide +kernel) (by decide +kernel) j i h
theorem dX8_givenBy_0 : decode cX8_givenBy 0 = .ok (.aload_n 0, 1) := dz_42 (k_X8_givenBy 0 0 rfl)
theorem dX8_givenBy_1 : decode cX8_givenBy 1 = .ok (.getfield 59, 3) := dz_180 (k_X8_givenBy 0 1 rfl) (k_X8_givenBy 0 2 rfl) (k_X8_givenBy 0 3 rfl) rfl
theorem dX8_givenBy_4 : decode cX8_givenBy 4 = .ok (.iload_n 1, 1) := dz_27 (k_X8_givenBy 0 4 rfl)
theorem dX8_givenBy_5 : decode cX8_givenBy 5 = .ok (.iaload, 1) := dz_46 (k_X8_givenBy 0 5 rfl)
theorem dX8_givenBy_6 : decode cX8_givenBy 6 = .ok (.bipush 15, 2) := dz_16 (k_X8_givenBy 0 6 rfl) (k_X8_givenBy 0 7 rfl) rfl
theorem dX8_givenBy_8 : decode cX8_givenBy 8 = .ok (.if_icmp .ne 37, 3) := dz_160 (k_X8_givenBy 0 8 rfl) (k_X8_givenBy 0 9 rfl) (k_X8_givenBy 0 10 rfl) rfl
theorem dX8_givenBy_11 : decode cX8_givenBy 11 = .ok (.aload_n 0, 1) := dz_42 (k_X8_givenBy 0 11 rfl)
theorem dX8_givenBy_12 : decode cX8_givenBy 12 = .ok (.getfield 62, 3) := dz_180 (k_X8_givenBy 0 12 rfl) (k_X8_givenBy 0 13 rfl) (k_X8_givenBy 0 14 rfl) rfl
theorem dX8_givenBy_15 : decode cX8_givenBy 15 = .ok (.iload_n 1, 1) := dz_27 (k_X8_givenBy 0 15 rfl)
theorem dX8_givenBy_16 : decode cX8_givenBy 16 = .ok (.iaload, 1) := dz_46 (k_X8_givenBy 0 16 rfl)
theorem dX8_givenBy_17 : decode cX8_givenBy 17 = .ok (.ifCond .lt 28, 3) := dz_155 (k_X8_givenBy 0 17 rfl) (k_X8_givenBy 0 18 rfl) (k_X8_givenBy 0 19 rfl) rfl
theorem dX8_givenBy_20 : decode cX8_givenBy 20 = .ok (.aload_n 0, 1) := dz_42 (k_X8_givenBy 0 20 rfl)
theorem dX8_givenBy_21 : decode cX8_givenBy 21 = .ok (.aload_n 0, 1) := dz_42 (k_X8_givenBy 0 21 rfl)
theorem dX8_givenBy_22 : decode cX8_givenBy 22 = .ok (.getfield 62, 3) := dz_180 (k_X8_givenBy 0 22 rfl) (k_X8_givenBy 0 23 rfl) (k_X8_givenBy 0 24 rfl) rfl
theorem dX8_givenBy_25 : decode cX8_givenBy 25 = .ok (.iload_n 1, 1) := dz_27 (k_X8_givenBy 0 25 rfl)
theorem dX8_givenBy_26 : decode cX8_givenBy 26 = .ok (.iaload, 1) := dz_46 (k_X8_givenBy 0 26 rfl)
theorem dX8_givenBy_27 : decode cX8_givenBy 27 = .ok (.invokevirtual 381, 3) := dz_182 (k_X8_givenBy 0 27 rfl) (k_X8_givenBy 0 28 rfl) (k_X8_givenBy 0 29 rfl) rfl
theorem dX8_givenBy_30 : decode cX8_givenBy 30 = .ok (.ifCond .lt 15, 3) := dz_155 (k_X8_givenBy 0 30 rfl) (k_X8_givenBy 0 31 rfl) (k_X8_givenBy 0 32 rfl) rfl
theorem dX8_givenBy_33 : decode cX8_givenBy 33 = .ok (.aload_n 0, 1) := dz_42 (k_X8_givenBy 0 33 rfl)
theorem dX8_givenBy_34 : decode cX8_givenBy 34 = .ok (.aload_n 0, 1) := dz_42 (k_X8_givenBy 0 34 rfl)
theorem dX8_givenBy_35 : decode cX8_givenBy 35 = .ok (.getfield 402, 3) := dz_180 (k_X8_givenBy 0 35 rfl) (k_X8_givenBy 0 36 rfl) (k_X8_givenBy 0 37 rfl) rfl
theorem dX8_givenBy_38 : decode cX8_givenBy 38 = .ok (.iconst 1, 1) := dz_4 (k_X8_givenBy 0 38 rfl)
theorem dX8_givenBy_39 : decode cX8_givenBy 39 = .ok (.invokevirtual 272, 3) := dz_182 (k_X8_givenBy 0 39 rfl) (k_X8_givenBy 0 40 rfl) (k_X8_givenBy 0 41 rfl) rfl
theorem dX8_givenBy_42 : decode cX8_givenBy 42 = .ok (.ifCond .ne 7, 3) := dz_154 (k_X8_givenBy 0 42 rfl) (k_X8_givenBy 0 43 rfl) (k_X8_givenBy 0 44 rfl) rfl
theorem dX8_givenBy_45 : decode cX8_givenBy 45 = .ok (.ldc_w 387, 3) := dz_19 (k_X8_givenBy 0 45 rfl) (k_X8_givenBy 0 46 rfl) (k_X8_givenBy 0 47 rfl) rfl
theorem dX8_givenBy_48 : decode cX8_givenBy 48 = .ok (.ireturn, 1) := dz_172 (k_X8_givenBy 0 48 rfl)
theorem dX8_givenBy_49 : decode cX8_givenBy 49 = .ok (.aload_n 0, 1) := dz_42 (k_X8_givenBy 0 49 rfl)
theorem dX8_givenBy_50 : decode cX8_givenBy 50 = .ok (.aload_n 0, 1) := dz_42 (k_X8_givenBy 0 50 rfl)
theorem dX8_givenBy_51 : decode cX8_givenBy 51 = .ok (.getfield 65, 3) := dz_180 (k_X8_givenBy 0 51 rfl) (k_X8_givenBy 0 52 rfl) (k_X8_givenBy 0 53 rfl) rfl
theorem dX8_givenBy_54 : decode cX8_givenBy 54 = .ok (.iload_n 1, 1) := dz_27 (k_X8_givenBy 0 54 rfl)
theorem dX8_givenBy_55 : decode cX8_givenBy 55 = .ok (.iaload, 1) := dz_46 (k_X8_givenBy 0 55 rfl)
theorem dX8_givenBy_56 : decode cX8_givenBy 56 = .ok (.iload_n 2, 1) := dz_28 (k_X8_givenBy 0 56 rfl)
theorem dX8_givenBy_57 : decode cX8_givenBy 57 = .ok (.iconst 1, 1) := dz_4 (k_X8_givenBy 0 57 rfl)
theorem dX8_givenBy_58 : decode cX8_givenBy 58 = .ok (.aload_n 0, 1) := dz_42 (k_X8_givenBy 0 58 rfl)
theorem dX8_givenBy_59 : decode cX8_givenBy 59 = .ok (.aload_n 0, 1) := dz_42 (k_X8_givenBy 0 59 rfl)
theorem dX8_givenBy_60 : decode cX8_givenBy 60 = .ok (.getfield 62, 3) := dz_180 (k_X8_givenBy 0 60 rfl) (k_X8_givenBy 0 61 rfl) (k_X8_givenBy 0 62 rfl) rfl
theorem dX8_givenBy_63 : decode cX8_givenBy 63 = .ok (.iload_n 1, 1) := dz_27 (k_X8_givenBy 0 63 rfl)
theorem dX8_givenBy_64 : decode cX8_givenBy 64 = .ok (.iaload, 1) := dz_46 (k_X8_givenBy 1 0 rfl)
theorem dX8_givenBy_65 : decode cX8_givenBy 65 = .ok (.invokevirtual 381, 3) := dz_182 (k_X8_givenBy 1 1 rfl) (k_X8_givenBy 1 2 rfl) (k_X8_givenBy 1 3 rfl) rfl
theorem dX8_givenBy_68 : decode cX8_givenBy 68 = .ok (.ishl, 1) := dz_120 (k_X8_givenBy 1 4 rfl)
theorem dX8_givenBy_69 : decode cX8_givenBy 69 = .ok (.ior, 1) := dz_128 (k_X8_givenBy 1 5 rfl)
theorem dX8_givenBy_70 : decode cX8_givenBy 70 = .ok (.invokevirtual 393, 3) := dz_182 (k_X8_givenBy 1 6 rfl) (k_X8_givenBy 1 7 rfl) (k_X8_givenBy 1 8 rfl) rfl
theorem dX8_givenBy_73 : decode cX8_givenBy 73 = .ok (.aload_n 0, 1) := dz_42 (k_X8_givenBy 1 9 rfl)
theorem dX8_givenBy_74 : decode cX8_givenBy 74 = .ok (.aload_n 0, 1) := dz_42 (k_X8_givenBy 1 10 rfl)
theorem dX8_givenBy_75 : decode cX8_givenBy 75 = .ok (.getfield 402, 3) := dz_180 (k_X8_givenBy 1 11 rfl) (k_X8_givenBy 1 12 rfl) (k_X8_givenBy 1 13 rfl) rfl
theorem dX8_givenBy_78 : decode cX8_givenBy 78 = .ok (.iconst 1, 1) := dz_4 (k_X8_givenBy 1 14 rfl)
theorem dX8_givenBy_79 : decode cX8_givenBy 79 = .ok (.bipush 30, 2) := dz_16 (k_X8_givenBy 1 15 rfl) (k_X8_givenBy 1 16 rfl) rfl
theorem dX8_givenBy_81 : decode cX8_givenBy 81 = .ok (.aload_n 0, 1) := dz_42 (k_X8_givenBy 1 17 rfl)
theorem dX8_givenBy_82 : decode cX8_givenBy 82 = .ok (.getfield 62, 3) := dz_180 (k_X8_givenBy 1 18 rfl) (k_X8_givenBy 1 19 rfl) (k_X8_givenBy 1 20 rfl) rfl
theorem dX8_givenBy_85 : decode cX8_givenBy 85 = .ok (.iload_n 1, 1) := dz_27 (k_X8_givenBy 1 21 rfl)
theorem dX8_givenBy_86 : decode cX8_givenBy 86 = .ok (.iaload, 1) := dz_46 (k_X8_givenBy 1 22 rfl)
theorem dX8_givenBy_87 : decode cX8_givenBy 87 = .ok (.iadd, 1) := dz_96 (k_X8_givenBy 1 23 rfl)
theorem dX8_givenBy_88 : decode cX8_givenBy 88 = .ok (.invokevirtual 259, 3) := dz_182 (k_X8_givenBy 1 24 rfl) (k_X8_givenBy 1 25 rfl) (k_X8_givenBy 1 26 rfl) rfl
theorem dX8_givenBy_91 : decode cX8_givenBy 91 = .ok (.invokestatic 396, 3) := dz_184 (k_X8_givenBy 1 27 rfl) (k_X8_givenBy 1 28 rfl) (k_X8_givenBy 1 29 rfl) rfl
theorem dX8_givenBy_94 : decode cX8_givenBy 94 = .ok (.ireturn, 1) := dz_172 (k_X8_givenBy 1 30 rfl)
def B_X8_goesThrough : List (List Nat) := [[3, 60, 27, 42, 182, 0, 111, 162, 0, 197, 42, 180, 0, 39, 27, 42, 27, 182, 1, 46, 84, 42, 180, 0, 43, 27, 42, 27, 5, 182, 1, 0, 5, 162, 0, 9, 10, 27, 121, 167, 0, 4, 9, 80, 42, 180, 0, 47, 27, 10, 27, 121, 80, 3, 61, 28, 42, 27, 182, 1, 19, 162, 0, 89], [42, 27, 28, 182, 1, 13, 62, 42, 180, 0, 39, 27, 42, 180, 0, 39, 27, 51, 153, 0, 16, 42, 180, 0, 39, 29, 51, 153, 0, 7, 4, 167, 0, 4, 3, 84, 42, 180, 0, 43, 27, 92, 47, 42, 27, 5, 182, 1, 0, 5, 162, 0, 7, 9, 167, 0, 9, 42, 180, 0, 43, 29, 47, 129], [80, 42, 180, 0, 47, 27, 92, 47, 42, 180, 0, 47, 29, 47, 129, 80, 132, 2, 1, 167, 255, 164, 42, 27, 3, 182, 1, 13, 61, 42, 27, 5, 182, 1, 0, 16, 10, 160, 0, 33, 28, 155, 0, 29, 42, 28, 5, 182, 1, 0, 4, 160, 0, 19, 42, 180, 0, 43, 27, 92, 47, 10, 28, 121], [20, 1, 49, 131, 127, 80, 132, 1, 1, 167, 255, 57, 177]]
theorem k_X8_goesThrough (j i : Nat) {b : Nat} (h : (B_X8_goesThrough[j]?.bind fun c => c[i]?) = some b) : s_by cX8_goesThrough (64 * j + i) b := s_byC (L := B_X8_goesThrough) (by decide +kernel) (by decide +kernel) j i h
theorem dX8_goesThrough_0 : decode cX8_goesThrough 0 = .ok (.iconst 0, 1) := dz_3 (k_X8_goesThrough 0 0 rfl)
theorem dX8_goesThrough_1 : decode cX8_goesThrough 1 = .ok (.istore_n 1, 1) := dz_60 (k_X8_goesThrough 0 1 rfl)
theorem dX8_goesThrough_2 : decode cX8_goesThrough 2 = .ok (.iload_n 1, 1) := dz_27 (k_X8_goesThrough 0 2 rfl)
theorem dX8_goesThrough_3 : decode cX8_goesThrough 3 = .ok (.aload_n 0, 1) := dz_42 (k_X8_goesThrough 0 3 rfl)
theorem dX8_goesThrough_4 : decode cX8_goesThrough 4 = .ok (.invokevirtual 111, 3) := dz_182 (k_X8_goesThrough 0 4 rfl) (k_X8_goesThrough 0 5 rfl) (k_X8_goesThrough 0 6 rfl) rfl
theorem dX8_goesThrough_7 : decode cX8_goesThrough 7 = .ok (.if_icmp .ge 197, 3) := dz_162 (k_X8_goesThrough 0 7 rfl) (k_X8_goesThrough 0 8 rfl) (k_X8_goesThrough 0 9 rfl) rfl
theorem dX8_goesThrough_10 : decode cX8_goesThrough 10 = .ok (.aload_n 0, 1) := dz_42 (k_X8_goesThrough 0 10 rfl)
theorem dX8_goesThrough_11 : decode cX8_goesThrough 11 = .ok (.getfield 39, 3) := dz_180 (k_X8_goesThrough 0 11 rfl) (k_X8_goesThrough 0 12 rfl) (k_X8_goesThrough 0 13 rfl) rfl
theorem dX8_goesThrough_14 : decode cX8_goesThrough 14 = .ok (.iload_n 1, 1) := dz_27 (k_X8_goesThrough 0 14 rfl)
theorem dX8_goesThrough_15 : decode cX8_goesThrough 15 = .ok (.aload_n 0, 1) := dz_42 (k_X8_goesThrough 0 15 rfl)
theorem dX8_goesThrough_16 : decode cX8_goesThrough 16 = .ok (.iload_n 1, 1) := dz_27 (k_X8_goesThrough 0 16 rfl)
theorem dX8_goesThrough_17 : decode cX8_goesThrough 17 = .ok (.invokevirtual 302, 3) := dz_182 (k_X8_goesThrough 0 17 rfl) (k_X8_goesThrough 0 18 rfl) (k_X8_goesThrough 0 19 rfl) rfl
theorem dX8_goesThrough_20 : decode cX8_goesThrough 20 = .ok (.bastore, 1) := dz_84 (k_X8_goesThrough 0 20 rfl)
theorem dX8_goesThrough_21 : decode cX8_goesThrough 21 = .ok (.aload_n 0, 1) := dz_42 (k_X8_goesThrough 0 21 rfl)
theorem dX8_goesThrough_22 : decode cX8_goesThrough 22 = .ok (.getfield 43, 3) := dz_180 (k_X8_goesThrough 0 22 rfl) (k_X8_goesThrough 0 23 rfl) (k_X8_goesThrough 0 24 rfl) rfl
theorem dX8_goesThrough_25 : decode cX8_goesThrough 25 = .ok (.iload_n 1, 1) := dz_27 (k_X8_goesThrough 0 25 rfl)
theorem dX8_goesThrough_26 : decode cX8_goesThrough 26 = .ok (.aload_n 0, 1) := dz_42 (k_X8_goesThrough 0 26 rfl)
theorem dX8_goesThrough_27 : decode cX8_goesThrough 27 = .ok (.iload_n 1, 1) := dz_27 (k_X8_goesThrough 0 27 rfl)
theorem dX8_goesThrough_28 : decode cX8_goesThrough 28 = .ok (.iconst 2, 1) := dz_5 (k_X8_goesThrough 0 28 rfl)
theorem dX8_goesThrough_29 : decode cX8_goesThrough 29 = .ok (.invokevirtual 256, 3) := dz_182 (k_X8_goesThrough 0 29 rfl) (k_X8_goesThrough 0 30 rfl) (k_X8_goesThrough 0 31 rfl) rfl
theorem dX8_goesThrough_32 : decode cX8_goesThrough 32 = .ok (.iconst 2, 1) := dz_5 (k_X8_goesThrough 0 32 rfl)
theorem dX8_goesThrough_33 : decode cX8_goesThrough 33 = .ok (.if_icmp .ge 9, 3) := dz_162 (k_X8_goesThrough 0 33 rfl) (k_X8_goesThrough 0 34 rfl) (k_X8_goesThrough 0 35 rfl) rfl
theorem dX8_goesThrough_36 : decode cX8_goesThrough 36 = .ok (.lconst 1, 1) := dz_10 (k_X8_goesThrough 0 36 rfl)
theorem dX8_goesThrough_37 : decode cX8_goesThrough 37 = .ok (.iload_n 1, 1) := dz_27 (k_X8_goesThrough 0 37 rfl)
theorem dX8_goesThrough_38 : decode cX8_goesThrough 38 = .ok (.lshl, 1) := dz_121 (k_X8_goesThrough 0 38 rfl)
theorem dX8_goesThrough_39 : decode cX8_goesThrough 39 = .ok (.goto 4, 3) := dz_167 (k_X8_goesThrough 0 39 rfl) (k_X8_goesThrough 0 40 rfl) (k_X8_goesThrough 0 41 rfl) rfl
theorem dX8_goesThrough_42 : decode cX8_goesThrough 42 = .ok (.lconst 0, 1) := dz_9 (k_X8_goesThrough 0 42 rfl)
theorem dX8_goesThrough_43 : decode cX8_goesThrough 43 = .ok (.lastore, 1) := dz_80 (k_X8_goesThrough 0 43 rfl)
theorem dX8_goesThrough_44 : decode cX8_goesThrough 44 = .ok (.aload_n 0, 1) := dz_42 (k_X8_goesThrough 0 44 rfl)
theorem dX8_goesThrough_45 : decode cX8_goesThrough 45 = .ok (.getfield 47, 3) := dz_180 (k_X8_goesThrough 0 45 rfl) (k_X8_goesThrough 0 46 rfl) (k_X8_goesThrough 0 47 rfl) rfl
theorem dX8_goesThrough_48 : decode cX8_goesThrough 48 = .ok (.iload_n 1, 1) := dz_27 (k_X8_goesThrough 0 48 rfl)
theorem dX8_goesThrough_49 : decode cX8_goesThrough 49 = .ok (.lconst 1, 1) := dz_10 (k_X8_goesThrough 0 49 rfl)
theorem dX8_goesThrough_50 : decode cX8_goesThrough 50 = .ok (.iload_n 1, 1) := dz_27 (k_X8_goesThrough 0 50 rfl)
theorem dX8_goesThrough_51 : decode cX8_goesThrough 51 = .ok (.lshl, 1) := dz_121 (k_X8_goesThrough 0 51 rfl)
theorem dX8_goesThrough_52 : decode cX8_goesThrough 52 = .ok (.lastore, 1) := dz_80 (k_X8_goesThrough 0 52 rfl)
theorem dX8_goesThrough_53 : decode cX8_goesThrough 53 = .ok (.iconst 0, 1) := dz_3 (k_X8_goesThrough 0 53 rfl)
theorem dX8_goesThrough_54 : decode cX8_goesThrough 54 = .ok (.istore_n 2, 1) := dz_61 (k_X8_goesThrough 0 54 rfl)
theorem dX8_goesThrough_55 : decode cX8_goesThrough 55 = .ok (.iload_n 2, 1) := dz_28 (k_X8_goesThrough 0 55 rfl)
theorem dX8_goesThrough_56 : decode cX8_goesThrough 56 = .ok (.aload_n 0, 1) := dz_42 (k_X8_goesThrough 0 56 rfl)
theorem dX8_goesThrough_57 : decode cX8_goesThrough 57 = .ok (.iload_n 1, 1) := dz_27 (k_X8_goesThrough 0 57 rfl)
theorem dX8_goesThrough_58 : decode cX8_goesThrough 58 = .ok (.invokevirtual 275, 3) := dz_182 (k_X8_goesThrough 0 58 rfl) (k_X8_goesThrough 0 59 rfl) (k_X8_goesThrough 0 60 rfl) rfl
theorem dX8_goesThrough_61 : decode cX8_goesThrough 61 = .ok (.if_icmp .ge 89, 3) := dz_162 (k_X8_goesThrough 0 61 rfl) (k_X8_goesThrough 0 62 rfl) (k_X8_goesThrough 0 63 rfl) rfl
theorem dX8_goesThrough_64 : decode cX8_goesThrough 64 = .ok (.aload_n 0, 1) := dz_42 (k_X8_goesThrough 1 0 rfl)
theorem dX8_goesThrough_65 : decode cX8_goesThrough 65 = .ok (.iload_n 1, 1) := dz_27 (k_X8_goesThrough 1 1 rfl)
theorem dX8_goesThrough_66 : decode cX8_goesThrough 66 = .ok (.iload_n 2, 1) := dz_28 (k_X8_goesThrough 1 2 rfl)
theorem dX8_goesThrough_67 : decode cX8_goesThrough 67 = .ok (.invokevirtual 269, 3) := dz_182 (k_X8_goesThrough 1 3 rfl) (k_X8_goesThrough 1 4 rfl) (k_X8_goesThrough 1 5 rfl) rfl
theorem dX8_goesThrough_70 : decode cX8_goesThrough 70 = .ok (.istore_n 3, 1) := dz_62 (k_X8_goesThrough 1 6 rfl)
theorem dX8_goesThrough_71 : decode cX8_goesThrough 71 = .ok (.aload_n 0, 1) := dz_42 (k_X8_goesThrough 1 7 rfl)
theorem dX8_goesThrough_72 : decode cX8_goesThrough 72 = .ok (.getfield 39, 3) := dz_180 (k_X8_goesThrough 1 8 rfl) (k_X8_goesThrough 1 9 rfl) (k_X8_goesThrough 1 10 rfl) rfl
theorem dX8_goesThrough_75 : decode cX8_goesThrough 75 = .ok (.iload_n 1, 1) := dz_27 (k_X8_goesThrough 1 11 rfl)
theorem dX8_goesThrough_76 : decode cX8_goesThrough 76 = .ok (.aload_n 0, 1) := dz_42 (k_X8_goesThrough 1 12 rfl)
theorem dX8_goesThrough_77 : decode cX8_goesThrough 77 = .ok (.getfield 39, 3) := dz_180 (k_X8_goesThrough 1 13 rfl) (k_X8_goesThrough 1 14 rfl) (k_X8_goesThrough 1 15 rfl) rfl
theorem dX8_goesThrough_80 : decode cX8_goesThrough 80 = .ok (.iload_n 1, 1) := dz_27 (k_X8_goesThrough 1 16 rfl)
theorem dX8_goesThrough_81 : decode cX8_goesThrough 81 = .ok (.baload, 1) := dz_51 (k_X8_goesThrough 1 17 rfl)
theorem dX8_goesThrough_82 : decode cX8_goesThrough 82 = .ok (.ifCond .eq 16, 3) := dz_153 (k_X8_goesThrough 1 18 rfl) (k_X8_goesThrough 1 19 rfl) (k_X8_goesThrough 1 20 rfl) rfl
theorem dX8_goesThrough_85 : decode cX8_goesThrough 85 = .ok (.aload_n 0, 1) := dz_42 (k_X8_goesThrough 1 21 rfl)
theorem dX8_goesThrough_86 : decode cX8_goesThrough 86 = .ok (.getfield 39, 3) := dz_180 (k_X8_goesThrough 1 22 rfl) (k_X8_goesThrough 1 23 rfl) (k_X8_goesThrough 1 24 rfl) rfl
theorem dX8_goesThrough_89 : decode cX8_goesThrough 89 = .ok (.iload_n 3, 1) := dz_29 (k_X8_goesThrough 1 25 rfl)
theorem dX8_goesThrough_90 : decode cX8_goesThrough 90 = .ok (.baload, 1) := dz_51 (k_X8_goesThrough 1 26 rfl)
theorem dX8_goesThrough_91 : decode cX8_goesThrough 91 = .ok (.ifCond .eq 7, 3) := dz_153 (k_X8_goesThrough 1 27 rfl) (k_X8_goesThrough 1 28 rfl) (k_X8_goesThrough 1 29 rfl) rfl
theorem dX8_goesThrough_94 : decode cX8_goesThrough 94 = .ok (.iconst 1, 1) := dz_4 (k_X8_goesThrough 1 30 rfl)
theorem dX8_goesThrough_95 : decode cX8_goesThrough 95 = .ok (.goto 4, 3) := dz_167 (k_X8_goesThrough 1 31 rfl) (k_X8_goesThrough 1 32 rfl) (k_X8_goesThrough 1 33 rfl) rfl
theorem dX8_goesThrough_98 : decode cX8_goesThrough 98 = .ok (.iconst 0, 1) := dz_3 (k_X8_goesThrough 1 34 rfl)
theorem dX8_goesThrough_99 : decode cX8_goesThrough 99 = .ok (.bastore, 1) := dz_84 (k_X8_goesThrough 1 35 rfl)
theorem dX8_goesThrough_100 : decode cX8_goesThrough 100 = .ok (.aload_n 0, 1) := dz_42 (k_X8_goesThrough 1 36 rfl)
theorem dX8_goesThrough_101 : decode cX8_goesThrough 101 = .ok (.getfield 43, 3) := dz_180 (k_X8_goesThrough 1 37 rfl) (k_X8_goesThrough 1 38 rfl) (k_X8_goesThrough 1 39 rfl) rfl
theorem dX8_goesThrough_104 : decode cX8_goesThrough 104 = .ok (.iload_n 1, 1) := dz_27 (k_X8_goesThrough 1 40 rfl)
theorem dX8_goesThrough_105 : decode cX8_goesThrough 105 = .ok (.dup2, 1) := dz_92 (k_X8_goesThrough 1 41 rfl)
theorem dX8_goesThrough_106 : decode cX8_goesThrough 106 = .ok (.laload, 1) := dz_47 (k_X8_goesThrough 1 42 rfl)
theorem dX8_goesThrough_107 : decode cX8_goesThrough 107 = .ok (.aload_n 0, 1) := dz_42 (k_X8_goesThrough 1 43 rfl)
theorem dX8_goesThrough_108 : decode cX8_goesThrough 108 = .ok (.iload_n 1, 1) := dz_27 (k_X8_goesThrough 1 44 rfl)
theorem dX8_goesThrough_109 : decode cX8_goesThrough 109 = .ok (.iconst 2, 1) := dz_5 (k_X8_goesThrough 1 45 rfl)
theorem dX8_goesThrough_110 : decode cX8_goesThrough 110 = .ok (.invokevirtual 256, 3) := dz_182 (k_X8_goesThrough 1 46 rfl) (k_X8_goesThrough 1 47 rfl) (k_X8_goesThrough 1 48 rfl) rfl
theorem dX8_goesThrough_113 : decode cX8_goesThrough 113 = .ok (.iconst 2, 1) := dz_5 (k_X8_goesThrough 1 49 rfl)
theorem dX8_goesThrough_114 : decode cX8_goesThrough 114 = .ok (.if_icmp .ge 7, 3) := dz_162 (k_X8_goesThrough 1 50 rfl) (k_X8_goesThrough 1 51 rfl) (k_X8_goesThrough 1 52 rfl) rfl
theorem dX8_goesThrough_117 : decode cX8_goesThrough 117 = .ok (.lconst 0, 1) := dz_9 (k_X8_goesThrough 1 53 rfl)
theorem dX8_goesThrough_118 : decode cX8_goesThrough 118 = .ok (.goto 9, 3) := dz_167 (k_X8_goesThrough 1 54 rfl) (k_X8_goesThrough 1 55 rfl) (k_X8_goesThrough 1 56 rfl) rfl
theorem dX8_goesThrough_121 : decode cX8_goesThrough 121 = .ok (.aload_n 0, 1) := dz_42 (k_X8_goesThrough 1 57 rfl)
theorem dX8_goesThrough_122 : decode cX8_goesThrough 122 = .ok (.getfield 43, 3) := dz_180 (k_X8_goesThrough 1 58 rfl) (k_X8_goesThrough 1 59 rfl) (k_X8_goesThrough 1 60 rfl) rfl
theorem dX8_goesThrough_125 : decode cX8_goesThrough 125 = .ok (.iload_n 3, 1) := dz_29 (k_X8_goesThrough 1 61 rfl)
theorem dX8_goesThrough_126 : decode cX8_goesThrough 126 = .ok (.laload, 1) := dz_47 (k_X8_goesThrough 1 62 rfl)
theorem dX8_goesThrough_127 : decode cX8_goesThrough 127 = .ok (.lor, 1) := dz_129 (k_X8_goesThrough 1 63 rfl)
theorem dX8_goesThrough_128 : decode cX8_goesThrough 128 = .ok (.lastore, 1) := dz_80 (k_X8_goesThrough 2 0 rfl)
theorem dX8_goesThrough_129 : decode cX8_goesThrough 129 = .ok (.aload_n 0, 1) := dz_42 (k_X8_goesThrough 2 1 rfl)
theorem dX8_goesThrough_130 : decode cX8_goesThrough 130 = .ok (.getfield 47, 3) := dz_180 (k_X8_goesThrough 2 2 rfl) (k_X8_goesThrough 2 3 rfl) (k_X8_goesThrough 2 4 rfl) rfl
theorem dX8_goesThrough_133 : decode cX8_goesThrough 133 = .ok (.iload_n 1, 1) := dz_27 (k_X8_goesThrough 2 5 rfl)
theorem dX8_goesThrough_134 : decode cX8_goesThrough 134 = .ok (.dup2, 1) := dz_92 (k_X8_goesThrough 2 6 rfl)
theorem dX8_goesThrough_135 : decode cX8_goesThrough 135 = .ok (.laload, 1) := dz_47 (k_X8_goesThrough 2 7 rfl)
theorem dX8_goesThrough_136 : decode cX8_goesThrough 136 = .ok (.aload_n 0, 1) := dz_42 (k_X8_goesThrough 2 8 rfl)
theorem dX8_goesThrough_137 : decode cX8_goesThrough 137 = .ok (.getfield 47, 3) := dz_180 (k_X8_goesThrough 2 9 rfl) (k_X8_goesThrough 2 10 rfl) (k_X8_goesThrough 2 11 rfl) rfl
theorem dX8_goesThrough_140 : decode cX8_goesThrough 140 = .ok (.iload_n 3, 1) := dz_29 (k_X8_goesThrough 2 12 rfl)
theorem dX8_goesThrough_141 : decode cX8_goesThrough 141 = .ok (.laload, 1) := dz_47 (k_X8_goesThrough 2 13 rfl)
theorem dX8_goesThrough_142 : decode cX8_goesThrough 142 = .ok (.lor, 1) := dz_129 (k_X8_goesThrough 2 14 rfl)
theorem dX8_goesThrough_143 : decode cX8_goesThrough 143 = .ok (.lastore, 1) := dz_80 (k_X8_goesThrough 2 15 rfl)
theorem dX8_goesThrough_144 : decode cX8_goesThrough 144 = .ok (.iinc 2 1, 3) := dz_132 (k_X8_goesThrough 2 16 rfl) (k_X8_goesThrough 2 17 rfl) (k_X8_goesThrough 2 18 rfl) rfl
theorem dX8_goesThrough_147 : decode cX8_goesThrough 147 = .ok (.goto (-92), 3) := dz_167 (k_X8_goesThrough 2 19 rfl) (k_X8_goesThrough 2 20 rfl) (k_X8_goesThrough 2 21 rfl) rfl
theorem dX8_goesThrough_150 : decode cX8_goesThrough 150 = .ok (.aload_n 0, 1) := dz_42 (k_X8_goesThrough 2 22 rfl)
theorem dX8_goesThrough_151 : decode cX8_goesThrough 151 = .ok (.iload_n 1, 1) := dz_27 (k_X8_goesThrough 2 23 rfl)
theorem dX8_goesThrough_152 : decode cX8_goesThrough 152 = .ok (.iconst 0, 1) := dz_3 (k_X8_goesThrough 2 24 rfl)
theorem dX8_goesThrough_153 : decode cX8_goesThrough 153 = .ok (.invokevirtual 269, 3) := dz_182 (k_X8_goesThrough 2 25 rfl) (k_X8_goesThrough 2 26 rfl) (k_X8_goesThrough 2 27 rfl) rfl
theorem dX8_goesThrough_156 : decode cX8_goesThrough 156 = .ok (.istore_n 2, 1) := dz_61 (k_X8_goesThrough 2 28 rfl)
theorem dX8_goesThrough_157 : decode cX8_goesThrough 157 = .ok (.aload_n 0, 1) := dz_42 (k_X8_goesThrough 2 29 rfl)
theorem dX8_goesThrough_158 : decode cX8_goesThrough 158 = .ok (.iload_n 1, 1) := dz_27 (k_X8_goesThrough 2 30 rfl)
theorem dX8_goesThrough_159 : decode cX8_goesThrough 159 = .ok (.iconst 2, 1) := dz_5 (k_X8_goesThrough 2 31 rfl)
theorem dX8_goesThrough_160 : decode cX8_goesThrough 160 = .ok (.invokevirtual 256, 3) := dz_182 (k_X8_goesThrough 2 32 rfl) (k_X8_goesThrough 2 33 rfl) (k_X8_goesThrough 2 34 rfl) rfl
theorem dX8_goesThrough_163 : decode cX8_goesThrough 163 = .ok (.bipush 10, 2) := dz_16 (k_X8_goesThrough 2 35 rfl) (k_X8_goesThrough 2 36 rfl) rfl
theorem dX8_goesThrough_165 : decode cX8_goesThrough 165 = .ok (.if_icmp .ne 33, 3) := dz_160 (k_X8_goesThrough 2 37 rfl) (k_X8_goesThrough 2 38 rfl) (k_X8_goesThrough 2 39 rfl) rfl
theorem dX8_goesThrough_168 : decode cX8_goesThrough 168 = .ok (.iload_n 2, 1) := dz_28 (k_X8_goesThrough 2 40 rfl)
theorem dX8_goesThrough_169 : decode cX8_goesThrough 169 = .ok (.ifCond .lt 29, 3) := dz_155 (k_X8_goesThrough 2 41 rfl) (k_X8_goesThrough 2 42 rfl) (k_X8_goesThrough 2 43 rfl) rfl
theorem dX8_goesThrough_172 : decode cX8_goesThrough 172 = .ok (.aload_n 0, 1) := dz_42 (k_X8_goesThrough 2 44 rfl)
theorem dX8_goesThrough_173 : decode cX8_goesThrough 173 = .ok (.iload_n 2, 1) := dz_28 (k_X8_goesThrough 2 45 rfl)
theorem dX8_goesThrough_174 : decode cX8_goesThrough 174 = .ok (.iconst 2, 1) := dz_5 (k_X8_goesThrough 2 46 rfl)
theorem dX8_goesThrough_175 : decode cX8_goesThrough 175 = .ok (.invokevirtual 256, 3) := dz_182 (k_X8_goesThrough 2 47 rfl) (k_X8_goesThrough 2 48 rfl) (k_X8_goesThrough 2 49 rfl) rfl
theorem dX8_goesThrough_178 : decode cX8_goesThrough 178 = .ok (.iconst 1, 1) := dz_4 (k_X8_goesThrough 2 50 rfl)
theorem dX8_goesThrough_179 : decode cX8_goesThrough 179 = .ok (.if_icmp .ne 19, 3) := dz_160 (k_X8_goesThrough 2 51 rfl) (k_X8_goesThrough 2 52 rfl) (k_X8_goesThrough 2 53 rfl) rfl
theorem dX8_goesThrough_182 : decode cX8_goesThrough 182 = .ok (.aload_n 0, 1) := dz_42 (k_X8_goesThrough 2 54 rfl)
theorem dX8_goesThrough_183 : decode cX8_goesThrough 183 = .ok (.getfield 43, 3) := dz_180 (k_X8_goesThrough 2 55 rfl) (k_X8_goesThrough 2 56 rfl) (k_X8_goesThrough 2 57 rfl) rfl
theorem dX8_goesThrough_186 : decode cX8_goesThrough 186 = .ok (.iload_n 1, 1) := dz_27 (k_X8_goesThrough 2 58 rfl)
theorem dX8_goesThrough_187 : decode cX8_goesThrough 187 = .ok (.dup2, 1) := dz_92 (k_X8_goesThrough 2 59 rfl)
theorem dX8_goesThrough_188 : decode cX8_goesThrough 188 = .ok (.laload, 1) := dz_47 (k_X8_goesThrough 2 60 rfl)
theorem dX8_goesThrough_189 : decode cX8_goesThrough 189 = .ok (.lconst 1, 1) := dz_10 (k_X8_goesThrough 2 61 rfl)
theorem dX8_goesThrough_190 : decode cX8_goesThrough 190 = .ok (.iload_n 2, 1) := dz_28 (k_X8_goesThrough 2 62 rfl)
theorem dX8_goesThrough_191 : decode cX8_goesThrough 191 = .ok (.lshl, 1) := dz_121 (k_X8_goesThrough 2 63 rfl)
theorem dX8_goesThrough_192 : decode cX8_goesThrough 192 = .ok (.ldc2_w 305, 3) := dz_20 (k_X8_goesThrough 3 0 rfl) (k_X8_goesThrough 3 1 rfl) (k_X8_goesThrough 3 2 rfl) rfl
theorem dX8_goesThrough_195 : decode cX8_goesThrough 195 = .ok (.lxor, 1) := dz_131 (k_X8_goesThrough 3 3 rfl)
theorem dX8_goesThrough_196 : decode cX8_goesThrough 196 = .ok (.land, 1) := dz_127 (k_X8_goesThrough 3 4 rfl)
theorem dX8_goesThrough_197 : decode cX8_goesThrough 197 = .ok (.lastore, 1) := dz_80 (k_X8_goesThrough 3 5 rfl)
theorem dX8_goesThrough_198 : decode cX8_goesThrough 198 = .ok (.iinc 1 1, 3) := dz_132 (k_X8_goesThrough 3 6 rfl) (k_X8_goesThrough 3 7 rfl) (k_X8_goesThrough 3 8 rfl) rfl
theorem dX8_goesThrough_201 : decode cX8_goesThrough 201 = .ok (.goto (-199), 3) := dz_167 (k_X8_goesThrough 3 9 rfl) (k_X8_goesThrough 3 10 rfl) (k_X8_goesThrough 3 11 rfl) rfl
theorem dX8_goesThrough_204 : decode cX8_goesThrough 204 = .ok (.return_, 1) := dz_177 (k_X8_goesThrough 3 12 rfl)
def B_X8_has : List (List Nat) := [[42, 182, 0, 161, 42, 27, 27, 182, 0, 154, 154, 0, 5, 3, 172, 42, 89, 180, 0, 148, 4, 96, 181, 0, 148, 4, 172]]
theorem k_X8_has (j i : Nat) {b : Nat} (h : (B_X8_has[j]?.bind fun c => c[i]?) = some b) : s_by cX8_has (64 * j + i) b := s_byC (L := B_X8_has) (by decide +kernel) (by decide +kernel) j i h
theorem dX8_has_0 : decode cX8_has 0 = .ok (.aload_n 0, 1) := dz_42 (k_X8_has 0 0 rfl)
theorem dX8_has_1 : decode cX8_has 1 = .ok (.invokevirtual 161, 3) := dz_182 (k_X8_has 0 1 rfl) (k_X8_has 0 2 rfl) (k_X8_has 0 3 rfl) rfl
theorem dX8_has_4 : decode cX8_has 4 = .ok (.aload_n 0, 1) := dz_42 (k_X8_has 0 4 rfl)
theorem dX8_has_5 : decode cX8_has 5 = .ok (.iload_n 1, 1) := dz_27 (k_X8_has 0 5 rfl)
theorem dX8_has_6 : decode cX8_has 6 = .ok (.iload_n 1, 1) := dz_27 (k_X8_has 0 6 rfl)
theorem dX8_has_7 : decode cX8_has 7 = .ok (.invokevirtual 154, 3) := dz_182 (k_X8_has 0 7 rfl) (k_X8_has 0 8 rfl) (k_X8_has 0 9 rfl) rfl
theorem dX8_has_10 : decode cX8_has 10 = .ok (.ifCond .ne 5, 3) := dz_154 (k_X8_has 0 10 rfl) (k_X8_has 0 11 rfl) (k_X8_has 0 12 rfl) rfl
theorem dX8_has_13 : decode cX8_has 13 = .ok (.iconst 0, 1) := dz_3 (k_X8_has 0 13 rfl)
theorem dX8_has_14 : decode cX8_has 14 = .ok (.ireturn, 1) := dz_172 (k_X8_has 0 14 rfl)
theorem dX8_has_15 : decode cX8_has 15 = .ok (.aload_n 0, 1) := dz_42 (k_X8_has 0 15 rfl)
theorem dX8_has_16 : decode cX8_has 16 = .ok (.dup, 1) := dz_89 (k_X8_has 0 16 rfl)
theorem dX8_has_17 : decode cX8_has 17 = .ok (.getfield 148, 3) := dz_180 (k_X8_has 0 17 rfl) (k_X8_has 0 18 rfl) (k_X8_has 0 19 rfl) rfl
theorem dX8_has_20 : decode cX8_has 20 = .ok (.iconst 1, 1) := dz_4 (k_X8_has 0 20 rfl)
theorem dX8_has_21 : decode cX8_has 21 = .ok (.iadd, 1) := dz_96 (k_X8_has 0 21 rfl)
theorem dX8_has_22 : decode cX8_has 22 = .ok (.putfield 148, 3) := dz_181 (k_X8_has 0 22 rfl) (k_X8_has 0 23 rfl) (k_X8_has 0 24 rfl) rfl
theorem dX8_has_25 : decode cX8_has 25 = .ok (.iconst 1, 1) := dz_4 (k_X8_has 0 25 rfl)
theorem dX8_has_26 : decode cX8_has 26 = .ok (.ireturn, 1) := dz_172 (k_X8_has 0 26 rfl)
def B_X8_hasRule : List (List Nat) := [[42, 180, 0, 13, 7, 16, 18, 27, 104, 96, 46, 28, 122, 4, 126, 4, 160, 0, 7, 4, 167, 0, 4, 3, 172]]
theorem k_X8_hasRule (j i : Nat) {b : Nat} (h : (B_X8_hasRule[j]?.bind fun c => c[i]?) = some b) : s_by cX8_hasRule (64 * j + i) b := s_byC (L := B_X8_hasRule) (by decide +kernel) (by decide +kernel) j i h
theorem dX8_hasRule_0 : decode cX8_hasRule 0 = .ok (.aload_n 0, 1) := dz_42 (k_X8_hasRule 0 0 rfl)
theorem dX8_hasRule_1 : decode cX8_hasRule 1 = .ok (.getfield 13, 3) := dz_180 (k_X8_hasRule 0 1 rfl) (k_X8_hasRule 0 2 rfl) (k_X8_hasRule 0 3 rfl) rfl
theorem dX8_hasRule_4 : decode cX8_hasRule 4 = .ok (.iconst 4, 1) := dz_7 (k_X8_hasRule 0 4 rfl)
theorem dX8_hasRule_5 : decode cX8_hasRule 5 = .ok (.bipush 18, 2) := dz_16 (k_X8_hasRule 0 5 rfl) (k_X8_hasRule 0 6 rfl) rfl
theorem dX8_hasRule_7 : decode cX8_hasRule 7 = .ok (.iload_n 1, 1) := dz_27 (k_X8_hasRule 0 7 rfl)
theorem dX8_hasRule_8 : decode cX8_hasRule 8 = .ok (.imul, 1) := dz_104 (k_X8_hasRule 0 8 rfl)
theorem dX8_hasRule_9 : decode cX8_hasRule 9 = .ok (.iadd, 1) := dz_96 (k_X8_hasRule 0 9 rfl)
theorem dX8_hasRule_10 : decode cX8_hasRule 10 = .ok (.iaload, 1) := dz_46 (k_X8_hasRule 0 10 rfl)
theorem dX8_hasRule_11 : decode cX8_hasRule 11 = .ok (.iload_n 2, 1) := dz_28 (k_X8_hasRule 0 11 rfl)
theorem dX8_hasRule_12 : decode cX8_hasRule 12 = .ok (.ishr, 1) := dz_122 (k_X8_hasRule 0 12 rfl)
theorem dX8_hasRule_13 : decode cX8_hasRule 13 = .ok (.iconst 1, 1) := dz_4 (k_X8_hasRule 0 13 rfl)
theorem dX8_hasRule_14 : decode cX8_hasRule 14 = .ok (.iand, 1) := dz_126 (k_X8_hasRule 0 14 rfl)
theorem dX8_hasRule_15 : decode cX8_hasRule 15 = .ok (.iconst 1, 1) := dz_4 (k_X8_hasRule 0 15 rfl)
theorem dX8_hasRule_16 : decode cX8_hasRule 16 = .ok (.if_icmp .ne 7, 3) := dz_160 (k_X8_hasRule 0 16 rfl) (k_X8_hasRule 0 17 rfl) (k_X8_hasRule 0 18 rfl) rfl
theorem dX8_hasRule_19 : decode cX8_hasRule 19 = .ok (.iconst 1, 1) := dz_4 (k_X8_hasRule 0 19 rfl)
theorem dX8_hasRule_20 : decode cX8_hasRule 20 = .ok (.goto 4, 3) := dz_167 (k_X8_hasRule 0 20 rfl) (k_X8_hasRule 0 21 rfl) (k_X8_hasRule 0 22 rfl) rfl
theorem dX8_hasRule_23 : decode cX8_hasRule 23 = .ok (.iconst 0, 1) := dz_3 (k_X8_hasRule 0 23 rfl)
theorem dX8_hasRule_24 : decode cX8_hasRule 24 = .ok (.ireturn, 1) := dz_172 (k_X8_hasRule 0 24 rfl)
def B_X8_holdAll : List (List Nat) := [[4, 62, 3, 54, 4, 21, 4, 42, 182, 0, 103, 162, 0, 38, 29, 153, 0, 34, 27, 21, 4, 122, 4, 126, 153, 0, 13, 42, 21, 4, 28, 182, 0, 243, 153, 0, 7, 4, 167, 0, 4, 3, 62, 132, 4, 1, 167, 255, 215, 29, 172]]
theorem k_X8_holdAll (j i : Nat) {b : Nat} (h : (B_X8_holdAll[j]?.bind fun c => c[i]?) = some b) : s_by cX8_holdAll (64 * j + i) b := s_byC (L := B_X8_holdAll) (by decide +kernel) (by decide +kernel) j i h
theorem dX8_holdAll_0 : decode cX8_holdAll 0 = .ok (.iconst 1, 1) := dz_4 (k_X8_holdAll 0 0 rfl)
theorem dX8_holdAll_1 : decode cX8_holdAll 1 = .ok (.istore_n 3, 1) := dz_62 (k_X8_holdAll 0 1 rfl)
theorem dX8_holdAll_2 : decode cX8_holdAll 2 = .ok (.iconst 0, 1) := dz_3 (k_X8_holdAll 0 2 rfl)
theorem dX8_holdAll_3 : decode cX8_holdAll 3 = .ok (.istore 4, 2) := dz_54 (k_X8_holdAll 0 3 rfl) (k_X8_holdAll 0 4 rfl)
theorem dX8_holdAll_5 : decode cX8_holdAll 5 = .ok (.iload 4, 2) := dz_21 (k_X8_holdAll 0 5 rfl) (k_X8_holdAll 0 6 rfl)
theorem dX8_holdAll_7 : decode cX8_holdAll 7 = .ok (.aload_n 0, 1) := dz_42 (k_X8_holdAll 0 7 rfl)
theorem dX8_holdAll_8 : decode cX8_holdAll 8 = .ok (.invokevirtual 103, 3) := dz_182 (k_X8_holdAll 0 8 rfl) (k_X8_holdAll 0 9 rfl) (k_X8_holdAll 0 10 rfl) rfl
theorem dX8_holdAll_11 : decode cX8_holdAll 11 = .ok (.if_icmp .ge 38, 3) := dz_162 (k_X8_holdAll 0 11 rfl) (k_X8_holdAll 0 12 rfl) (k_X8_holdAll 0 13 rfl) rfl
theorem dX8_holdAll_14 : decode cX8_holdAll 14 = .ok (.iload_n 3, 1) := dz_29 (k_X8_holdAll 0 14 rfl)
theorem dX8_holdAll_15 : decode cX8_holdAll 15 = .ok (.ifCond .eq 34, 3) := dz_153 (k_X8_holdAll 0 15 rfl) (k_X8_holdAll 0 16 rfl) (k_X8_holdAll 0 17 rfl) rfl
theorem dX8_holdAll_18 : decode cX8_holdAll 18 = .ok (.iload_n 1, 1) := dz_27 (k_X8_holdAll 0 18 rfl)
theorem dX8_holdAll_19 : decode cX8_holdAll 19 = .ok (.iload 4, 2) := dz_21 (k_X8_holdAll 0 19 rfl) (k_X8_holdAll 0 20 rfl)
theorem dX8_holdAll_21 : decode cX8_holdAll 21 = .ok (.ishr, 1) := dz_122 (k_X8_holdAll 0 21 rfl)
theorem dX8_holdAll_22 : decode cX8_holdAll 22 = .ok (.iconst 1, 1) := dz_4 (k_X8_holdAll 0 22 rfl)
theorem dX8_holdAll_23 : decode cX8_holdAll 23 = .ok (.iand, 1) := dz_126 (k_X8_holdAll 0 23 rfl)
theorem dX8_holdAll_24 : decode cX8_holdAll 24 = .ok (.ifCond .eq 13, 3) := dz_153 (k_X8_holdAll 0 24 rfl) (k_X8_holdAll 0 25 rfl) (k_X8_holdAll 0 26 rfl) rfl
theorem dX8_holdAll_27 : decode cX8_holdAll 27 = .ok (.aload_n 0, 1) := dz_42 (k_X8_holdAll 0 27 rfl)
theorem dX8_holdAll_28 : decode cX8_holdAll 28 = .ok (.iload 4, 2) := dz_21 (k_X8_holdAll 0 28 rfl) (k_X8_holdAll 0 29 rfl)
theorem dX8_holdAll_30 : decode cX8_holdAll 30 = .ok (.iload_n 2, 1) := dz_28 (k_X8_holdAll 0 30 rfl)
theorem dX8_holdAll_31 : decode cX8_holdAll 31 = .ok (.invokevirtual 243, 3) := dz_182 (k_X8_holdAll 0 31 rfl) (k_X8_holdAll 0 32 rfl) (k_X8_holdAll 0 33 rfl) rfl
theorem dX8_holdAll_34 : decode cX8_holdAll 34 = .ok (.ifCond .eq 7, 3) := dz_153 (k_X8_holdAll 0 34 rfl) (k_X8_holdAll 0 35 rfl) (k_X8_holdAll 0 36 rfl) rfl
theorem dX8_holdAll_37 : decode cX8_holdAll 37 = .ok (.iconst 1, 1) := dz_4 (k_X8_holdAll 0 37 rfl)
theorem dX8_holdAll_38 : decode cX8_holdAll 38 = .ok (.goto 4, 3) := dz_167 (k_X8_holdAll 0 38 rfl) (k_X8_holdAll 0 39 rfl) (k_X8_holdAll 0 40 rfl) rfl
theorem dX8_holdAll_41 : decode cX8_holdAll 41 = .ok (.iconst 0, 1) := dz_3 (k_X8_holdAll 0 41 rfl)
theorem dX8_holdAll_42 : decode cX8_holdAll 42 = .ok (.istore_n 3, 1) := dz_62 (k_X8_holdAll 0 42 rfl)
theorem dX8_holdAll_43 : decode cX8_holdAll 43 = .ok (.iinc 4 1, 3) := dz_132 (k_X8_holdAll 0 43 rfl) (k_X8_holdAll 0 44 rfl) (k_X8_holdAll 0 45 rfl) rfl
theorem dX8_holdAll_46 : decode cX8_holdAll 46 = .ok (.goto (-41), 3) := dz_167 (k_X8_holdAll 0 46 rfl) (k_X8_holdAll 0 47 rfl) (k_X8_holdAll 0 48 rfl) rfl
theorem dX8_holdAll_49 : decode cX8_holdAll 49 = .ok (.iload_n 3, 1) := dz_29 (k_X8_holdAll 0 49 rfl)
theorem dX8_holdAll_50 : decode cX8_holdAll 50 = .ok (.ireturn, 1) := dz_172 (k_X8_holdAll 0 50 rfl)
