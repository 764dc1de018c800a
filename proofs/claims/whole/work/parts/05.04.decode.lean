def B_X3_leastBreach : List (List Nat) := [[42, 27, 42, 180, 0, 11, 182, 0, 75, 42, 42, 180, 0, 11, 28, 182, 0, 79, 172]]
theorem k_X3_leastBreach (j i : Nat) {b : Nat} (h : (B_X3_leastBreach[j]?.bind fun c => c[i]?) = some b) : s_by cX3_leastBreach (64 * j + i) b := s_byC (L := B_X3_leastBreach) (by decide +kernel) (by decide +kernel) j i h
theorem dX3_leastBreach_0 : decode cX3_leastBreach 0 = .ok (.aload_n 0, 1) := dz_42 (k_X3_leastBreach 0 0 rfl)
theorem dX3_leastBreach_1 : decode cX3_leastBreach 1 = .ok (.iload_n 1, 1) := dz_27 (k_X3_leastBreach 0 1 rfl)
theorem dX3_leastBreach_2 : decode cX3_leastBreach 2 = .ok (.aload_n 0, 1) := dz_42 (k_X3_leastBreach 0 2 rfl)
theorem dX3_leastBreach_3 : decode cX3_leastBreach 3 = .ok (.getfield 11, 3) := dz_180 (k_X3_leastBreach 0 3 rfl) (k_X3_leastBreach 0 4 rfl) (k_X3_leastBreach 0 5 rfl) rfl
theorem dX3_leastBreach_6 : decode cX3_leastBreach 6 = .ok (.invokevirtual 75, 3) := dz_182 (k_X3_leastBreach 0 6 rfl) (k_X3_leastBreach 0 7 rfl) (k_X3_leastBreach 0 8 rfl) rfl
theorem dX3_leastBreach_9 : decode cX3_leastBreach 9 = .ok (.aload_n 0, 1) := dz_42 (k_X3_leastBreach 0 9 rfl)
theorem dX3_leastBreach_10 : decode cX3_leastBreach 10 = .ok (.aload_n 0, 1) := dz_42 (k_X3_leastBreach 0 10 rfl)
theorem dX3_leastBreach_11 : decode cX3_leastBreach 11 = .ok (.getfield 11, 3) := dz_180 (k_X3_leastBreach 0 11 rfl) (k_X3_leastBreach 0 12 rfl) (k_X3_leastBreach 0 13 rfl) rfl
theorem dX3_leastBreach_14 : decode cX3_leastBreach 14 = .ok (.iload_n 2, 1) := dz_28 (k_X3_leastBreach 0 14 rfl)
theorem dX3_leastBreach_15 : decode cX3_leastBreach 15 = .ok (.invokevirtual 79, 3) := dz_182 (k_X3_leastBreach 0 15 rfl) (k_X3_leastBreach 0 16 rfl) (k_X3_leastBreach 0 17 rfl) rfl
theorem dX3_leastBreach_18 : decode cX3_leastBreach 18 = .ok (.ireturn, 1) := dz_172 (k_X3_leastBreach 0 18 rfl)
def B_X3_leastClash : List (List Nat) := [[42, 27, 182, 0, 95, 61, 42, 28, 182, 0, 110, 2, 62, 4, 54, 4, 21, 4, 4, 28, 120, 162, 0, 61, 42, 180, 0, 27, 21, 4, 16, 6, 122, 47, 21, 4, 16, 63, 126, 125, 10, 127, 9, 148, 154, 0, 7, 4, 167, 0, 4, 3, 54, 5, 21, 5, 153, 0, 20, 29, 2, 159, 0, 12], [21, 4, 29, 184, 0, 104, 153, 0, 6, 21, 4, 62, 132, 4, 1, 167, 255, 193, 29, 2, 160, 0, 7, 3, 167, 0, 8, 42, 29, 182, 0, 107, 172]]
theorem k_X3_leastClash (j i : Nat) {b : Nat} (h : (B_X3_leastClash[j]?.bind fun c => c[i]?) = some b) : s_by cX3_leastClash (64 * j + i) b := s_byC (L := B_X3_leastClash) (by decide +kernel) (by decide +kernel) j i h
theorem dX3_leastClash_0 : decode cX3_leastClash 0 = .ok (.aload_n 0, 1) := dz_42 (k_X3_leastClash 0 0 rfl)
theorem dX3_leastClash_1 : decode cX3_leastClash 1 = .ok (.iload_n 1, 1) := dz_27 (k_X3_leastClash 0 1 rfl)
theorem dX3_leastClash_2 : decode cX3_leastClash 2 = .ok (.invokevirtual 95, 3) := dz_182 (k_X3_leastClash 0 2 rfl) (k_X3_leastClash 0 3 rfl) (k_X3_leastClash 0 4 rfl) rfl
theorem dX3_leastClash_5 : decode cX3_leastClash 5 = .ok (.istore_n 2, 1) := dz_61 (k_X3_leastClash 0 5 rfl)
theorem dX3_leastClash_6 : decode cX3_leastClash 6 = .ok (.aload_n 0, 1) := dz_42 (k_X3_leastClash 0 6 rfl)
theorem dX3_leastClash_7 : decode cX3_leastClash 7 = .ok (.iload_n 2, 1) := dz_28 (k_X3_leastClash 0 7 rfl)
theorem dX3_leastClash_8 : decode cX3_leastClash 8 = .ok (.invokevirtual 110, 3) := dz_182 (k_X3_leastClash 0 8 rfl) (k_X3_leastClash 0 9 rfl) (k_X3_leastClash 0 10 rfl) rfl
theorem dX3_leastClash_11 : decode cX3_leastClash 11 = .ok (.iconst (-1), 1) := dz_2 (k_X3_leastClash 0 11 rfl)
theorem dX3_leastClash_12 : decode cX3_leastClash 12 = .ok (.istore_n 3, 1) := dz_62 (k_X3_leastClash 0 12 rfl)
theorem dX3_leastClash_13 : decode cX3_leastClash 13 = .ok (.iconst 1, 1) := dz_4 (k_X3_leastClash 0 13 rfl)
theorem dX3_leastClash_14 : decode cX3_leastClash 14 = .ok (.istore 4, 2) := dz_54 (k_X3_leastClash 0 14 rfl) (k_X3_leastClash 0 15 rfl)
theorem dX3_leastClash_16 : decode cX3_leastClash 16 = .ok (.iload 4, 2) := dz_21 (k_X3_leastClash 0 16 rfl) (k_X3_leastClash 0 17 rfl)
theorem dX3_leastClash_18 : decode cX3_leastClash 18 = .ok (.iconst 1, 1) := dz_4 (k_X3_leastClash 0 18 rfl)
theorem dX3_leastClash_19 : decode cX3_leastClash 19 = .ok (.iload_n 2, 1) := dz_28 (k_X3_leastClash 0 19 rfl)
theorem dX3_leastClash_20 : decode cX3_leastClash 20 = .ok (.ishl, 1) := dz_120 (k_X3_leastClash 0 20 rfl)
theorem dX3_leastClash_21 : decode cX3_leastClash 21 = .ok (.if_icmp .ge 61, 3) := dz_162 (k_X3_leastClash 0 21 rfl) (k_X3_leastClash 0 22 rfl) (k_X3_leastClash 0 23 rfl) rfl
theorem dX3_leastClash_24 : decode cX3_leastClash 24 = .ok (.aload_n 0, 1) := dz_42 (k_X3_leastClash 0 24 rfl)
theorem dX3_leastClash_25 : decode cX3_leastClash 25 = .ok (.getfield 27, 3) := dz_180 (k_X3_leastClash 0 25 rfl) (k_X3_leastClash 0 26 rfl) (k_X3_leastClash 0 27 rfl) rfl
theorem dX3_leastClash_28 : decode cX3_leastClash 28 = .ok (.iload 4, 2) := dz_21 (k_X3_leastClash 0 28 rfl) (k_X3_leastClash 0 29 rfl)
theorem dX3_leastClash_30 : decode cX3_leastClash 30 = .ok (.bipush 6, 2) := dz_16 (k_X3_leastClash 0 30 rfl) (k_X3_leastClash 0 31 rfl) rfl
theorem dX3_leastClash_32 : decode cX3_leastClash 32 = .ok (.ishr, 1) := dz_122 (k_X3_leastClash 0 32 rfl)
theorem dX3_leastClash_33 : decode cX3_leastClash 33 = .ok (.laload, 1) := dz_47 (k_X3_leastClash 0 33 rfl)
theorem dX3_leastClash_34 : decode cX3_leastClash 34 = .ok (.iload 4, 2) := dz_21 (k_X3_leastClash 0 34 rfl) (k_X3_leastClash 0 35 rfl)
theorem dX3_leastClash_36 : decode cX3_leastClash 36 = .ok (.bipush 63, 2) := dz_16 (k_X3_leastClash 0 36 rfl) (k_X3_leastClash 0 37 rfl) rfl
theorem dX3_leastClash_38 : decode cX3_leastClash 38 = .ok (.iand, 1) := dz_126 (k_X3_leastClash 0 38 rfl)
theorem dX3_leastClash_39 : decode cX3_leastClash 39 = .ok (.lushr, 1) := dz_125 (k_X3_leastClash 0 39 rfl)
theorem dX3_leastClash_40 : decode cX3_leastClash 40 = .ok (.lconst 1, 1) := dz_10 (k_X3_leastClash 0 40 rfl)
theorem dX3_leastClash_41 : decode cX3_leastClash 41 = .ok (.land, 1) := dz_127 (k_X3_leastClash 0 41 rfl)
theorem dX3_leastClash_42 : decode cX3_leastClash 42 = .ok (.lconst 0, 1) := dz_9 (k_X3_leastClash 0 42 rfl)
theorem dX3_leastClash_43 : decode cX3_leastClash 43 = .ok (.lcmp, 1) := dz_148 (k_X3_leastClash 0 43 rfl)
theorem dX3_leastClash_44 : decode cX3_leastClash 44 = .ok (.ifCond .ne 7, 3) := dz_154 (k_X3_leastClash 0 44 rfl) (k_X3_leastClash 0 45 rfl) (k_X3_leastClash 0 46 rfl) rfl
theorem dX3_leastClash_47 : decode cX3_leastClash 47 = .ok (.iconst 1, 1) := dz_4 (k_X3_leastClash 0 47 rfl)
theorem dX3_leastClash_48 : decode cX3_leastClash 48 = .ok (.goto 4, 3) := dz_167 (k_X3_leastClash 0 48 rfl) (k_X3_leastClash 0 49 rfl) (k_X3_leastClash 0 50 rfl) rfl
theorem dX3_leastClash_51 : decode cX3_leastClash 51 = .ok (.iconst 0, 1) := dz_3 (k_X3_leastClash 0 51 rfl)
theorem dX3_leastClash_52 : decode cX3_leastClash 52 = .ok (.istore 5, 2) := dz_54 (k_X3_leastClash 0 52 rfl) (k_X3_leastClash 0 53 rfl)
theorem dX3_leastClash_54 : decode cX3_leastClash 54 = .ok (.iload 5, 2) := dz_21 (k_X3_leastClash 0 54 rfl) (k_X3_leastClash 0 55 rfl)
theorem dX3_leastClash_56 : decode cX3_leastClash 56 = .ok (.ifCond .eq 20, 3) := dz_153 (k_X3_leastClash 0 56 rfl) (k_X3_leastClash 0 57 rfl) (k_X3_leastClash 0 58 rfl) rfl
theorem dX3_leastClash_59 : decode cX3_leastClash 59 = .ok (.iload_n 3, 1) := dz_29 (k_X3_leastClash 0 59 rfl)
theorem dX3_leastClash_60 : decode cX3_leastClash 60 = .ok (.iconst (-1), 1) := dz_2 (k_X3_leastClash 0 60 rfl)
theorem dX3_leastClash_61 : decode cX3_leastClash 61 = .ok (.if_icmp .eq 12, 3) := dz_159 (k_X3_leastClash 0 61 rfl) (k_X3_leastClash 0 62 rfl) (k_X3_leastClash 0 63 rfl) rfl
theorem dX3_leastClash_64 : decode cX3_leastClash 64 = .ok (.iload 4, 2) := dz_21 (k_X3_leastClash 1 0 rfl) (k_X3_leastClash 1 1 rfl)
theorem dX3_leastClash_66 : decode cX3_leastClash 66 = .ok (.iload_n 3, 1) := dz_29 (k_X3_leastClash 1 2 rfl)
theorem dX3_leastClash_67 : decode cX3_leastClash 67 = .ok (.invokestatic 104, 3) := dz_184 (k_X3_leastClash 1 3 rfl) (k_X3_leastClash 1 4 rfl) (k_X3_leastClash 1 5 rfl) rfl
theorem dX3_leastClash_70 : decode cX3_leastClash 70 = .ok (.ifCond .eq 6, 3) := dz_153 (k_X3_leastClash 1 6 rfl) (k_X3_leastClash 1 7 rfl) (k_X3_leastClash 1 8 rfl) rfl
theorem dX3_leastClash_73 : decode cX3_leastClash 73 = .ok (.iload 4, 2) := dz_21 (k_X3_leastClash 1 9 rfl) (k_X3_leastClash 1 10 rfl)
theorem dX3_leastClash_75 : decode cX3_leastClash 75 = .ok (.istore_n 3, 1) := dz_62 (k_X3_leastClash 1 11 rfl)
theorem dX3_leastClash_76 : decode cX3_leastClash 76 = .ok (.iinc 4 1, 3) := dz_132 (k_X3_leastClash 1 12 rfl) (k_X3_leastClash 1 13 rfl) (k_X3_leastClash 1 14 rfl) rfl
theorem dX3_leastClash_79 : decode cX3_leastClash 79 = .ok (.goto (-63), 3) := dz_167 (k_X3_leastClash 1 15 rfl) (k_X3_leastClash 1 16 rfl) (k_X3_leastClash 1 17 rfl) rfl
theorem dX3_leastClash_82 : decode cX3_leastClash 82 = .ok (.iload_n 3, 1) := dz_29 (k_X3_leastClash 1 18 rfl)
theorem dX3_leastClash_83 : decode cX3_leastClash 83 = .ok (.iconst (-1), 1) := dz_2 (k_X3_leastClash 1 19 rfl)
theorem dX3_leastClash_84 : decode cX3_leastClash 84 = .ok (.if_icmp .ne 7, 3) := dz_160 (k_X3_leastClash 1 20 rfl) (k_X3_leastClash 1 21 rfl) (k_X3_leastClash 1 22 rfl) rfl
theorem dX3_leastClash_87 : decode cX3_leastClash 87 = .ok (.iconst 0, 1) := dz_3 (k_X3_leastClash 1 23 rfl)
theorem dX3_leastClash_88 : decode cX3_leastClash 88 = .ok (.goto 8, 3) := dz_167 (k_X3_leastClash 1 24 rfl) (k_X3_leastClash 1 25 rfl) (k_X3_leastClash 1 26 rfl) rfl
theorem dX3_leastClash_91 : decode cX3_leastClash 91 = .ok (.aload_n 0, 1) := dz_42 (k_X3_leastClash 1 27 rfl)
theorem dX3_leastClash_92 : decode cX3_leastClash 92 = .ok (.iload_n 3, 1) := dz_29 (k_X3_leastClash 1 28 rfl)
theorem dX3_leastClash_93 : decode cX3_leastClash 93 = .ok (.invokevirtual 107, 3) := dz_182 (k_X3_leastClash 1 29 rfl) (k_X3_leastClash 1 30 rfl) (k_X3_leastClash 1 31 rfl) rfl
theorem dX3_leastClash_96 : decode cX3_leastClash 96 = .ok (.ireturn, 1) := dz_172 (k_X3_leastClash 1 32 rfl)
def B_X3_leastOf : List (List Nat) := [[3, 61, 28, 42, 180, 0, 30, 182, 0, 34, 162, 0, 29, 43, 28, 47, 9, 148, 153, 0, 15, 28, 16, 64, 104, 43, 28, 47, 184, 0, 72, 96, 172, 132, 2, 1, 167, 255, 222, 2, 172]]
theorem k_X3_leastOf (j i : Nat) {b : Nat} (h : (B_X3_leastOf[j]?.bind fun c => c[i]?) = some b) : s_by cX3_leastOf (64 * j + i) b := s_byC (L := B_X3_leastOf) (by decide +kernel) (by decide +kernel) j i h
theorem dX3_leastOf_0 : decode cX3_leastOf 0 = .ok (.iconst 0, 1) := dz_3 (k_X3_leastOf 0 0 rfl)
theorem dX3_leastOf_1 : decode cX3_leastOf 1 = .ok (.istore_n 2, 1) := dz_61 (k_X3_leastOf 0 1 rfl)
theorem dX3_leastOf_2 : decode cX3_leastOf 2 = .ok (.iload_n 2, 1) := dz_28 (k_X3_leastOf 0 2 rfl)
theorem dX3_leastOf_3 : decode cX3_leastOf 3 = .ok (.aload_n 0, 1) := dz_42 (k_X3_leastOf 0 3 rfl)
theorem dX3_leastOf_4 : decode cX3_leastOf 4 = .ok (.getfield 30, 3) := dz_180 (k_X3_leastOf 0 4 rfl) (k_X3_leastOf 0 5 rfl) (k_X3_leastOf 0 6 rfl) rfl
theorem dX3_leastOf_7 : decode cX3_leastOf 7 = .ok (.invokevirtual 34, 3) := dz_182 (k_X3_leastOf 0 7 rfl) (k_X3_leastOf 0 8 rfl) (k_X3_leastOf 0 9 rfl) rfl
theorem dX3_leastOf_10 : decode cX3_leastOf 10 = .ok (.if_icmp .ge 29, 3) := dz_162 (k_X3_leastOf 0 10 rfl) (k_X3_leastOf 0 11 rfl) (k_X3_leastOf 0 12 rfl) rfl
theorem dX3_leastOf_13 : decode cX3_leastOf 13 = .ok (.aload_n 1, 1) := dz_43 (k_X3_leastOf 0 13 rfl)
theorem dX3_leastOf_14 : decode cX3_leastOf 14 = .ok (.iload_n 2, 1) := dz_28 (k_X3_leastOf 0 14 rfl)
theorem dX3_leastOf_15 : decode cX3_leastOf 15 = .ok (.laload, 1) := dz_47 (k_X3_leastOf 0 15 rfl)
theorem dX3_leastOf_16 : decode cX3_leastOf 16 = .ok (.lconst 0, 1) := dz_9 (k_X3_leastOf 0 16 rfl)
theorem dX3_leastOf_17 : decode cX3_leastOf 17 = .ok (.lcmp, 1) := dz_148 (k_X3_leastOf 0 17 rfl)
theorem dX3_leastOf_18 : decode cX3_leastOf 18 = .ok (.ifCond .eq 15, 3) := dz_153 (k_X3_leastOf 0 18 rfl) (k_X3_leastOf 0 19 rfl) (k_X3_leastOf 0 20 rfl) rfl
theorem dX3_leastOf_21 : decode cX3_leastOf 21 = .ok (.iload_n 2, 1) := dz_28 (k_X3_leastOf 0 21 rfl)
theorem dX3_leastOf_22 : decode cX3_leastOf 22 = .ok (.bipush 64, 2) := dz_16 (k_X3_leastOf 0 22 rfl) (k_X3_leastOf 0 23 rfl) rfl
theorem dX3_leastOf_24 : decode cX3_leastOf 24 = .ok (.imul, 1) := dz_104 (k_X3_leastOf 0 24 rfl)
theorem dX3_leastOf_25 : decode cX3_leastOf 25 = .ok (.aload_n 1, 1) := dz_43 (k_X3_leastOf 0 25 rfl)
theorem dX3_leastOf_26 : decode cX3_leastOf 26 = .ok (.iload_n 2, 1) := dz_28 (k_X3_leastOf 0 26 rfl)
theorem dX3_leastOf_27 : decode cX3_leastOf 27 = .ok (.laload, 1) := dz_47 (k_X3_leastOf 0 27 rfl)
theorem dX3_leastOf_28 : decode cX3_leastOf 28 = .ok (.invokestatic 72, 3) := dz_184 (k_X3_leastOf 0 28 rfl) (k_X3_leastOf 0 29 rfl) (k_X3_leastOf 0 30 rfl) rfl
theorem dX3_leastOf_31 : decode cX3_leastOf 31 = .ok (.iadd, 1) := dz_96 (k_X3_leastOf 0 31 rfl)
theorem dX3_leastOf_32 : decode cX3_leastOf 32 = .ok (.ireturn, 1) := dz_172 (k_X3_leastOf 0 32 rfl)
theorem dX3_leastOf_33 : decode cX3_leastOf 33 = .ok (.iinc 2 1, 3) := dz_132 (k_X3_leastOf 0 33 rfl) (k_X3_leastOf 0 34 rfl) (k_X3_leastOf 0 35 rfl) rfl
theorem dX3_leastOf_36 : decode cX3_leastOf 36 = .ok (.goto (-34), 3) := dz_167 (k_X3_leastOf 0 36 rfl) (k_X3_leastOf 0 37 rfl) (k_X3_leastOf 0 38 rfl) rfl
theorem dX3_leastOf_39 : decode cX3_leastOf 39 = .ok (.iconst (-1), 1) := dz_2 (k_X3_leastOf 0 39 rfl)
theorem dX3_leastOf_40 : decode cX3_leastOf 40 = .ok (.ireturn, 1) := dz_172 (k_X3_leastOf 0 40 rfl)
def B_X3_leastOutside : List (List Nat) := [[3, 62, 29, 42, 180, 0, 30, 182, 0, 34, 162, 0, 46, 43, 29, 47, 42, 180, 0, 30, 28, 29, 182, 0, 38, 20, 0, 56, 131, 127, 55, 4, 22, 4, 9, 148, 153, 0, 14, 29, 16, 64, 104, 22, 4, 184, 0, 72, 96, 172, 132, 3, 1, 167, 255, 205, 2, 172]]
theorem k_X3_leastOutside (j i : Nat) {b : Nat} (h : (B_X3_leastOutside[j]?.bind fun c => c[i]?) = some b) : s_by cX3_leastOutside (64 * j + i) b := s_byC (L := B_X3_leastOutside) (by decide +kernel) (by decide +kernel) j i h
theorem dX3_leastOutside_0 : decode cX3_leastOutside 0 = .ok (.iconst 0, 1) := dz_3 (k_X3_leastOutside 0 0 rfl)
theorem dX3_leastOutside_1 : decode cX3_leastOutside 1 = .ok (.istore_n 3, 1) := dz_62 (k_X3_leastOutside 0 1 rfl)
theorem dX3_leastOutside_2 : decode cX3_leastOutside 2 = .ok (.iload_n 3, 1) := dz_29 (k_X3_leastOutside 0 2 rfl)
theorem dX3_leastOutside_3 : decode cX3_leastOutside 3 = .ok (.aload_n 0, 1) := dz_42 (k_X3_leastOutside 0 3 rfl)
theorem dX3_leastOutside_4 : decode cX3_leastOutside 4 = .ok (.getfield 30, 3) := dz_180 (k_X3_leastOutside 0 4 rfl) (k_X3_leastOutside 0 5 rfl) (k_X3_leastOutside 0 6 rfl) rfl
theorem dX3_leastOutside_7 : decode cX3_leastOutside 7 = .ok (.invokevirtual 34, 3) := dz_182 (k_X3_leastOutside 0 7 rfl) (k_X3_leastOutside 0 8 rfl) (k_X3_leastOutside 0 9 rfl) rfl
theorem dX3_leastOutside_10 : decode cX3_leastOutside 10 = .ok (.if_icmp .ge 46, 3) := dz_162 (k_X3_leastOutside 0 10 rfl) (k_X3_leastOutside 0 11 rfl) (k_X3_leastOutside 0 12 rfl) rfl
theorem dX3_leastOutside_13 : decode cX3_leastOutside 13 = .ok (.aload_n 1, 1) := dz_43 (k_X3_leastOutside 0 13 rfl)
theorem dX3_leastOutside_14 : decode cX3_leastOutside 14 = .ok (.iload_n 3, 1) := dz_29 (k_X3_leastOutside 0 14 rfl)
theorem dX3_leastOutside_15 : decode cX3_leastOutside 15 = .ok (.laload, 1) := dz_47 (k_X3_leastOutside 0 15 rfl)
theorem dX3_leastOutside_16 : decode cX3_leastOutside 16 = .ok (.aload_n 0, 1) := dz_42 (k_X3_leastOutside 0 16 rfl)
theorem dX3_leastOutside_17 : decode cX3_leastOutside 17 = .ok (.getfield 30, 3) := dz_180 (k_X3_leastOutside 0 17 rfl) (k_X3_leastOutside 0 18 rfl) (k_X3_leastOutside 0 19 rfl) rfl
theorem dX3_leastOutside_20 : decode cX3_leastOutside 20 = .ok (.iload_n 2, 1) := dz_28 (k_X3_leastOutside 0 20 rfl)
theorem dX3_leastOutside_21 : decode cX3_leastOutside 21 = .ok (.iload_n 3, 1) := dz_29 (k_X3_leastOutside 0 21 rfl)
theorem dX3_leastOutside_22 : decode cX3_leastOutside 22 = .ok (.invokevirtual 38, 3) := dz_182 (k_X3_leastOutside 0 22 rfl) (k_X3_leastOutside 0 23 rfl) (k_X3_leastOutside 0 24 rfl) rfl
theorem dX3_leastOutside_25 : decode cX3_leastOutside 25 = .ok (.ldc2_w 56, 3) := dz_20 (k_X3_leastOutside 0 25 rfl) (k_X3_leastOutside 0 26 rfl) (k_X3_leastOutside 0 27 rfl) rfl
theorem dX3_leastOutside_28 : decode cX3_leastOutside 28 = .ok (.lxor, 1) := dz_131 (k_X3_leastOutside 0 28 rfl)
theorem dX3_leastOutside_29 : decode cX3_leastOutside 29 = .ok (.land, 1) := dz_127 (k_X3_leastOutside 0 29 rfl)
theorem dX3_leastOutside_30 : decode cX3_leastOutside 30 = .ok (.lstore 4, 2) := dz_55 (k_X3_leastOutside 0 30 rfl) (k_X3_leastOutside 0 31 rfl)
theorem dX3_leastOutside_32 : decode cX3_leastOutside 32 = .ok (.lload 4, 2) := dz_22 (k_X3_leastOutside 0 32 rfl) (k_X3_leastOutside 0 33 rfl)
theorem dX3_leastOutside_34 : decode cX3_leastOutside 34 = .ok (.lconst 0, 1) := dz_9 (k_X3_leastOutside 0 34 rfl)
theorem dX3_leastOutside_35 : decode cX3_leastOutside 35 = .ok (.lcmp, 1) := dz_148 (k_X3_leastOutside 0 35 rfl)
theorem dX3_leastOutside_36 : decode cX3_leastOutside 36 = .ok (.ifCond .eq 14, 3) := dz_153 (k_X3_leastOutside 0 36 rfl) (k_X3_leastOutside 0 37 rfl) (k_X3_leastOutside 0 38 rfl) rfl
theorem dX3_leastOutside_39 : decode cX3_leastOutside 39 = .ok (.iload_n 3, 1) := dz_29 (k_X3_leastOutside 0 39 rfl)
theorem dX3_leastOutside_40 : decode cX3_leastOutside 40 = .ok (.bipush 64, 2) := dz_16 (k_X3_leastOutside 0 40 rfl) (k_X3_leastOutside 0 41 rfl) rfl
theorem dX3_leastOutside_42 : decode cX3_leastOutside 42 = .ok (.imul, 1) := dz_104 (k_X3_leastOutside 0 42 rfl)
theorem dX3_leastOutside_43 : decode cX3_leastOutside 43 = .ok (.lload 4, 2) := dz_22 (k_X3_leastOutside 0 43 rfl) (k_X3_leastOutside 0 44 rfl)
theorem dX3_leastOutside_45 : decode cX3_leastOutside 45 = .ok (.invokestatic 72, 3) := dz_184 (k_X3_leastOutside 0 45 rfl) (k_X3_leastOutside 0 46 rfl) (k_X3_leastOutside 0 47 rfl) rfl
theorem dX3_leastOutside_48 : decode cX3_leastOutside 48 = .ok (.iadd, 1) := dz_96 (k_X3_leastOutside 0 48 rfl)
theorem dX3_leastOutside_49 : decode cX3_leastOutside 49 = .ok (.ireturn, 1) := dz_172 (k_X3_leastOutside 0 49 rfl)
theorem dX3_leastOutside_50 : decode cX3_leastOutside 50 = .ok (.iinc 3 1, 3) := dz_132 (k_X3_leastOutside 0 50 rfl) (k_X3_leastOutside 0 51 rfl) (k_X3_leastOutside 0 52 rfl) rfl
theorem dX3_leastOutside_53 : decode cX3_leastOutside 53 = .ok (.goto (-51), 3) := dz_167 (k_X3_leastOutside 0 53 rfl) (k_X3_leastOutside 0 54 rfl) (k_X3_leastOutside 0 55 rfl) rfl
theorem dX3_leastOutside_56 : decode cX3_leastOutside 56 = .ok (.iconst (-1), 1) := dz_2 (k_X3_leastOutside 0 56 rfl)
theorem dX3_leastOutside_57 : decode cX3_leastOutside 57 = .ok (.ireturn, 1) := dz_172 (k_X3_leastOutside 0 57 rfl)
def B_X3_leastWorld : List (List Nat) := [[42, 27, 42, 180, 0, 11, 182, 0, 75, 42, 42, 180, 0, 11, 182, 0, 68, 172]]
theorem k_X3_leastWorld (j i : Nat) {b : Nat} (h : (B_X3_leastWorld[j]?.bind fun c => c[i]?) = some b) : s_by cX3_leastWorld (64 * j + i) b := s_byC (L := B_X3_leastWorld) (by decide +kernel) (by decide +kernel) j i h
theorem dX3_leastWorld_0 : decode cX3_leastWorld 0 = .ok (.aload_n 0, 1) := dz_42 (k_X3_leastWorld 0 0 rfl)
theorem dX3_leastWorld_1 : decode cX3_leastWorld 1 = .ok (.iload_n 1, 1) := dz_27 (k_X3_leastWorld 0 1 rfl)
theorem dX3_leastWorld_2 : decode cX3_leastWorld 2 = .ok (.aload_n 0, 1) := dz_42 (k_X3_leastWorld 0 2 rfl)
theorem dX3_leastWorld_3 : decode cX3_leastWorld 3 = .ok (.getfield 11, 3) := dz_180 (k_X3_leastWorld 0 3 rfl) (k_X3_leastWorld 0 4 rfl) (k_X3_leastWorld 0 5 rfl) rfl
theorem dX3_leastWorld_6 : decode cX3_leastWorld 6 = .ok (.invokevirtual 75, 3) := dz_182 (k_X3_leastWorld 0 6 rfl) (k_X3_leastWorld 0 7 rfl) (k_X3_leastWorld 0 8 rfl) rfl
theorem dX3_leastWorld_9 : decode cX3_leastWorld 9 = .ok (.aload_n 0, 1) := dz_42 (k_X3_leastWorld 0 9 rfl)
theorem dX3_leastWorld_10 : decode cX3_leastWorld 10 = .ok (.aload_n 0, 1) := dz_42 (k_X3_leastWorld 0 10 rfl)
theorem dX3_leastWorld_11 : decode cX3_leastWorld 11 = .ok (.getfield 11, 3) := dz_180 (k_X3_leastWorld 0 11 rfl) (k_X3_leastWorld 0 12 rfl) (k_X3_leastWorld 0 13 rfl) rfl
theorem dX3_leastWorld_14 : decode cX3_leastWorld 14 = .ok (.invokevirtual 68, 3) := dz_182 (k_X3_leastWorld 0 14 rfl) (k_X3_leastWorld 0 15 rfl) (k_X3_leastWorld 0 16 rfl) rfl
theorem dX3_leastWorld_17 : decode cX3_leastWorld 17 = .ok (.ireturn, 1) := dz_172 (k_X3_leastWorld 0 17 rfl)
def B_X3_listMembers : List (List Nat) := [[3, 61, 3, 62, 29, 42, 180, 0, 30, 180, 0, 48, 162, 0, 33, 28, 16, 14, 162, 0, 27, 27, 29, 122, 4, 126, 153, 0, 13, 42, 180, 0, 23, 28, 29, 79, 132, 2, 1, 132, 3, 1, 167, 255, 218, 28, 172]]
theorem k_X3_listMembers (j i : Nat) {b : Nat} (h : (B_X3_listMembers[j]?.bind fun c => c[i]?) = some b) : s_by cX3_listMembers (64 * j + i) b := s_byC (L := B_X3_listMembers) (by decide +kernel) (by decide +kernel) j i h
theorem dX3_listMembers_0 : decode cX3_listMembers 0 = .ok (.iconst 0, 1) := dz_3 (k_X3_listMembers 0 0 rfl)
theorem dX3_listMembers_1 : decode cX3_listMembers 1 = .ok (.istore_n 2, 1) := dz_61 (k_X3_listMembers 0 1 rfl)
theorem dX3_listMembers_2 : decode cX3_listMembers 2 = .ok (.iconst 0, 1) := dz_3 (k_X3_listMembers 0 2 rfl)
theorem dX3_listMembers_3 : decode cX3_listMembers 3 = .ok (.istore_n 3, 1) := dz_62 (k_X3_listMembers 0 3 rfl)
theorem dX3_listMembers_4 : decode cX3_listMembers 4 = .ok (.iload_n 3, 1) := dz_29 (k_X3_listMembers 0 4 rfl)
theorem dX3_listMembers_5 : decode cX3_listMembers 5 = .ok (.aload_n 0, 1) := dz_42 (k_X3_listMembers 0 5 rfl)
theorem dX3_listMembers_6 : decode cX3_listMembers 6 = .ok (.getfield 30, 3) := dz_180 (k_X3_listMembers 0 6 rfl) (k_X3_listMembers 0 7 rfl) (k_X3_listMembers 0 8 rfl) rfl
theorem dX3_listMembers_9 : decode cX3_listMembers 9 = .ok (.getfield 48, 3) := dz_180 (k_X3_listMembers 0 9 rfl) (k_X3_listMembers 0 10 rfl) (k_X3_listMembers 0 11 rfl) rfl
theorem dX3_listMembers_12 : decode cX3_listMembers 12 = .ok (.if_icmp .ge 33, 3) := dz_162 (k_X3_listMembers 0 12 rfl) (k_X3_listMembers 0 13 rfl) (k_X3_listMembers 0 14 rfl) rfl
theorem dX3_listMembers_15 : decode cX3_listMembers 15 = .ok (.iload_n 2, 1) := dz_28 (k_X3_listMembers 0 15 rfl)
theorem dX3_listMembers_16 : decode cX3_listMembers 16 = .ok (.bipush 14, 2) := dz_16 (k_X3_listMembers 0 16 rfl) (k_X3_listMembers 0 17 rfl) rfl
theorem dX3_listMembers_18 : decode cX3_listMembers 18 = .ok (.if_icmp .ge 27, 3) := dz_162 (k_X3_listMembers 0 18 rfl) (k_X3_listMembers 0 19 rfl) (k_X3_listMembers 0 20 rfl) rfl
theorem dX3_listMembers_21 : decode cX3_listMembers 21 = .ok (.iload_n 1, 1) := dz_27 (k_X3_listMembers 0 21 rfl)
theorem dX3_listMembers_22 : decode cX3_listMembers 22 = .ok (.iload_n 3, 1) := dz_29 (k_X3_listMembers 0 22 rfl)
theorem dX3_listMembers_23 : decode cX3_listMembers 23 = .ok (.ishr, 1) := dz_122 (k_X3_listMembers 0 23 rfl)
theorem dX3_listMembers_24 : decode cX3_listMembers 24 = .ok (.iconst 1, 1) := dz_4 (k_X3_listMembers 0 24 rfl)
theorem dX3_listMembers_25 : decode cX3_listMembers 25 = .ok (.iand, 1) := dz_126 (k_X3_listMembers 0 25 rfl)
theorem dX3_listMembers_26 : decode cX3_listMembers 26 = .ok (.ifCond .eq 13, 3) := dz_153 (k_X3_listMembers 0 26 rfl) (k_X3_listMembers 0 27 rfl) (k_X3_listMembers 0 28 rfl) rfl
theorem dX3_listMembers_29 : decode cX3_listMembers 29 = .ok (.aload_n 0, 1) := dz_42 (k_X3_listMembers 0 29 rfl)
theorem dX3_listMembers_30 : decode cX3_listMembers 30 = .ok (.getfield 23, 3) := dz_180 (k_X3_listMembers 0 30 rfl) (k_X3_listMembers 0 31 rfl) (k_X3_listMembers 0 32 rfl) rfl
theorem dX3_listMembers_33 : decode cX3_listMembers 33 = .ok (.iload_n 2, 1) := dz_28 (k_X3_listMembers 0 33 rfl)
theorem dX3_listMembers_34 : decode cX3_listMembers 34 = .ok (.iload_n 3, 1) := dz_29 (k_X3_listMembers 0 34 rfl)
theorem dX3_listMembers_35 : decode cX3_listMembers 35 = .ok (.iastore, 1) := dz_79 (k_X3_listMembers 0 35 rfl)
theorem dX3_listMembers_36 : decode cX3_listMembers 36 = .ok (.iinc 2 1, 3) := dz_132 (k_X3_listMembers 0 36 rfl) (k_X3_listMembers 0 37 rfl) (k_X3_listMembers 0 38 rfl) rfl
theorem dX3_listMembers_39 : decode cX3_listMembers 39 = .ok (.iinc 3 1, 3) := dz_132 (k_X3_listMembers 0 39 rfl) (k_X3_listMembers 0 40 rfl) (k_X3_listMembers 0 41 rfl) rfl
theorem dX3_listMembers_42 : decode cX3_listMembers 42 = .ok (.goto (-38), 3) := dz_167 (k_X3_listMembers 0 42 rfl) (k_X3_listMembers 0 43 rfl) (k_X3_listMembers 0 44 rfl) rfl
theorem dX3_listMembers_45 : decode cX3_listMembers 45 = .ok (.iload_n 2, 1) := dz_28 (k_X3_listMembers 0 45 rfl)
theorem dX3_listMembers_46 : decode cX3_listMembers 46 = .ok (.ireturn, 1) := dz_172 (k_X3_listMembers 0 46 rfl)
def B_X3_markAcross : List (List Nat) := [[3, 61, 28, 42, 180, 0, 27, 190, 162, 0, 32, 28, 27, 126, 153, 0, 20, 42, 180, 0, 27, 28, 27, 130, 92, 47, 42, 180, 0, 27, 28, 47, 129, 80, 132, 2, 1, 167, 255, 221, 177]]
theorem k_X3_markAcross (j i : Nat) {b : Nat} (h : (B_X3_markAcross[j]?.bind fun c => c[i]?) = some b) : s_by cX3_markAcross (64 * j + i) b := s_byC (L := B_X3_markAcross) (by decide +kernel) (by decide +kernel) j i h
theorem dX3_markAcross_0 : decode cX3_markAcross 0 = .ok (.iconst 0, 1) := dz_3 (k_X3_markAcross 0 0 rfl)
theorem dX3_markAcross_1 : decode cX3_markAcross 1 = .ok (.istore_n 2, 1) := dz_61 (k_X3_markAcross 0 1 rfl)
theorem dX3_markAcross_2 : decode cX3_markAcross 2 = .ok (.iload_n 2, 1) := dz_28 (k_X3_markAcross 0 2 rfl)
theorem dX3_markAcross_3 : decode cX3_markAcross 3 = .ok (.aload_n 0, 1) := dz_42 (k_X3_markAcross 0 3 rfl)
theorem dX3_markAcross_4 : decode cX3_markAcross 4 = .ok (.getfield 27, 3) := dz_180 (k_X3_markAcross 0 4 rfl) (k_X3_markAcross 0 5 rfl) (k_X3_markAcross 0 6 rfl) rfl
theorem dX3_markAcross_7 : decode cX3_markAcross 7 = .ok (.arraylength, 1) := dz_190 (k_X3_markAcross 0 7 rfl)
theorem dX3_markAcross_8 : decode cX3_markAcross 8 = .ok (.if_icmp .ge 32, 3) := dz_162 (k_X3_markAcross 0 8 rfl) (k_X3_markAcross 0 9 rfl) (k_X3_markAcross 0 10 rfl) rfl
theorem dX3_markAcross_11 : decode cX3_markAcross 11 = .ok (.iload_n 2, 1) := dz_28 (k_X3_markAcross 0 11 rfl)
theorem dX3_markAcross_12 : decode cX3_markAcross 12 = .ok (.iload_n 1, 1) := dz_27 (k_X3_markAcross 0 12 rfl)
theorem dX3_markAcross_13 : decode cX3_markAcross 13 = .ok (.iand, 1) := dz_126 (k_X3_markAcross 0 13 rfl)
theorem dX3_markAcross_14 : decode cX3_markAcross 14 = .ok (.ifCond .eq 20, 3) := dz_153 (k_X3_markAcross 0 14 rfl) (k_X3_markAcross 0 15 rfl) (k_X3_markAcross 0 16 rfl) rfl
theorem dX3_markAcross_17 : decode cX3_markAcross 17 = .ok (.aload_n 0, 1) := dz_42 (k_X3_markAcross 0 17 rfl)
theorem dX3_markAcross_18 : decode cX3_markAcross 18 = .ok (.getfield 27, 3) := dz_180 (k_X3_markAcross 0 18 rfl) (k_X3_markAcross 0 19 rfl) (k_X3_markAcross 0 20 rfl) rfl
theorem dX3_markAcross_21 : decode cX3_markAcross 21 = .ok (.iload_n 2, 1) := dz_28 (k_X3_markAcross 0 21 rfl)
theorem dX3_markAcross_22 : decode cX3_markAcross 22 = .ok (.iload_n 1, 1) := dz_27 (k_X3_markAcross 0 22 rfl)
theorem dX3_markAcross_23 : decode cX3_markAcross 23 = .ok (.ixor, 1) := dz_130 (k_X3_markAcross 0 23 rfl)
theorem dX3_markAcross_24 : decode cX3_markAcross 24 = .ok (.dup2, 1) := dz_92 (k_X3_markAcross 0 24 rfl)
theorem dX3_markAcross_25 : decode cX3_markAcross 25 = .ok (.laload, 1) := dz_47 (k_X3_markAcross 0 25 rfl)
theorem dX3_markAcross_26 : decode cX3_markAcross 26 = .ok (.aload_n 0, 1) := dz_42 (k_X3_markAcross 0 26 rfl)
theorem dX3_markAcross_27 : decode cX3_markAcross 27 = .ok (.getfield 27, 3) := dz_180 (k_X3_markAcross 0 27 rfl) (k_X3_markAcross 0 28 rfl) (k_X3_markAcross 0 29 rfl) rfl
theorem dX3_markAcross_30 : decode cX3_markAcross 30 = .ok (.iload_n 2, 1) := dz_28 (k_X3_markAcross 0 30 rfl)
theorem dX3_markAcross_31 : decode cX3_markAcross 31 = .ok (.laload, 1) := dz_47 (k_X3_markAcross 0 31 rfl)
theorem dX3_markAcross_32 : decode cX3_markAcross 32 = .ok (.lor, 1) := dz_129 (k_X3_markAcross 0 32 rfl)
theorem dX3_markAcross_33 : decode cX3_markAcross 33 = .ok (.lastore, 1) := dz_80 (k_X3_markAcross 0 33 rfl)
theorem dX3_markAcross_34 : decode cX3_markAcross 34 = .ok (.iinc 2 1, 3) := dz_132 (k_X3_markAcross 0 34 rfl) (k_X3_markAcross 0 35 rfl) (k_X3_markAcross 0 36 rfl) rfl
theorem dX3_markAcross_37 : decode cX3_markAcross 37 = .ok (.goto (-35), 3) := dz_167 (k_X3_markAcross 0 37 rfl) (k_X3_markAcross 0 38 rfl) (k_X3_markAcross 0 39 rfl) rfl
theorem dX3_markAcross_40 : decode cX3_markAcross 40 = .ok (.return_, 1) := dz_177 (k_X3_markAcross 0 40 rfl)
def B_X3_markTogether : List (List Nat) := [[42, 180, 0, 27, 9, 184, 0, 58, 3, 61, 28, 42, 180, 0, 30, 182, 0, 98, 162, 0, 34, 42, 28, 27, 182, 0, 101, 62, 42, 180, 0, 27, 29, 16, 6, 122, 92, 47, 10, 29, 16, 63, 126, 121, 129, 80, 132, 2, 1, 167, 255, 217, 3, 61, 28, 27, 162, 0, 33, 28, 16, 6, 162, 0], [11, 42, 28, 182, 0, 114, 167, 0, 13, 42, 4, 28, 16, 6, 100, 120, 182, 0, 117, 132, 2, 1, 167, 255, 224, 177]]
theorem k_X3_markTogether (j i : Nat) {b : Nat} (h : (B_X3_markTogether[j]?.bind fun c => c[i]?) = some b) : s_by cX3_markTogether (64 * j + i) b := s_byC (L := B_X3_markTogether) (by decide +kernel) (by decide +kernel) j i h
theorem dX3_markTogether_0 : decode cX3_markTogether 0 = .ok (.aload_n 0, 1) := dz_42 (k_X3_markTogether 0 0 rfl)
theorem dX3_markTogether_1 : decode cX3_markTogether 1 = .ok (.getfield 27, 3) := dz_180 (k_X3_markTogether 0 1 rfl) (k_X3_markTogether 0 2 rfl) (k_X3_markTogether 0 3 rfl) rfl
theorem dX3_markTogether_4 : decode cX3_markTogether 4 = .ok (.lconst 0, 1) := dz_9 (k_X3_markTogether 0 4 rfl)
theorem dX3_markTogether_5 : decode cX3_markTogether 5 = .ok (.invokestatic 58, 3) := dz_184 (k_X3_markTogether 0 5 rfl) (k_X3_markTogether 0 6 rfl) (k_X3_markTogether 0 7 rfl) rfl
theorem dX3_markTogether_8 : decode cX3_markTogether 8 = .ok (.iconst 0, 1) := dz_3 (k_X3_markTogether 0 8 rfl)
theorem dX3_markTogether_9 : decode cX3_markTogether 9 = .ok (.istore_n 2, 1) := dz_61 (k_X3_markTogether 0 9 rfl)
theorem dX3_markTogether_10 : decode cX3_markTogether 10 = .ok (.iload_n 2, 1) := dz_28 (k_X3_markTogether 0 10 rfl)
theorem dX3_markTogether_11 : decode cX3_markTogether 11 = .ok (.aload_n 0, 1) := dz_42 (k_X3_markTogether 0 11 rfl)
theorem dX3_markTogether_12 : decode cX3_markTogether 12 = .ok (.getfield 30, 3) := dz_180 (k_X3_markTogether 0 12 rfl) (k_X3_markTogether 0 13 rfl) (k_X3_markTogether 0 14 rfl) rfl
theorem dX3_markTogether_15 : decode cX3_markTogether 15 = .ok (.invokevirtual 98, 3) := dz_182 (k_X3_markTogether 0 15 rfl) (k_X3_markTogether 0 16 rfl) (k_X3_markTogether 0 17 rfl) rfl
theorem dX3_markTogether_18 : decode cX3_markTogether 18 = .ok (.if_icmp .ge 34, 3) := dz_162 (k_X3_markTogether 0 18 rfl) (k_X3_markTogether 0 19 rfl) (k_X3_markTogether 0 20 rfl) rfl
theorem dX3_markTogether_21 : decode cX3_markTogether 21 = .ok (.aload_n 0, 1) := dz_42 (k_X3_markTogether 0 21 rfl)
theorem dX3_markTogether_22 : decode cX3_markTogether 22 = .ok (.iload_n 2, 1) := dz_28 (k_X3_markTogether 0 22 rfl)
theorem dX3_markTogether_23 : decode cX3_markTogether 23 = .ok (.iload_n 1, 1) := dz_27 (k_X3_markTogether 0 23 rfl)
theorem dX3_markTogether_24 : decode cX3_markTogether 24 = .ok (.invokevirtual 101, 3) := dz_182 (k_X3_markTogether 0 24 rfl) (k_X3_markTogether 0 25 rfl) (k_X3_markTogether 0 26 rfl) rfl
theorem dX3_markTogether_27 : decode cX3_markTogether 27 = .ok (.istore_n 3, 1) := dz_62 (k_X3_markTogether 0 27 rfl)
theorem dX3_markTogether_28 : decode cX3_markTogether 28 = .ok (.aload_n 0, 1) := dz_42 (k_X3_markTogether 0 28 rfl)
theorem dX3_markTogether_29 : decode cX3_markTogether 29 = .ok (.getfield 27, 3) := dz_180 (k_X3_markTogether 0 29 rfl) (k_X3_markTogether 0 30 rfl) (k_X3_markTogether 0 31 rfl) rfl
theorem dX3_markTogether_32 : decode cX3_markTogether 32 = .ok (.iload_n 3, 1) := dz_29 (k_X3_markTogether 0 32 rfl)
theorem dX3_markTogether_33 : decode cX3_markTogether 33 = .ok (.bipush 6, 2) := dz_16 (k_X3_markTogether 0 33 rfl) (k_X3_markTogether 0 34 rfl) rfl
theorem dX3_markTogether_35 : decode cX3_markTogether 35 = .ok (.ishr, 1) := dz_122 (k_X3_markTogether 0 35 rfl)
theorem dX3_markTogether_36 : decode cX3_markTogether 36 = .ok (.dup2, 1) := dz_92 (k_X3_markTogether 0 36 rfl)
theorem dX3_markTogether_37 : decode cX3_markTogether 37 = .ok (.laload, 1) := dz_47 (k_X3_markTogether 0 37 rfl)
theorem dX3_markTogether_38 : decode cX3_markTogether 38 = .ok (.lconst 1, 1) := dz_10 (k_X3_markTogether 0 38 rfl)
theorem dX3_markTogether_39 : decode cX3_markTogether 39 = .ok (.iload_n 3, 1) := dz_29 (k_X3_markTogether 0 39 rfl)
theorem dX3_markTogether_40 : decode cX3_markTogether 40 = .ok (.bipush 63, 2) := dz_16 (k_X3_markTogether 0 40 rfl) (k_X3_markTogether 0 41 rfl) rfl
theorem dX3_markTogether_42 : decode cX3_markTogether 42 = .ok (.iand, 1) := dz_126 (k_X3_markTogether 0 42 rfl)
theorem dX3_markTogether_43 : decode cX3_markTogether 43 = .ok (.lshl, 1) := dz_121 (k_X3_markTogether 0 43 rfl)
theorem dX3_markTogether_44 : decode cX3_markTogether 44 = .ok (.lor, 1) := dz_129 (k_X3_markTogether 0 44 rfl)
theorem dX3_markTogether_45 : decode cX3_markTogether 45 = .ok (.lastore, 1) := dz_80 (k_X3_markTogether 0 45 rfl)
theorem dX3_markTogether_46 : decode cX3_markTogether 46 = .ok (.iinc 2 1, 3) := dz_132 (k_X3_markTogether 0 46 rfl) (k_X3_markTogether 0 47 rfl) (k_X3_markTogether 0 48 rfl) rfl
theorem dX3_markTogether_49 : decode cX3_markTogether 49 = .ok (.goto (-39), 3) := dz_167 (k_X3_markTogether 0 49 rfl) (k_X3_markTogether 0 50 rfl) (k_X3_markTogether 0 51 rfl) rfl
theorem dX3_markTogether_52 : decode cX3_markTogether 52 = .ok (.iconst 0, 1) := dz_3 (k_X3_markTogether 0 52 rfl)
theorem dX3_markTogether_53 : decode cX3_markTogether 53 = .ok (.istore_n 2, 1) := dz_61 (k_X3_markTogether 0 53 rfl)
theorem dX3_markTogether_54 : decode cX3_markTogether 54 = .ok (.iload_n 2, 1) := dz_28 (k_X3_markTogether 0 54 rfl)
theorem dX3_markTogether_55 : decode cX3_markTogether 55 = .ok (.iload_n 1, 1) := dz_27 (k_X3_markTogether 0 55 rfl)
theorem dX3_markTogether_56 : decode cX3_markTogether 56 = .ok (.if_icmp .ge 33, 3) := dz_162 (k_X3_markTogether 0 56 rfl) (k_X3_markTogether 0 57 rfl) (k_X3_markTogether 0 58 rfl) rfl
theorem dX3_markTogether_59 : decode cX3_markTogether 59 = .ok (.iload_n 2, 1) := dz_28 (k_X3_markTogether 0 59 rfl)
theorem dX3_markTogether_60 : decode cX3_markTogether 60 = .ok (.bipush 6, 2) := dz_16 (k_X3_markTogether 0 60 rfl) (k_X3_markTogether 0 61 rfl) rfl
theorem dX3_markTogether_62 : decode cX3_markTogether 62 = .ok (.if_icmp .ge 11, 3) := dz_162 (k_X3_markTogether 0 62 rfl) (k_X3_markTogether 0 63 rfl) (k_X3_markTogether 1 0 rfl) rfl
theorem dX3_markTogether_65 : decode cX3_markTogether 65 = .ok (.aload_n 0, 1) := dz_42 (k_X3_markTogether 1 1 rfl)
theorem dX3_markTogether_66 : decode cX3_markTogether 66 = .ok (.iload_n 2, 1) := dz_28 (k_X3_markTogether 1 2 rfl)
theorem dX3_markTogether_67 : decode cX3_markTogether 67 = .ok (.invokevirtual 114, 3) := dz_182 (k_X3_markTogether 1 3 rfl) (k_X3_markTogether 1 4 rfl) (k_X3_markTogether 1 5 rfl) rfl
theorem dX3_markTogether_70 : decode cX3_markTogether 70 = .ok (.goto 13, 3) := dz_167 (k_X3_markTogether 1 6 rfl) (k_X3_markTogether 1 7 rfl) (k_X3_markTogether 1 8 rfl) rfl
theorem dX3_markTogether_73 : decode cX3_markTogether 73 = .ok (.aload_n 0, 1) := dz_42 (k_X3_markTogether 1 9 rfl)
theorem dX3_markTogether_74 : decode cX3_markTogether 74 = .ok (.iconst 1, 1) := dz_4 (k_X3_markTogether 1 10 rfl)
theorem dX3_markTogether_75 : decode cX3_markTogether 75 = .ok (.iload_n 2, 1) := dz_28 (k_X3_markTogether 1 11 rfl)
theorem dX3_markTogether_76 : decode cX3_markTogether 76 = .ok (.bipush 6, 2) := dz_16 (k_X3_markTogether 1 12 rfl) (k_X3_markTogether 1 13 rfl) rfl
theorem dX3_markTogether_78 : decode cX3_markTogether 78 = .ok (.isub, 1) := dz_100 (k_X3_markTogether 1 14 rfl)
theorem dX3_markTogether_79 : decode cX3_markTogether 79 = .ok (.ishl, 1) := dz_120 (k_X3_markTogether 1 15 rfl)
theorem dX3_markTogether_80 : decode cX3_markTogether 80 = .ok (.invokevirtual 117, 3) := dz_182 (k_X3_markTogether 1 16 rfl) (k_X3_markTogether 1 17 rfl) (k_X3_markTogether 1 18 rfl) rfl
theorem dX3_markTogether_83 : decode cX3_markTogether 83 = .ok (.iinc 2 1, 3) := dz_132 (k_X3_markTogether 1 19 rfl) (k_X3_markTogether 1 20 rfl) (k_X3_markTogether 1 21 rfl) rfl
theorem dX3_markTogether_86 : decode cX3_markTogether 86 = .ok (.goto (-32), 3) := dz_167 (k_X3_markTogether 1 22 rfl) (k_X3_markTogether 1 23 rfl) (k_X3_markTogether 1 24 rfl) rfl
theorem dX3_markTogether_89 : decode cX3_markTogether 89 = .ok (.return_, 1) := dz_177 (k_X3_markTogether 1 25 rfl)
def B_X3_markWithin : List (List Nat) := [[178, 0, 120, 27, 47, 20, 0, 56, 131, 65, 3, 54, 4, 21, 4, 42, 180, 0, 27, 190, 162, 0, 32, 42, 180, 0, 27, 21, 4, 92, 47, 42, 180, 0, 27, 21, 4, 47, 4, 27, 120, 125, 32, 127, 129, 80, 132, 4, 1, 167, 255, 220, 177]]
theorem k_X3_markWithin (j i : Nat) {b : Nat} (h : (B_X3_markWithin[j]?.bind fun c => c[i]?) = some b) : s_by cX3_markWithin (64 * j + i) b := s_byC (L := B_X3_markWithin) (by decide +kernel) (by decide +kernel) j i h
theorem dX3_markWithin_0 : decode cX3_markWithin 0 = .ok (.getstatic 120, 3) := dz_178 (k_X3_markWithin 0 0 rfl) (k_X3_markWithin 0 1 rfl) (k_X3_markWithin 0 2 rfl) rfl
theorem dX3_markWithin_3 : decode cX3_markWithin 3 = .ok (.iload_n 1, 1) := dz_27 (k_X3_markWithin 0 3 rfl)
theorem dX3_markWithin_4 : decode cX3_markWithin 4 = .ok (.laload, 1) := dz_47 (k_X3_markWithin 0 4 rfl)
theorem dX3_markWithin_5 : decode cX3_markWithin 5 = .ok (.ldc2_w 56, 3) := dz_20 (k_X3_markWithin 0 5 rfl) (k_X3_markWithin 0 6 rfl) (k_X3_markWithin 0 7 rfl) rfl
theorem dX3_markWithin_8 : decode cX3_markWithin 8 = .ok (.lxor, 1) := dz_131 (k_X3_markWithin 0 8 rfl)
theorem dX3_markWithin_9 : decode cX3_markWithin 9 = .ok (.lstore_n 2, 1) := dz_65 (k_X3_markWithin 0 9 rfl)
theorem dX3_markWithin_10 : decode cX3_markWithin 10 = .ok (.iconst 0, 1) := dz_3 (k_X3_markWithin 0 10 rfl)
theorem dX3_markWithin_11 : decode cX3_markWithin 11 = .ok (.istore 4, 2) := dz_54 (k_X3_markWithin 0 11 rfl) (k_X3_markWithin 0 12 rfl)
theorem dX3_markWithin_13 : decode cX3_markWithin 13 = .ok (.iload 4, 2) := dz_21 (k_X3_markWithin 0 13 rfl) (k_X3_markWithin 0 14 rfl)
theorem dX3_markWithin_15 : decode cX3_markWithin 15 = .ok (.aload_n 0, 1) := dz_42 (k_X3_markWithin 0 15 rfl)
theorem dX3_markWithin_16 : decode cX3_markWithin 16 = .ok (.getfield 27, 3) := dz_180 (k_X3_markWithin 0 16 rfl) (k_X3_markWithin 0 17 rfl) (k_X3_markWithin 0 18 rfl) rfl
theorem dX3_markWithin_19 : decode cX3_markWithin 19 = .ok (.arraylength, 1) := dz_190 (k_X3_markWithin 0 19 rfl)
theorem dX3_markWithin_20 : decode cX3_markWithin 20 = .ok (.if_icmp .ge 32, 3) := dz_162 (k_X3_markWithin 0 20 rfl) (k_X3_markWithin 0 21 rfl) (k_X3_markWithin 0 22 rfl) rfl
theorem dX3_markWithin_23 : decode cX3_markWithin 23 = .ok (.aload_n 0, 1) := dz_42 (k_X3_markWithin 0 23 rfl)
theorem dX3_markWithin_24 : decode cX3_markWithin 24 = .ok (.getfield 27, 3) := dz_180 (k_X3_markWithin 0 24 rfl) (k_X3_markWithin 0 25 rfl) (k_X3_markWithin 0 26 rfl) rfl
theorem dX3_markWithin_27 : decode cX3_markWithin 27 = .ok (.iload 4, 2) := dz_21 (k_X3_markWithin 0 27 rfl) (k_X3_markWithin 0 28 rfl)
theorem dX3_markWithin_29 : decode cX3_markWithin 29 = .ok (.dup2, 1) := dz_92 (k_X3_markWithin 0 29 rfl)
theorem dX3_markWithin_30 : decode cX3_markWithin 30 = .ok (.laload, 1) := dz_47 (k_X3_markWithin 0 30 rfl)
theorem dX3_markWithin_31 : decode cX3_markWithin 31 = .ok (.aload_n 0, 1) := dz_42 (k_X3_markWithin 0 31 rfl)
theorem dX3_markWithin_32 : decode cX3_markWithin 32 = .ok (.getfield 27, 3) := dz_180 (k_X3_markWithin 0 32 rfl) (k_X3_markWithin 0 33 rfl) (k_X3_markWithin 0 34 rfl) rfl
theorem dX3_markWithin_35 : decode cX3_markWithin 35 = .ok (.iload 4, 2) := dz_21 (k_X3_markWithin 0 35 rfl) (k_X3_markWithin 0 36 rfl)
theorem dX3_markWithin_37 : decode cX3_markWithin 37 = .ok (.laload, 1) := dz_47 (k_X3_markWithin 0 37 rfl)
theorem dX3_markWithin_38 : decode cX3_markWithin 38 = .ok (.iconst 1, 1) := dz_4 (k_X3_markWithin 0 38 rfl)
theorem dX3_markWithin_39 : decode cX3_markWithin 39 = .ok (.iload_n 1, 1) := dz_27 (k_X3_markWithin 0 39 rfl)
theorem dX3_markWithin_40 : decode cX3_markWithin 40 = .ok (.ishl, 1) := dz_120 (k_X3_markWithin 0 40 rfl)
theorem dX3_markWithin_41 : decode cX3_markWithin 41 = .ok (.lushr, 1) := dz_125 (k_X3_markWithin 0 41 rfl)
theorem dX3_markWithin_42 : decode cX3_markWithin 42 = .ok (.lload_n 2, 1) := dz_32 (k_X3_markWithin 0 42 rfl)
theorem dX3_markWithin_43 : decode cX3_markWithin 43 = .ok (.land, 1) := dz_127 (k_X3_markWithin 0 43 rfl)
theorem dX3_markWithin_44 : decode cX3_markWithin 44 = .ok (.lor, 1) := dz_129 (k_X3_markWithin 0 44 rfl)
theorem dX3_markWithin_45 : decode cX3_markWithin 45 = .ok (.lastore, 1) := dz_80 (k_X3_markWithin 0 45 rfl)
theorem dX3_markWithin_46 : decode cX3_markWithin 46 = .ok (.iinc 4 1, 3) := dz_132 (k_X3_markWithin 0 46 rfl) (k_X3_markWithin 0 47 rfl) (k_X3_markWithin 0 48 rfl) rfl
theorem dX3_markWithin_49 : decode cX3_markWithin 49 = .ok (.goto (-36), 3) := dz_167 (k_X3_markWithin 0 49 rfl) (k_X3_markWithin 0 50 rfl) (k_X3_markWithin 0 51 rfl) rfl
theorem dX3_markWithin_52 : decode cX3_markWithin 52 = .ok (.return_, 1) := dz_177 (k_X3_markWithin 0 52 rfl)
def B_X3_membersIn : List (List Nat) := [[3, 62, 3, 54, 4, 21, 4, 28, 162, 0, 41, 21, 4, 16, 14, 162, 0, 34, 42, 180, 0, 30, 42, 180, 0, 23, 21, 4, 46, 27, 182, 0, 52, 153, 0, 10, 29, 4, 21, 4, 120, 128, 62, 132, 4, 1, 167, 255, 215, 29, 172]]
theorem k_X3_membersIn (j i : Nat) {b : Nat} (h : (B_X3_membersIn[j]?.bind fun c => c[i]?) = some b) : s_by cX3_membersIn (64 * j + i) b := s_byC (L := B_X3_membersIn) (by decide +kernel) (by decide +kernel) j i h
theorem dX3_membersIn_0 : decode cX3_membersIn 0 = .ok (.iconst 0, 1) := dz_3 (k_X3_membersIn 0 0 rfl)
theorem dX3_membersIn_1 : decode cX3_membersIn 1 = .ok (.istore_n 3, 1) := dz_62 (k_X3_membersIn 0 1 rfl)
theorem dX3_membersIn_2 : decode cX3_membersIn 2 = .ok (.iconst 0, 1) := dz_3 (k_X3_membersIn 0 2 rfl)
theorem dX3_membersIn_3 : decode cX3_membersIn 3 = .ok (.istore 4, 2) := dz_54 (k_X3_membersIn 0 3 rfl) (k_X3_membersIn 0 4 rfl)
theorem dX3_membersIn_5 : decode cX3_membersIn 5 = .ok (.iload 4, 2) := dz_21 (k_X3_membersIn 0 5 rfl) (k_X3_membersIn 0 6 rfl)
theorem dX3_membersIn_7 : decode cX3_membersIn 7 = .ok (.iload_n 2, 1) := dz_28 (k_X3_membersIn 0 7 rfl)
theorem dX3_membersIn_8 : decode cX3_membersIn 8 = .ok (.if_icmp .ge 41, 3) := dz_162 (k_X3_membersIn 0 8 rfl) (k_X3_membersIn 0 9 rfl) (k_X3_membersIn 0 10 rfl) rfl
theorem dX3_membersIn_11 : decode cX3_membersIn 11 = .ok (.iload 4, 2) := dz_21 (k_X3_membersIn 0 11 rfl) (k_X3_membersIn 0 12 rfl)
theorem dX3_membersIn_13 : decode cX3_membersIn 13 = .ok (.bipush 14, 2) := dz_16 (k_X3_membersIn 0 13 rfl) (k_X3_membersIn 0 14 rfl) rfl
theorem dX3_membersIn_15 : decode cX3_membersIn 15 = .ok (.if_icmp .ge 34, 3) := dz_162 (k_X3_membersIn 0 15 rfl) (k_X3_membersIn 0 16 rfl) (k_X3_membersIn 0 17 rfl) rfl
theorem dX3_membersIn_18 : decode cX3_membersIn 18 = .ok (.aload_n 0, 1) := dz_42 (k_X3_membersIn 0 18 rfl)
theorem dX3_membersIn_19 : decode cX3_membersIn 19 = .ok (.getfield 30, 3) := dz_180 (k_X3_membersIn 0 19 rfl) (k_X3_membersIn 0 20 rfl) (k_X3_membersIn 0 21 rfl) rfl
theorem dX3_membersIn_22 : decode cX3_membersIn 22 = .ok (.aload_n 0, 1) := dz_42 (k_X3_membersIn 0 22 rfl)
theorem dX3_membersIn_23 : decode cX3_membersIn 23 = .ok (.getfield 23, 3) := dz_180 (k_X3_membersIn 0 23 rfl) (k_X3_membersIn 0 24 rfl) (k_X3_membersIn 0 25 rfl) rfl
theorem dX3_membersIn_26 : decode cX3_membersIn 26 = .ok (.iload 4, 2) := dz_21 (k_X3_membersIn 0 26 rfl) (k_X3_membersIn 0 27 rfl)
theorem dX3_membersIn_28 : decode cX3_membersIn 28 = .ok (.iaload, 1) := dz_46 (k_X3_membersIn 0 28 rfl)
theorem dX3_membersIn_29 : decode cX3_membersIn 29 = .ok (.iload_n 1, 1) := dz_27 (k_X3_membersIn 0 29 rfl)
theorem dX3_membersIn_30 : decode cX3_membersIn 30 = .ok (.invokevirtual 52, 3) := dz_182 (k_X3_membersIn 0 30 rfl) (k_X3_membersIn 0 31 rfl) (k_X3_membersIn 0 32 rfl) rfl
theorem dX3_membersIn_33 : decode cX3_membersIn 33 = .ok (.ifCond .eq 10, 3) := dz_153 (k_X3_membersIn 0 33 rfl) (k_X3_membersIn 0 34 rfl) (k_X3_membersIn 0 35 rfl) rfl
theorem dX3_membersIn_36 : decode cX3_membersIn 36 = .ok (.iload_n 3, 1) := dz_29 (k_X3_membersIn 0 36 rfl)
theorem dX3_membersIn_37 : decode cX3_membersIn 37 = .ok (.iconst 1, 1) := dz_4 (k_X3_membersIn 0 37 rfl)
theorem dX3_membersIn_38 : decode cX3_membersIn 38 = .ok (.iload 4, 2) := dz_21 (k_X3_membersIn 0 38 rfl) (k_X3_membersIn 0 39 rfl)
theorem dX3_membersIn_40 : decode cX3_membersIn 40 = .ok (.ishl, 1) := dz_120 (k_X3_membersIn 0 40 rfl)
theorem dX3_membersIn_41 : decode cX3_membersIn 41 = .ok (.ior, 1) := dz_128 (k_X3_membersIn 0 41 rfl)
theorem dX3_membersIn_42 : decode cX3_membersIn 42 = .ok (.istore_n 3, 1) := dz_62 (k_X3_membersIn 0 42 rfl)
theorem dX3_membersIn_43 : decode cX3_membersIn 43 = .ok (.iinc 4 1, 3) := dz_132 (k_X3_membersIn 0 43 rfl) (k_X3_membersIn 0 44 rfl) (k_X3_membersIn 0 45 rfl) rfl
theorem dX3_membersIn_46 : decode cX3_membersIn 46 = .ok (.goto (-41), 3) := dz_167 (k_X3_membersIn 0 46 rfl) (k_X3_membersIn 0 47 rfl) (k_X3_membersIn 0 48 rfl) rfl
theorem dX3_membersIn_49 : decode cX3_membersIn 49 = .ok (.iload_n 3, 1) := dz_29 (k_X3_membersIn 0 49 rfl)
theorem dX3_membersIn_50 : decode cX3_membersIn 50 = .ok (.ireturn, 1) := dz_172 (k_X3_membersIn 0 50 rfl)
def B_X3_narrow : List (List Nat) := [[3, 54, 4, 21, 4, 42, 180, 0, 30, 182, 0, 34, 162, 0, 28, 45, 21, 4, 43, 21, 4, 47, 42, 180, 0, 30, 28, 21, 4, 182, 0, 38, 127, 80, 132, 4, 1, 167, 255, 222, 177]]
theorem k_X3_narrow (j i : Nat) {b : Nat} (h : (B_X3_narrow[j]?.bind fun c => c[i]?) = some b) : s_by cX3_narrow (64 * j + i) b := s_byC (L := B_X3_narrow) (by decide +kernel) (by decide +kernel) j i h
theorem dX3_narrow_0 : decode cX3_narrow 0 = .ok (.iconst 0, 1) := dz_3 (k_X3_narrow 0 0 rfl)
theorem dX3_narrow_1 : decode cX3_narrow 1 = .ok (.istore 4, 2) := dz_54 (k_X3_narrow 0 1 rfl) (k_X3_narrow 0 2 rfl)
theorem dX3_narrow_3 : decode cX3_narrow 3 = .ok (.iload 4, 2) := dz_21 (k_X3_narrow 0 3 rfl) (k_X3_narrow 0 4 rfl)
theorem dX3_narrow_5 : decode cX3_narrow 5 = .ok (.aload_n 0, 1) := dz_42 (k_X3_narrow 0 5 rfl)
theorem dX3_narrow_6 : decode cX3_narrow 6 = .ok (.getfield 30, 3) := dz_180 (k_X3_narrow 0 6 rfl) (k_X3_narrow 0 7 rfl) (k_X3_narrow 0 8 rfl) rfl
theorem dX3_narrow_9 : decode cX3_narrow 9 = .ok (.invokevirtual 34, 3) := dz_182 (k_X3_narrow 0 9 rfl) (k_X3_narrow 0 10 rfl) (k_X3_narrow 0 11 rfl) rfl
theorem dX3_narrow_12 : decode cX3_narrow 12 = .ok (.if_icmp .ge 28, 3) := dz_162 (k_X3_narrow 0 12 rfl) (k_X3_narrow 0 13 rfl) (k_X3_narrow 0 14 rfl) rfl
theorem dX3_narrow_15 : decode cX3_narrow 15 = .ok (.aload_n 3, 1) := dz_45 (k_X3_narrow 0 15 rfl)
theorem dX3_narrow_16 : decode cX3_narrow 16 = .ok (.iload 4, 2) := dz_21 (k_X3_narrow 0 16 rfl) (k_X3_narrow 0 17 rfl)
theorem dX3_narrow_18 : decode cX3_narrow 18 = .ok (.aload_n 1, 1) := dz_43 (k_X3_narrow 0 18 rfl)
theorem dX3_narrow_19 : decode cX3_narrow 19 = .ok (.iload 4, 2) := dz_21 (k_X3_narrow 0 19 rfl) (k_X3_narrow 0 20 rfl)
theorem dX3_narrow_21 : decode cX3_narrow 21 = .ok (.laload, 1) := dz_47 (k_X3_narrow 0 21 rfl)
theorem dX3_narrow_22 : decode cX3_narrow 22 = .ok (.aload_n 0, 1) := dz_42 (k_X3_narrow 0 22 rfl)
theorem dX3_narrow_23 : decode cX3_narrow 23 = .ok (.getfield 30, 3) := dz_180 (k_X3_narrow 0 23 rfl) (k_X3_narrow 0 24 rfl) (k_X3_narrow 0 25 rfl) rfl
theorem dX3_narrow_26 : decode cX3_narrow 26 = .ok (.iload_n 2, 1) := dz_28 (k_X3_narrow 0 26 rfl)
theorem dX3_narrow_27 : decode cX3_narrow 27 = .ok (.iload 4, 2) := dz_21 (k_X3_narrow 0 27 rfl) (k_X3_narrow 0 28 rfl)
theorem dX3_narrow_29 : decode cX3_narrow 29 = .ok (.invokevirtual 38, 3) := dz_182 (k_X3_narrow 0 29 rfl) (k_X3_narrow 0 30 rfl) (k_X3_narrow 0 31 rfl) rfl
theorem dX3_narrow_32 : decode cX3_narrow 32 = .ok (.land, 1) := dz_127 (k_X3_narrow 0 32 rfl)
theorem dX3_narrow_33 : decode cX3_narrow 33 = .ok (.lastore, 1) := dz_80 (k_X3_narrow 0 33 rfl)
theorem dX3_narrow_34 : decode cX3_narrow 34 = .ok (.iinc 4 1, 3) := dz_132 (k_X3_narrow 0 34 rfl) (k_X3_narrow 0 35 rfl) (k_X3_narrow 0 36 rfl) rfl
theorem dX3_narrow_37 : decode cX3_narrow 37 = .ok (.goto (-34), 3) := dz_167 (k_X3_narrow 0 37 rfl) (k_X3_narrow 0 38 rfl) (k_X3_narrow 0 39 rfl) rfl
theorem dX3_narrow_40 : decode cX3_narrow 40 = .ok (.return_, 1) := dz_177 (k_X3_narrow 0 40 rfl)
def B_X3_oneMore : List (List Nat) := [[3, 54, 4, 21, 4, 29, 162, 0, 35, 42, 21, 4, 28, 182, 0, 142, 153, 0, 19, 42, 43, 21, 4, 28, 182, 0, 145, 153, 0, 8, 4, 21, 4, 120, 172, 132, 4, 1, 167, 255, 221, 2, 172]]
theorem k_X3_oneMore (j i : Nat) {b : Nat} (h : (B_X3_oneMore[j]?.bind fun c => c[i]?) = some b) : s_by cX3_oneMore (64 * j + i) b := s_byC (L := B_X3_oneMore) (by decide +kernel) (by decide +kernel) j i h
theorem dX3_oneMore_0 : decode cX3_oneMore 0 = .ok (.iconst 0, 1) := dz_3 (k_X3_oneMore 0 0 rfl)
theorem dX3_oneMore_1 : decode cX3_oneMore 1 = .ok (.istore 4, 2) := dz_54 (k_X3_oneMore 0 1 rfl) (k_X3_oneMore 0 2 rfl)
theorem dX3_oneMore_3 : decode cX3_oneMore 3 = .ok (.iload 4, 2) := dz_21 (k_X3_oneMore 0 3 rfl) (k_X3_oneMore 0 4 rfl)
theorem dX3_oneMore_5 : decode cX3_oneMore 5 = .ok (.iload_n 3, 1) := dz_29 (k_X3_oneMore 0 5 rfl)
theorem dX3_oneMore_6 : decode cX3_oneMore 6 = .ok (.if_icmp .ge 35, 3) := dz_162 (k_X3_oneMore 0 6 rfl) (k_X3_oneMore 0 7 rfl) (k_X3_oneMore 0 8 rfl) rfl
theorem dX3_oneMore_9 : decode cX3_oneMore 9 = .ok (.aload_n 0, 1) := dz_42 (k_X3_oneMore 0 9 rfl)
theorem dX3_oneMore_10 : decode cX3_oneMore 10 = .ok (.iload 4, 2) := dz_21 (k_X3_oneMore 0 10 rfl) (k_X3_oneMore 0 11 rfl)
theorem dX3_oneMore_12 : decode cX3_oneMore 12 = .ok (.iload_n 2, 1) := dz_28 (k_X3_oneMore 0 12 rfl)
theorem dX3_oneMore_13 : decode cX3_oneMore 13 = .ok (.invokevirtual 142, 3) := dz_182 (k_X3_oneMore 0 13 rfl) (k_X3_oneMore 0 14 rfl) (k_X3_oneMore 0 15 rfl) rfl
theorem dX3_oneMore_16 : decode cX3_oneMore 16 = .ok (.ifCond .eq 19, 3) := dz_153 (k_X3_oneMore 0 16 rfl) (k_X3_oneMore 0 17 rfl) (k_X3_oneMore 0 18 rfl) rfl
theorem dX3_oneMore_19 : decode cX3_oneMore 19 = .ok (.aload_n 0, 1) := dz_42 (k_X3_oneMore 0 19 rfl)
theorem dX3_oneMore_20 : decode cX3_oneMore 20 = .ok (.aload_n 1, 1) := dz_43 (k_X3_oneMore 0 20 rfl)
theorem dX3_oneMore_21 : decode cX3_oneMore 21 = .ok (.iload 4, 2) := dz_21 (k_X3_oneMore 0 21 rfl) (k_X3_oneMore 0 22 rfl)
theorem dX3_oneMore_23 : decode cX3_oneMore 23 = .ok (.iload_n 2, 1) := dz_28 (k_X3_oneMore 0 23 rfl)
theorem dX3_oneMore_24 : decode cX3_oneMore 24 = .ok (.invokevirtual 145, 3) := dz_182 (k_X3_oneMore 0 24 rfl) (k_X3_oneMore 0 25 rfl) (k_X3_oneMore 0 26 rfl) rfl
theorem dX3_oneMore_27 : decode cX3_oneMore 27 = .ok (.ifCond .eq 8, 3) := dz_153 (k_X3_oneMore 0 27 rfl) (k_X3_oneMore 0 28 rfl) (k_X3_oneMore 0 29 rfl) rfl
theorem dX3_oneMore_30 : decode cX3_oneMore 30 = .ok (.iconst 1, 1) := dz_4 (k_X3_oneMore 0 30 rfl)
theorem dX3_oneMore_31 : decode cX3_oneMore 31 = .ok (.iload 4, 2) := dz_21 (k_X3_oneMore 0 31 rfl) (k_X3_oneMore 0 32 rfl)
theorem dX3_oneMore_33 : decode cX3_oneMore 33 = .ok (.ishl, 1) := dz_120 (k_X3_oneMore 0 33 rfl)
theorem dX3_oneMore_34 : decode cX3_oneMore 34 = .ok (.ireturn, 1) := dz_172 (k_X3_oneMore 0 34 rfl)
theorem dX3_oneMore_35 : decode cX3_oneMore 35 = .ok (.iinc 4 1, 3) := dz_132 (k_X3_oneMore 0 35 rfl) (k_X3_oneMore 0 36 rfl) (k_X3_oneMore 0 37 rfl) rfl
theorem dX3_oneMore_38 : decode cX3_oneMore 38 = .ok (.goto (-35), 3) := dz_167 (k_X3_oneMore 0 38 rfl) (k_X3_oneMore 0 39 rfl) (k_X3_oneMore 0 40 rfl) rfl
theorem dX3_oneMore_41 : decode cX3_oneMore 41 = .ok (.iconst (-1), 1) := dz_2 (k_X3_oneMore 0 41 rfl)
theorem dX3_oneMore_42 : decode cX3_oneMore 42 = .ok (.ireturn, 1) := dz_172 (k_X3_oneMore 0 42 rfl)
def B_X3_provesWith : List (List Nat) := [[9, 55, 4, 3, 54, 6, 21, 6, 42, 180, 0, 30, 182, 0, 34, 162, 0, 57, 43, 21, 6, 47, 42, 180, 0, 30, 28, 21, 6, 182, 0, 38, 127, 55, 7, 22, 7, 42, 180, 0, 30, 29, 21, 6, 182, 0, 38, 20, 0, 56, 131, 127, 9, 148, 153, 0, 5, 3, 172, 22, 4, 22, 7, 129], [55, 4, 132, 6, 1, 167, 255, 193, 22, 4, 9, 148, 153, 0, 7, 4, 167, 0, 4, 3, 172]]
theorem k_X3_provesWith (j i : Nat) {b : Nat} (h : (B_X3_provesWith[j]?.bind fun c => c[i]?) = some b) : s_by cX3_provesWith (64 * j + i) b := s_byC (L := B_X3_provesWith) (by decide +kernel) (by decide +kernel) j i h
theorem dX3_provesWith_0 : decode cX3_provesWith 0 = .ok (.lconst 0, 1) := dz_9 (k_X3_provesWith 0 0 rfl)
theorem dX3_provesWith_1 : decode cX3_provesWith 1 = .ok (.lstore 4, 2) := dz_55 (k_X3_provesWith 0 1 rfl) (k_X3_provesWith 0 2 rfl)
theorem dX3_provesWith_3 : decode cX3_provesWith 3 = .ok (.iconst 0, 1) := dz_3 (k_X3_provesWith 0 3 rfl)
theorem dX3_provesWith_4 : decode cX3_provesWith 4 = .ok (.istore 6, 2) := dz_54 (k_X3_provesWith 0 4 rfl) (k_X3_provesWith 0 5 rfl)
theorem dX3_provesWith_6 : decode cX3_provesWith 6 = .ok (.iload 6, 2) := dz_21 (k_X3_provesWith 0 6 rfl) (k_X3_provesWith 0 7 rfl)
theorem dX3_provesWith_8 : decode cX3_provesWith 8 = .ok (.aload_n 0, 1) := dz_42 (k_X3_provesWith 0 8 rfl)
theorem dX3_provesWith_9 : decode cX3_provesWith 9 = .ok (.getfield 30, 3) := dz_180 (k_X3_provesWith 0 9 rfl) (k_X3_provesWith 0 10 rfl) (k_X3_provesWith 0 11 rfl) rfl
theorem dX3_provesWith_12 : decode cX3_provesWith 12 = .ok (.invokevirtual 34, 3) := dz_182 (k_X3_provesWith 0 12 rfl) (k_X3_provesWith 0 13 rfl) (k_X3_provesWith 0 14 rfl) rfl
theorem dX3_provesWith_15 : decode cX3_provesWith 15 = .ok (.if_icmp .ge 57, 3) := dz_162 (k_X3_provesWith 0 15 rfl) (k_X3_provesWith 0 16 rfl) (k_X3_provesWith 0 17 rfl) rfl
theorem dX3_provesWith_18 : decode cX3_provesWith 18 = .ok (.aload_n 1, 1) := dz_43 (k_X3_provesWith 0 18 rfl)
theorem dX3_provesWith_19 : decode cX3_provesWith 19 = .ok (.iload 6, 2) := dz_21 (k_X3_provesWith 0 19 rfl) (k_X3_provesWith 0 20 rfl)
theorem dX3_provesWith_21 : decode cX3_provesWith 21 = .ok (.laload, 1) := dz_47 (k_X3_provesWith 0 21 rfl)
theorem dX3_provesWith_22 : decode cX3_provesWith 22 = .ok (.aload_n 0, 1) := dz_42 (k_X3_provesWith 0 22 rfl)
theorem dX3_provesWith_23 : decode cX3_provesWith 23 = .ok (.getfield 30, 3) := dz_180 (k_X3_provesWith 0 23 rfl) (k_X3_provesWith 0 24 rfl) (k_X3_provesWith 0 25 rfl) rfl
theorem dX3_provesWith_26 : decode cX3_provesWith 26 = .ok (.iload_n 2, 1) := dz_28 (k_X3_provesWith 0 26 rfl)
theorem dX3_provesWith_27 : decode cX3_provesWith 27 = .ok (.iload 6, 2) := dz_21 (k_X3_provesWith 0 27 rfl) (k_X3_provesWith 0 28 rfl)
theorem dX3_provesWith_29 : decode cX3_provesWith 29 = .ok (.invokevirtual 38, 3) := dz_182 (k_X3_provesWith 0 29 rfl) (k_X3_provesWith 0 30 rfl) (k_X3_provesWith 0 31 rfl) rfl
theorem dX3_provesWith_32 : decode cX3_provesWith 32 = .ok (.land, 1) := dz_127 (k_X3_provesWith 0 32 rfl)
theorem dX3_provesWith_33 : decode cX3_provesWith 33 = .ok (.lstore 7, 2) := dz_55 (k_X3_provesWith 0 33 rfl) (k_X3_provesWith 0 34 rfl)
theorem dX3_provesWith_35 : decode cX3_provesWith 35 = .ok (.lload 7, 2) := dz_22 (k_X3_provesWith 0 35 rfl) (k_X3_provesWith 0 36 rfl)
theorem dX3_provesWith_37 : decode cX3_provesWith 37 = .ok (.aload_n 0, 1) := dz_42 (k_X3_provesWith 0 37 rfl)
theorem dX3_provesWith_38 : decode cX3_provesWith 38 = .ok (.getfield 30, 3) := dz_180 (k_X3_provesWith 0 38 rfl) (k_X3_provesWith 0 39 rfl) (k_X3_provesWith 0 40 rfl) rfl
theorem dX3_provesWith_41 : decode cX3_provesWith 41 = .ok (.iload_n 3, 1) := dz_29 (k_X3_provesWith 0 41 rfl)
theorem dX3_provesWith_42 : decode cX3_provesWith 42 = .ok (.iload 6, 2) := dz_21 (k_X3_provesWith 0 42 rfl) (k_X3_provesWith 0 43 rfl)
theorem dX3_provesWith_44 : decode cX3_provesWith 44 = .ok (.invokevirtual 38, 3) := dz_182 (k_X3_provesWith 0 44 rfl) (k_X3_provesWith 0 45 rfl) (k_X3_provesWith 0 46 rfl) rfl
theorem dX3_provesWith_47 : decode cX3_provesWith 47 = .ok (.ldc2_w 56, 3) := dz_20 (k_X3_provesWith 0 47 rfl) (k_X3_provesWith 0 48 rfl) (k_X3_provesWith 0 49 rfl) rfl
theorem dX3_provesWith_50 : decode cX3_provesWith 50 = .ok (.lxor, 1) := dz_131 (k_X3_provesWith 0 50 rfl)
theorem dX3_provesWith_51 : decode cX3_provesWith 51 = .ok (.land, 1) := dz_127 (k_X3_provesWith 0 51 rfl)
theorem dX3_provesWith_52 : decode cX3_provesWith 52 = .ok (.lconst 0, 1) := dz_9 (k_X3_provesWith 0 52 rfl)
theorem dX3_provesWith_53 : decode cX3_provesWith 53 = .ok (.lcmp, 1) := dz_148 (k_X3_provesWith 0 53 rfl)
theorem dX3_provesWith_54 : decode cX3_provesWith 54 = .ok (.ifCond .eq 5, 3) := dz_153 (k_X3_provesWith 0 54 rfl) (k_X3_provesWith 0 55 rfl) (k_X3_provesWith 0 56 rfl) rfl
theorem dX3_provesWith_57 : decode cX3_provesWith 57 = .ok (.iconst 0, 1) := dz_3 (k_X3_provesWith 0 57 rfl)
theorem dX3_provesWith_58 : decode cX3_provesWith 58 = .ok (.ireturn, 1) := dz_172 (k_X3_provesWith 0 58 rfl)
theorem dX3_provesWith_59 : decode cX3_provesWith 59 = .ok (.lload 4, 2) := dz_22 (k_X3_provesWith 0 59 rfl) (k_X3_provesWith 0 60 rfl)
theorem dX3_provesWith_61 : decode cX3_provesWith 61 = .ok (.lload 7, 2) := dz_22 (k_X3_provesWith 0 61 rfl) (k_X3_provesWith 0 62 rfl)
theorem dX3_provesWith_63 : decode cX3_provesWith 63 = .ok (.lor, 1) := dz_129 (k_X3_provesWith 0 63 rfl)
theorem dX3_provesWith_64 : decode cX3_provesWith 64 = .ok (.lstore 4, 2) := dz_55 (k_X3_provesWith 1 0 rfl) (k_X3_provesWith 1 1 rfl)
theorem dX3_provesWith_66 : decode cX3_provesWith 66 = .ok (.iinc 6 1, 3) := dz_132 (k_X3_provesWith 1 2 rfl) (k_X3_provesWith 1 3 rfl) (k_X3_provesWith 1 4 rfl) rfl
theorem dX3_provesWith_69 : decode cX3_provesWith 69 = .ok (.goto (-63), 3) := dz_167 (k_X3_provesWith 1 5 rfl) (k_X3_provesWith 1 6 rfl) (k_X3_provesWith 1 7 rfl) rfl
theorem dX3_provesWith_72 : decode cX3_provesWith 72 = .ok (.lload 4, 2) := dz_22 (k_X3_provesWith 1 8 rfl) (k_X3_provesWith 1 9 rfl)
theorem dX3_provesWith_74 : decode cX3_provesWith 74 = .ok (.lconst 0, 1) := dz_9 (k_X3_provesWith 1 10 rfl)
theorem dX3_provesWith_75 : decode cX3_provesWith 75 = .ok (.lcmp, 1) := dz_148 (k_X3_provesWith 1 11 rfl)
theorem dX3_provesWith_76 : decode cX3_provesWith 76 = .ok (.ifCond .eq 7, 3) := dz_153 (k_X3_provesWith 1 12 rfl) (k_X3_provesWith 1 13 rfl) (k_X3_provesWith 1 14 rfl) rfl
theorem dX3_provesWith_79 : decode cX3_provesWith 79 = .ok (.iconst 1, 1) := dz_4 (k_X3_provesWith 1 15 rfl)
theorem dX3_provesWith_80 : decode cX3_provesWith 80 = .ok (.goto 4, 3) := dz_167 (k_X3_provesWith 1 16 rfl) (k_X3_provesWith 1 17 rfl) (k_X3_provesWith 1 18 rfl) rfl
theorem dX3_provesWith_83 : decode cX3_provesWith 83 = .ok (.iconst 0, 1) := dz_3 (k_X3_provesWith 1 19 rfl)
theorem dX3_provesWith_84 : decode cX3_provesWith 84 = .ok (.ireturn, 1) := dz_172 (k_X3_provesWith 1 20 rfl)
def B_X3_size : List (List Nat) := [[3, 61, 3, 62, 29, 42, 180, 0, 30, 182, 0, 34, 162, 0, 24, 28, 42, 180, 0, 30, 27, 29, 182, 0, 38, 184, 0, 42, 96, 61, 132, 3, 1, 167, 255, 227, 28, 172]]
theorem k_X3_size (j i : Nat) {b : Nat} (h : (B_X3_size[j]?.bind fun c => c[i]?) = some b) : s_by cX3_size (64 * j + i) b := s_byC (L := B_X3_size) (by decide +kernel) (by decide +kernel) j i h
theorem dX3_size_0 : decode cX3_size 0 = .ok (.iconst 0, 1) := dz_3 (k_X3_size 0 0 rfl)
theorem dX3_size_1 : decode cX3_size 1 = .ok (.istore_n 2, 1) := dz_61 (k_X3_size 0 1 rfl)
theorem dX3_size_2 : decode cX3_size 2 = .ok (.iconst 0, 1) := dz_3 (k_X3_size 0 2 rfl)
theorem dX3_size_3 : decode cX3_size 3 = .ok (.istore_n 3, 1) := dz_62 (k_X3_size 0 3 rfl)
theorem dX3_size_4 : decode cX3_size 4 = .ok (.iload_n 3, 1) := dz_29 (k_X3_size 0 4 rfl)
theorem dX3_size_5 : decode cX3_size 5 = .ok (.aload_n 0, 1) := dz_42 (k_X3_size 0 5 rfl)
theorem dX3_size_6 : decode cX3_size 6 = .ok (.getfield 30, 3) := dz_180 (k_X3_size 0 6 rfl) (k_X3_size 0 7 rfl) (k_X3_size 0 8 rfl) rfl
theorem dX3_size_9 : decode cX3_size 9 = .ok (.invokevirtual 34, 3) := dz_182 (k_X3_size 0 9 rfl) (k_X3_size 0 10 rfl) (k_X3_size 0 11 rfl) rfl
theorem dX3_size_12 : decode cX3_size 12 = .ok (.if_icmp .ge 24, 3) := dz_162 (k_X3_size 0 12 rfl) (k_X3_size 0 13 rfl) (k_X3_size 0 14 rfl) rfl
theorem dX3_size_15 : decode cX3_size 15 = .ok (.iload_n 2, 1) := dz_28 (k_X3_size 0 15 rfl)
theorem dX3_size_16 : decode cX3_size 16 = .ok (.aload_n 0, 1) := dz_42 (k_X3_size 0 16 rfl)
theorem dX3_size_17 : decode cX3_size 17 = .ok (.getfield 30, 3) := dz_180 (k_X3_size 0 17 rfl) (k_X3_size 0 18 rfl) (k_X3_size 0 19 rfl) rfl
theorem dX3_size_20 : decode cX3_size 20 = .ok (.iload_n 1, 1) := dz_27 (k_X3_size 0 20 rfl)
theorem dX3_size_21 : decode cX3_size 21 = .ok (.iload_n 3, 1) := dz_29 (k_X3_size 0 21 rfl)
theorem dX3_size_22 : decode cX3_size 22 = .ok (.invokevirtual 38, 3) := dz_182 (k_X3_size 0 22 rfl) (k_X3_size 0 23 rfl) (k_X3_size 0 24 rfl) rfl
theorem dX3_size_25 : decode cX3_size 25 = .ok (.invokestatic 42, 3) := dz_184 (k_X3_size 0 25 rfl) (k_X3_size 0 26 rfl) (k_X3_size 0 27 rfl) rfl
theorem dX3_size_28 : decode cX3_size 28 = .ok (.iadd, 1) := dz_96 (k_X3_size 0 28 rfl)
theorem dX3_size_29 : decode cX3_size 29 = .ok (.istore_n 2, 1) := dz_61 (k_X3_size 0 29 rfl)
theorem dX3_size_30 : decode cX3_size 30 = .ok (.iinc 3 1, 3) := dz_132 (k_X3_size 0 30 rfl) (k_X3_size 0 31 rfl) (k_X3_size 0 32 rfl) rfl
theorem dX3_size_33 : decode cX3_size 33 = .ok (.goto (-29), 3) := dz_167 (k_X3_size 0 33 rfl) (k_X3_size 0 34 rfl) (k_X3_size 0 35 rfl) rfl
theorem dX3_size_36 : decode cX3_size 36 = .ok (.iload_n 2, 1) := dz_28 (k_X3_size 0 36 rfl)
theorem dX3_size_37 : decode cX3_size 37 = .ok (.ireturn, 1) := dz_172 (k_X3_size 0 37 rfl)
def B_X3_threeMore : List (List Nat) := [[3, 61, 28, 42, 180, 0, 30, 180, 0, 48, 162, 0, 68, 42, 28, 27, 182, 0, 142, 153, 0, 53, 42, 42, 180, 0, 11, 28, 42, 180, 0, 20, 182, 0, 64, 42, 42, 180, 0, 20, 182, 0, 125, 153, 0, 7, 2, 167, 0, 13, 42, 42, 180, 0, 20, 27, 28, 182, 0, 133, 62, 29, 2, 159], [0, 9, 29, 4, 28, 120, 128, 172, 132, 2, 1, 167, 255, 183, 2, 172]]
theorem k_X3_threeMore (j i : Nat) {b : Nat} (h : (B_X3_threeMore[j]?.bind fun c => c[i]?) = some b) : s_by cX3_threeMore (64 * j + i) b := s_byC (L := B_X3_threeMore) (by decide +kernel) (by decide +kernel) j i h
theorem dX3_threeMore_0 : decode cX3_threeMore 0 = .ok (.iconst 0, 1) := dz_3 (k_X3_threeMore 0 0 rfl)
theorem dX3_threeMore_1 : decode cX3_threeMore 1 = .ok (.istore_n 2, 1) := dz_61 (k_X3_threeMore 0 1 rfl)
theorem dX3_threeMore_2 : decode cX3_threeMore 2 = .ok (.iload_n 2, 1) := dz_28 (k_X3_threeMore 0 2 rfl)
theorem dX3_threeMore_3 : decode cX3_threeMore 3 = .ok (.aload_n 0, 1) := dz_42 (k_X3_threeMore 0 3 rfl)
theorem dX3_threeMore_4 : decode cX3_threeMore 4 = .ok (.getfield 30, 3) := dz_180 (k_X3_threeMore 0 4 rfl) (k_X3_threeMore 0 5 rfl) (k_X3_threeMore 0 6 rfl) rfl
theorem dX3_threeMore_7 : decode cX3_threeMore 7 = .ok (.getfield 48, 3) := dz_180 (k_X3_threeMore 0 7 rfl) (k_X3_threeMore 0 8 rfl) (k_X3_threeMore 0 9 rfl) rfl
theorem dX3_threeMore_10 : decode cX3_threeMore 10 = .ok (.if_icmp .ge 68, 3) := dz_162 (k_X3_threeMore 0 10 rfl) (k_X3_threeMore 0 11 rfl) (k_X3_threeMore 0 12 rfl) rfl
theorem dX3_threeMore_13 : decode cX3_threeMore 13 = .ok (.aload_n 0, 1) := dz_42 (k_X3_threeMore 0 13 rfl)
theorem dX3_threeMore_14 : decode cX3_threeMore 14 = .ok (.iload_n 2, 1) := dz_28 (k_X3_threeMore 0 14 rfl)
theorem dX3_threeMore_15 : decode cX3_threeMore 15 = .ok (.iload_n 1, 1) := dz_27 (k_X3_threeMore 0 15 rfl)
theorem dX3_threeMore_16 : decode cX3_threeMore 16 = .ok (.invokevirtual 142, 3) := dz_182 (k_X3_threeMore 0 16 rfl) (k_X3_threeMore 0 17 rfl) (k_X3_threeMore 0 18 rfl) rfl
theorem dX3_threeMore_19 : decode cX3_threeMore 19 = .ok (.ifCond .eq 53, 3) := dz_153 (k_X3_threeMore 0 19 rfl) (k_X3_threeMore 0 20 rfl) (k_X3_threeMore 0 21 rfl) rfl
theorem dX3_threeMore_22 : decode cX3_threeMore 22 = .ok (.aload_n 0, 1) := dz_42 (k_X3_threeMore 0 22 rfl)
theorem dX3_threeMore_23 : decode cX3_threeMore 23 = .ok (.aload_n 0, 1) := dz_42 (k_X3_threeMore 0 23 rfl)
theorem dX3_threeMore_24 : decode cX3_threeMore 24 = .ok (.getfield 11, 3) := dz_180 (k_X3_threeMore 0 24 rfl) (k_X3_threeMore 0 25 rfl) (k_X3_threeMore 0 26 rfl) rfl
theorem dX3_threeMore_27 : decode cX3_threeMore 27 = .ok (.iload_n 2, 1) := dz_28 (k_X3_threeMore 0 27 rfl)
theorem dX3_threeMore_28 : decode cX3_threeMore 28 = .ok (.aload_n 0, 1) := dz_42 (k_X3_threeMore 0 28 rfl)
theorem dX3_threeMore_29 : decode cX3_threeMore 29 = .ok (.getfield 20, 3) := dz_180 (k_X3_threeMore 0 29 rfl) (k_X3_threeMore 0 30 rfl) (k_X3_threeMore 0 31 rfl) rfl
theorem dX3_threeMore_32 : decode cX3_threeMore 32 = .ok (.invokevirtual 64, 3) := dz_182 (k_X3_threeMore 0 32 rfl) (k_X3_threeMore 0 33 rfl) (k_X3_threeMore 0 34 rfl) rfl
theorem dX3_threeMore_35 : decode cX3_threeMore 35 = .ok (.aload_n 0, 1) := dz_42 (k_X3_threeMore 0 35 rfl)
theorem dX3_threeMore_36 : decode cX3_threeMore 36 = .ok (.aload_n 0, 1) := dz_42 (k_X3_threeMore 0 36 rfl)
theorem dX3_threeMore_37 : decode cX3_threeMore 37 = .ok (.getfield 20, 3) := dz_180 (k_X3_threeMore 0 37 rfl) (k_X3_threeMore 0 38 rfl) (k_X3_threeMore 0 39 rfl) rfl
theorem dX3_threeMore_40 : decode cX3_threeMore 40 = .ok (.invokevirtual 125, 3) := dz_182 (k_X3_threeMore 0 40 rfl) (k_X3_threeMore 0 41 rfl) (k_X3_threeMore 0 42 rfl) rfl
theorem dX3_threeMore_43 : decode cX3_threeMore 43 = .ok (.ifCond .eq 7, 3) := dz_153 (k_X3_threeMore 0 43 rfl) (k_X3_threeMore 0 44 rfl) (k_X3_threeMore 0 45 rfl) rfl
theorem dX3_threeMore_46 : decode cX3_threeMore 46 = .ok (.iconst (-1), 1) := dz_2 (k_X3_threeMore 0 46 rfl)
theorem dX3_threeMore_47 : decode cX3_threeMore 47 = .ok (.goto 13, 3) := dz_167 (k_X3_threeMore 0 47 rfl) (k_X3_threeMore 0 48 rfl) (k_X3_threeMore 0 49 rfl) rfl
theorem dX3_threeMore_50 : decode cX3_threeMore 50 = .ok (.aload_n 0, 1) := dz_42 (k_X3_threeMore 0 50 rfl)
theorem dX3_threeMore_51 : decode cX3_threeMore 51 = .ok (.aload_n 0, 1) := dz_42 (k_X3_threeMore 0 51 rfl)
theorem dX3_threeMore_52 : decode cX3_threeMore 52 = .ok (.getfield 20, 3) := dz_180 (k_X3_threeMore 0 52 rfl) (k_X3_threeMore 0 53 rfl) (k_X3_threeMore 0 54 rfl) rfl
theorem dX3_threeMore_55 : decode cX3_threeMore 55 = .ok (.iload_n 1, 1) := dz_27 (k_X3_threeMore 0 55 rfl)
theorem dX3_threeMore_56 : decode cX3_threeMore 56 = .ok (.iload_n 2, 1) := dz_28 (k_X3_threeMore 0 56 rfl)
theorem dX3_threeMore_57 : decode cX3_threeMore 57 = .ok (.invokevirtual 133, 3) := dz_182 (k_X3_threeMore 0 57 rfl) (k_X3_threeMore 0 58 rfl) (k_X3_threeMore 0 59 rfl) rfl
theorem dX3_threeMore_60 : decode cX3_threeMore 60 = .ok (.istore_n 3, 1) := dz_62 (k_X3_threeMore 0 60 rfl)
theorem dX3_threeMore_61 : decode cX3_threeMore 61 = .ok (.iload_n 3, 1) := dz_29 (k_X3_threeMore 0 61 rfl)
theorem dX3_threeMore_62 : decode cX3_threeMore 62 = .ok (.iconst (-1), 1) := dz_2 (k_X3_threeMore 0 62 rfl)
theorem dX3_threeMore_63 : decode cX3_threeMore 63 = .ok (.if_icmp .eq 9, 3) := dz_159 (k_X3_threeMore 0 63 rfl) (k_X3_threeMore 1 0 rfl) (k_X3_threeMore 1 1 rfl) rfl
theorem dX3_threeMore_66 : decode cX3_threeMore 66 = .ok (.iload_n 3, 1) := dz_29 (k_X3_threeMore 1 2 rfl)
theorem dX3_threeMore_67 : decode cX3_threeMore 67 = .ok (.iconst 1, 1) := dz_4 (k_X3_threeMore 1 3 rfl)
theorem dX3_threeMore_68 : decode cX3_threeMore 68 = .ok (.iload_n 2, 1) := dz_28 (k_X3_threeMore 1 4 rfl)
theorem dX3_threeMore_69 : decode cX3_threeMore 69 = .ok (.ishl, 1) := dz_120 (k_X3_threeMore 1 5 rfl)
theorem dX3_threeMore_70 : decode cX3_threeMore 70 = .ok (.ior, 1) := dz_128 (k_X3_threeMore 1 6 rfl)
theorem dX3_threeMore_71 : decode cX3_threeMore 71 = .ok (.ireturn, 1) := dz_172 (k_X3_threeMore 1 7 rfl)
theorem dX3_threeMore_72 : decode cX3_threeMore 72 = .ok (.iinc 2 1, 3) := dz_132 (k_X3_threeMore 1 8 rfl) (k_X3_threeMore 1 9 rfl) (k_X3_threeMore 1 10 rfl) rfl
theorem dX3_threeMore_75 : decode cX3_threeMore 75 = .ok (.goto (-73), 3) := dz_167 (k_X3_threeMore 1 11 rfl) (k_X3_threeMore 1 12 rfl) (k_X3_threeMore 1 13 rfl) rfl
theorem dX3_threeMore_78 : decode cX3_threeMore 78 = .ok (.iconst (-1), 1) := dz_2 (k_X3_threeMore 1 14 rfl)
theorem dX3_threeMore_79 : decode cX3_threeMore 79 = .ok (.ireturn, 1) := dz_172 (k_X3_threeMore 1 15 rfl)
def B_X3_truthsIn : List (List Nat) := [[3, 61, 3, 62, 29, 42, 180, 0, 30, 180, 0, 48, 162, 0, 24, 42, 180, 0, 30, 29, 27, 182, 0, 52, 153, 0, 6, 132, 2, 1, 132, 3, 1, 167, 255, 227, 28, 172]]
theorem k_X3_truthsIn (j i : Nat) {b : Nat} (h : (B_X3_truthsIn[j]?.bind fun c => c[i]?) = some b) : s_by cX3_truthsIn (64 * j + i) b := s_byC (L := B_X3_truthsIn) (by decide +kernel) (by decide +kernel) j i h
theorem dX3_truthsIn_0 : decode cX3_truthsIn 0 = .ok (.iconst 0, 1) := dz_3 (k_X3_truthsIn 0 0 rfl)
theorem dX3_truthsIn_1 : decode cX3_truthsIn 1 = .ok (.istore_n 2, 1) := dz_61 (k_X3_truthsIn 0 1 rfl)
theorem dX3_truthsIn_2 : decode cX3_truthsIn 2 = .ok (.iconst 0, 1) := dz_3 (k_X3_truthsIn 0 2 rfl)
theorem dX3_truthsIn_3 : decode cX3_truthsIn 3 = .ok (.istore_n 3, 1) := dz_62 (k_X3_truthsIn 0 3 rfl)
theorem dX3_truthsIn_4 : decode cX3_truthsIn 4 = .ok (.iload_n 3, 1) := dz_29 (k_X3_truthsIn 0 4 rfl)
theorem dX3_truthsIn_5 : decode cX3_truthsIn 5 = .ok (.aload_n 0, 1) := dz_42 (k_X3_truthsIn 0 5 rfl)
theorem dX3_truthsIn_6 : decode cX3_truthsIn 6 = .ok (.getfield 30, 3) := dz_180 (k_X3_truthsIn 0 6 rfl) (k_X3_truthsIn 0 7 rfl) (k_X3_truthsIn 0 8 rfl) rfl
theorem dX3_truthsIn_9 : decode cX3_truthsIn 9 = .ok (.getfield 48, 3) := dz_180 (k_X3_truthsIn 0 9 rfl) (k_X3_truthsIn 0 10 rfl) (k_X3_truthsIn 0 11 rfl) rfl
theorem dX3_truthsIn_12 : decode cX3_truthsIn 12 = .ok (.if_icmp .ge 24, 3) := dz_162 (k_X3_truthsIn 0 12 rfl) (k_X3_truthsIn 0 13 rfl) (k_X3_truthsIn 0 14 rfl) rfl
theorem dX3_truthsIn_15 : decode cX3_truthsIn 15 = .ok (.aload_n 0, 1) := dz_42 (k_X3_truthsIn 0 15 rfl)
theorem dX3_truthsIn_16 : decode cX3_truthsIn 16 = .ok (.getfield 30, 3) := dz_180 (k_X3_truthsIn 0 16 rfl) (k_X3_truthsIn 0 17 rfl) (k_X3_truthsIn 0 18 rfl) rfl
theorem dX3_truthsIn_19 : decode cX3_truthsIn 19 = .ok (.iload_n 3, 1) := dz_29 (k_X3_truthsIn 0 19 rfl)
theorem dX3_truthsIn_20 : decode cX3_truthsIn 20 = .ok (.iload_n 1, 1) := dz_27 (k_X3_truthsIn 0 20 rfl)
theorem dX3_truthsIn_21 : decode cX3_truthsIn 21 = .ok (.invokevirtual 52, 3) := dz_182 (k_X3_truthsIn 0 21 rfl) (k_X3_truthsIn 0 22 rfl) (k_X3_truthsIn 0 23 rfl) rfl
theorem dX3_truthsIn_24 : decode cX3_truthsIn 24 = .ok (.ifCond .eq 6, 3) := dz_153 (k_X3_truthsIn 0 24 rfl) (k_X3_truthsIn 0 25 rfl) (k_X3_truthsIn 0 26 rfl) rfl
theorem dX3_truthsIn_27 : decode cX3_truthsIn 27 = .ok (.iinc 2 1, 3) := dz_132 (k_X3_truthsIn 0 27 rfl) (k_X3_truthsIn 0 28 rfl) (k_X3_truthsIn 0 29 rfl) rfl
theorem dX3_truthsIn_30 : decode cX3_truthsIn 30 = .ok (.iinc 3 1, 3) := dz_132 (k_X3_truthsIn 0 30 rfl) (k_X3_truthsIn 0 31 rfl) (k_X3_truthsIn 0 32 rfl) rfl
theorem dX3_truthsIn_33 : decode cX3_truthsIn 33 = .ok (.goto (-29), 3) := dz_167 (k_X3_truthsIn 0 33 rfl) (k_X3_truthsIn 0 34 rfl) (k_X3_truthsIn 0 35 rfl) rfl
theorem dX3_truthsIn_36 : decode cX3_truthsIn 36 = .ok (.iload_n 2, 1) := dz_28 (k_X3_truthsIn 0 36 rfl)
theorem dX3_truthsIn_37 : decode cX3_truthsIn 37 = .ok (.ireturn, 1) := dz_172 (k_X3_truthsIn 0 37 rfl)
def B_X3_twoMore : List (List Nat) := [[3, 54, 4, 21, 4, 29, 162, 0, 72, 42, 21, 4, 28, 182, 0, 142, 153, 0, 56, 42, 43, 21, 4, 42, 180, 0, 17, 182, 0, 64, 42, 42, 180, 0, 17, 182, 0, 125, 153, 0, 7, 2, 167, 0, 14, 42, 42, 180, 0, 17, 28, 21, 4, 182, 0, 129, 54, 5, 21, 5, 2, 159, 0, 11], [21, 5, 4, 21, 4, 120, 128, 172, 132, 4, 1, 167, 255, 184, 2, 172]]
theorem k_X3_twoMore (j i : Nat) {b : Nat} (h : (B_X3_twoMore[j]?.bind fun c => c[i]?) = some b) : s_by cX3_twoMore (64 * j + i) b := s_byC (L := B_X3_twoMore) (by decide +kernel) (by decide +kernel) j i h
theorem dX3_twoMore_0 : decode cX3_twoMore 0 = .ok (.iconst 0, 1) := dz_3 (k_X3_twoMore 0 0 rfl)
theorem dX3_twoMore_1 : decode cX3_twoMore 1 = .ok (.istore 4, 2) := dz_54 (k_X3_twoMore 0 1 rfl) (k_X3_twoMore 0 2 rfl)
theorem dX3_twoMore_3 : decode cX3_twoMore 3 = .ok (.iload 4, 2) := dz_21 (k_X3_twoMore 0 3 rfl) (k_X3_twoMore 0 4 rfl)
theorem dX3_twoMore_5 : decode cX3_twoMore 5 = .ok (.iload_n 3, 1) := dz_29 (k_X3_twoMore 0 5 rfl)
theorem dX3_twoMore_6 : decode cX3_twoMore 6 = .ok (.if_icmp .ge 72, 3) := dz_162 (k_X3_twoMore 0 6 rfl) (k_X3_twoMore 0 7 rfl) (k_X3_twoMore 0 8 rfl) rfl
theorem dX3_twoMore_9 : decode cX3_twoMore 9 = .ok (.aload_n 0, 1) := dz_42 (k_X3_twoMore 0 9 rfl)
theorem dX3_twoMore_10 : decode cX3_twoMore 10 = .ok (.iload 4, 2) := dz_21 (k_X3_twoMore 0 10 rfl) (k_X3_twoMore 0 11 rfl)
theorem dX3_twoMore_12 : decode cX3_twoMore 12 = .ok (.iload_n 2, 1) := dz_28 (k_X3_twoMore 0 12 rfl)
theorem dX3_twoMore_13 : decode cX3_twoMore 13 = .ok (.invokevirtual 142, 3) := dz_182 (k_X3_twoMore 0 13 rfl) (k_X3_twoMore 0 14 rfl) (k_X3_twoMore 0 15 rfl) rfl
theorem dX3_twoMore_16 : decode cX3_twoMore 16 = .ok (.ifCond .eq 56, 3) := dz_153 (k_X3_twoMore 0 16 rfl) (k_X3_twoMore 0 17 rfl) (k_X3_twoMore 0 18 rfl) rfl
theorem dX3_twoMore_19 : decode cX3_twoMore 19 = .ok (.aload_n 0, 1) := dz_42 (k_X3_twoMore 0 19 rfl)
theorem dX3_twoMore_20 : decode cX3_twoMore 20 = .ok (.aload_n 1, 1) := dz_43 (k_X3_twoMore 0 20 rfl)
theorem dX3_twoMore_21 : decode cX3_twoMore 21 = .ok (.iload 4, 2) := dz_21 (k_X3_twoMore 0 21 rfl) (k_X3_twoMore 0 22 rfl)
theorem dX3_twoMore_23 : decode cX3_twoMore 23 = .ok (.aload_n 0, 1) := dz_42 (k_X3_twoMore 0 23 rfl)
theorem dX3_twoMore_24 : decode cX3_twoMore 24 = .ok (.getfield 17, 3) := dz_180 (k_X3_twoMore 0 24 rfl) (k_X3_twoMore 0 25 rfl) (k_X3_twoMore 0 26 rfl) rfl
theorem dX3_twoMore_27 : decode cX3_twoMore 27 = .ok (.invokevirtual 64, 3) := dz_182 (k_X3_twoMore 0 27 rfl) (k_X3_twoMore 0 28 rfl) (k_X3_twoMore 0 29 rfl) rfl
theorem dX3_twoMore_30 : decode cX3_twoMore 30 = .ok (.aload_n 0, 1) := dz_42 (k_X3_twoMore 0 30 rfl)
theorem dX3_twoMore_31 : decode cX3_twoMore 31 = .ok (.aload_n 0, 1) := dz_42 (k_X3_twoMore 0 31 rfl)
theorem dX3_twoMore_32 : decode cX3_twoMore 32 = .ok (.getfield 17, 3) := dz_180 (k_X3_twoMore 0 32 rfl) (k_X3_twoMore 0 33 rfl) (k_X3_twoMore 0 34 rfl) rfl
theorem dX3_twoMore_35 : decode cX3_twoMore 35 = .ok (.invokevirtual 125, 3) := dz_182 (k_X3_twoMore 0 35 rfl) (k_X3_twoMore 0 36 rfl) (k_X3_twoMore 0 37 rfl) rfl
theorem dX3_twoMore_38 : decode cX3_twoMore 38 = .ok (.ifCond .eq 7, 3) := dz_153 (k_X3_twoMore 0 38 rfl) (k_X3_twoMore 0 39 rfl) (k_X3_twoMore 0 40 rfl) rfl
theorem dX3_twoMore_41 : decode cX3_twoMore 41 = .ok (.iconst (-1), 1) := dz_2 (k_X3_twoMore 0 41 rfl)
theorem dX3_twoMore_42 : decode cX3_twoMore 42 = .ok (.goto 14, 3) := dz_167 (k_X3_twoMore 0 42 rfl) (k_X3_twoMore 0 43 rfl) (k_X3_twoMore 0 44 rfl) rfl
theorem dX3_twoMore_45 : decode cX3_twoMore 45 = .ok (.aload_n 0, 1) := dz_42 (k_X3_twoMore 0 45 rfl)
theorem dX3_twoMore_46 : decode cX3_twoMore 46 = .ok (.aload_n 0, 1) := dz_42 (k_X3_twoMore 0 46 rfl)
theorem dX3_twoMore_47 : decode cX3_twoMore 47 = .ok (.getfield 17, 3) := dz_180 (k_X3_twoMore 0 47 rfl) (k_X3_twoMore 0 48 rfl) (k_X3_twoMore 0 49 rfl) rfl
theorem dX3_twoMore_50 : decode cX3_twoMore 50 = .ok (.iload_n 2, 1) := dz_28 (k_X3_twoMore 0 50 rfl)
theorem dX3_twoMore_51 : decode cX3_twoMore 51 = .ok (.iload 4, 2) := dz_21 (k_X3_twoMore 0 51 rfl) (k_X3_twoMore 0 52 rfl)
theorem dX3_twoMore_53 : decode cX3_twoMore 53 = .ok (.invokevirtual 129, 3) := dz_182 (k_X3_twoMore 0 53 rfl) (k_X3_twoMore 0 54 rfl) (k_X3_twoMore 0 55 rfl) rfl
theorem dX3_twoMore_56 : decode cX3_twoMore 56 = .ok (.istore 5, 2) := dz_54 (k_X3_twoMore 0 56 rfl) (k_X3_twoMore 0 57 rfl)
theorem dX3_twoMore_58 : decode cX3_twoMore 58 = .ok (.iload 5, 2) := dz_21 (k_X3_twoMore 0 58 rfl) (k_X3_twoMore 0 59 rfl)
theorem dX3_twoMore_60 : decode cX3_twoMore 60 = .ok (.iconst (-1), 1) := dz_2 (k_X3_twoMore 0 60 rfl)
theorem dX3_twoMore_61 : decode cX3_twoMore 61 = .ok (.if_icmp .eq 11, 3) := dz_159 (k_X3_twoMore 0 61 rfl) (k_X3_twoMore 0 62 rfl) (k_X3_twoMore 0 63 rfl) rfl
theorem dX3_twoMore_64 : decode cX3_twoMore 64 = .ok (.iload 5, 2) := dz_21 (k_X3_twoMore 1 0 rfl) (k_X3_twoMore 1 1 rfl)
theorem dX3_twoMore_66 : decode cX3_twoMore 66 = .ok (.iconst 1, 1) := dz_4 (k_X3_twoMore 1 2 rfl)
theorem dX3_twoMore_67 : decode cX3_twoMore 67 = .ok (.iload 4, 2) := dz_21 (k_X3_twoMore 1 3 rfl) (k_X3_twoMore 1 4 rfl)
theorem dX3_twoMore_69 : decode cX3_twoMore 69 = .ok (.ishl, 1) := dz_120 (k_X3_twoMore 1 5 rfl)
theorem dX3_twoMore_70 : decode cX3_twoMore 70 = .ok (.ior, 1) := dz_128 (k_X3_twoMore 1 6 rfl)
theorem dX3_twoMore_71 : decode cX3_twoMore 71 = .ok (.ireturn, 1) := dz_172 (k_X3_twoMore 1 7 rfl)
theorem dX3_twoMore_72 : decode cX3_twoMore 72 = .ok (.iinc 4 1, 3) := dz_132 (k_X3_twoMore 1 8 rfl) (k_X3_twoMore 1 9 rfl) (k_X3_twoMore 1 10 rfl) rfl
theorem dX3_twoMore_75 : decode cX3_twoMore 75 = .ok (.goto (-72), 3) := dz_167 (k_X3_twoMore 1 11 rfl) (k_X3_twoMore 1 12 rfl) (k_X3_twoMore 1 13 rfl) rfl
theorem dX3_twoMore_78 : decode cX3_twoMore 78 = .ok (.iconst (-1), 1) := dz_2 (k_X3_twoMore 1 14 rfl)
theorem dX3_twoMore_79 : decode cX3_twoMore 79 = .ok (.ireturn, 1) := dz_172 (k_X3_twoMore 1 15 rfl)
def B_X4_addStep : List (List Nat) := [[28, 2, 159, 0, 13, 42, 180, 0, 54, 17, 2, 48, 161, 0, 4, 177, 42, 180, 0, 54, 8, 104, 54, 6, 42, 180, 0, 24, 21, 6, 27, 79, 42, 180, 0, 24, 21, 6, 4, 96, 28, 79, 42, 180, 0, 24, 21, 6, 5, 96, 29, 79, 42, 180, 0, 24, 21, 6, 6, 96, 21, 4, 79, 42], [180, 0, 24, 21, 6, 7, 96, 21, 5, 79, 42, 89, 180, 0, 54, 4, 96, 181, 0, 54, 177]]
theorem k_X4_addStep (j i : Nat) {b : Nat} (h : (B_X4_addStep[j]?.bind fun c => c[i]?) = some b) : s_by cX4_addStep (64 * j + i) b := s_byC (L := B_X4_addStep) (by decide +kernel) (by decide +kernel) j i h
theorem dX4_addStep_0 : decode cX4_addStep 0 = .ok (.iload_n 2, 1) := dz_28 (k_X4_addStep 0 0 rfl)
theorem dX4_addStep_1 : decode cX4_addStep 1 = .ok (.iconst (-1), 1) := dz_2 (k_X4_addStep 0 1 rfl)
theorem dX4_addStep_2 : decode cX4_addStep 2 = .ok (.if_icmp .eq 13, 3) := dz_159 (k_X4_addStep 0 2 rfl) (k_X4_addStep 0 3 rfl) (k_X4_addStep 0 4 rfl) rfl
theorem dX4_addStep_5 : decode cX4_addStep 5 = .ok (.aload_n 0, 1) := dz_42 (k_X4_addStep 0 5 rfl)
theorem dX4_addStep_6 : decode cX4_addStep 6 = .ok (.getfield 54, 3) := dz_180 (k_X4_addStep 0 6 rfl) (k_X4_addStep 0 7 rfl) (k_X4_addStep 0 8 rfl) rfl
theorem dX4_addStep_9 : decode cX4_addStep 9 = .ok (.sipush 560, 3) := dz_17 (k_X4_addStep 0 9 rfl) (k_X4_addStep 0 10 rfl) (k_X4_addStep 0 11 rfl) rfl
theorem dX4_addStep_12 : decode cX4_addStep 12 = .ok (.if_icmp .lt 4, 3) := dz_161 (k_X4_addStep 0 12 rfl) (k_X4_addStep 0 13 rfl) (k_X4_addStep 0 14 rfl) rfl
theorem dX4_addStep_15 : decode cX4_addStep 15 = .ok (.return_, 1) := dz_177 (k_X4_addStep 0 15 rfl)
theorem dX4_addStep_16 : decode cX4_addStep 16 = .ok (.aload_n 0, 1) := dz_42 (k_X4_addStep 0 16 rfl)
theorem dX4_addStep_17 : decode cX4_addStep 17 = .ok (.getfield 54, 3) := dz_180 (k_X4_addStep 0 17 rfl) (k_X4_addStep 0 18 rfl) (k_X4_addStep 0 19 rfl) rfl
theorem dX4_addStep_20 : decode cX4_addStep 20 = .ok (.iconst 5, 1) := dz_8 (k_X4_addStep 0 20 rfl)
theorem dX4_addStep_21 : decode cX4_addStep 21 = .ok (.imul, 1) := dz_104 (k_X4_addStep 0 21 rfl)
theorem dX4_addStep_22 : decode cX4_addStep 22 = .ok (.istore 6, 2) := dz_54 (k_X4_addStep 0 22 rfl) (k_X4_addStep 0 23 rfl)
theorem dX4_addStep_24 : decode cX4_addStep 24 = .ok (.aload_n 0, 1) := dz_42 (k_X4_addStep 0 24 rfl)
theorem dX4_addStep_25 : decode cX4_addStep 25 = .ok (.getfield 24, 3) := dz_180 (k_X4_addStep 0 25 rfl) (k_X4_addStep 0 26 rfl) (k_X4_addStep 0 27 rfl) rfl
theorem dX4_addStep_28 : decode cX4_addStep 28 = .ok (.iload 6, 2) := dz_21 (k_X4_addStep 0 28 rfl) (k_X4_addStep 0 29 rfl)
theorem dX4_addStep_30 : decode cX4_addStep 30 = .ok (.iload_n 1, 1) := dz_27 (k_X4_addStep 0 30 rfl)
theorem dX4_addStep_31 : decode cX4_addStep 31 = .ok (.iastore, 1) := dz_79 (k_X4_addStep 0 31 rfl)
theorem dX4_addStep_32 : decode cX4_addStep 32 = .ok (.aload_n 0, 1) := dz_42 (k_X4_addStep 0 32 rfl)
theorem dX4_addStep_33 : decode cX4_addStep 33 = .ok (.getfield 24, 3) := dz_180 (k_X4_addStep 0 33 rfl) (k_X4_addStep 0 34 rfl) (k_X4_addStep 0 35 rfl) rfl
theorem dX4_addStep_36 : decode cX4_addStep 36 = .ok (.iload 6, 2) := dz_21 (k_X4_addStep 0 36 rfl) (k_X4_addStep 0 37 rfl)
theorem dX4_addStep_38 : decode cX4_addStep 38 = .ok (.iconst 1, 1) := dz_4 (k_X4_addStep 0 38 rfl)
theorem dX4_addStep_39 : decode cX4_addStep 39 = .ok (.iadd, 1) := dz_96 (k_X4_addStep 0 39 rfl)
theorem dX4_addStep_40 : decode cX4_addStep 40 = .ok (.iload_n 2, 1) := dz_28 (k_X4_addStep 0 40 rfl)
theorem dX4_addStep_41 : decode cX4_addStep 41 = .ok (.iastore, 1) := dz_79 (k_X4_addStep 0 41 rfl)
theorem dX4_addStep_42 : decode cX4_addStep 42 = .ok (.aload_n 0, 1) := dz_42 (k_X4_addStep 0 42 rfl)
theorem dX4_addStep_43 : decode cX4_addStep 43 = .ok (.getfield 24, 3) := dz_180 (k_X4_addStep 0 43 rfl) (k_X4_addStep 0 44 rfl) (k_X4_addStep 0 45 rfl) rfl
theorem dX4_addStep_46 : decode cX4_addStep 46 = .ok (.iload 6, 2) := dz_21 (k_X4_addStep 0 46 rfl) (k_X4_addStep 0 47 rfl)
theorem dX4_addStep_48 : decode cX4_addStep 48 = .ok (.iconst 2, 1) := dz_5 (k_X4_addStep 0 48 rfl)
theorem dX4_addStep_49 : decode cX4_addStep 49 = .ok (.iadd, 1) := dz_96 (k_X4_addStep 0 49 rfl)
theorem dX4_addStep_50 : decode cX4_addStep 50 = .ok (.iload_n 3, 1) := dz_29 (k_X4_addStep 0 50 rfl)
theorem dX4_addStep_51 : decode cX4_addStep 51 = .ok (.iastore, 1) := dz_79 (k_X4_addStep 0 51 rfl)
theorem dX4_addStep_52 : decode cX4_addStep 52 = .ok (.aload_n 0, 1) := dz_42 (k_X4_addStep 0 52 rfl)
theorem dX4_addStep_53 : decode cX4_addStep 53 = .ok (.getfield 24, 3) := dz_180 (k_X4_addStep 0 53 rfl) (k_X4_addStep 0 54 rfl) (k_X4_addStep 0 55 rfl) rfl
theorem dX4_addStep_56 : decode cX4_addStep 56 = .ok (.iload 6, 2) := dz_21 (k_X4_addStep 0 56 rfl) (k_X4_addStep 0 57 rfl)
theorem dX4_addStep_58 : decode cX4_addStep 58 = .ok (.iconst 3, 1) := dz_6 (k_X4_addStep 0 58 rfl)
theorem dX4_addStep_59 : decode cX4_addStep 59 = .ok (.iadd, 1) := dz_96 (k_X4_addStep 0 59 rfl)
theorem dX4_addStep_60 : decode cX4_addStep 60 = .ok (.iload 4, 2) := dz_21 (k_X4_addStep 0 60 rfl) (k_X4_addStep 0 61 rfl)
theorem dX4_addStep_62 : decode cX4_addStep 62 = .ok (.iastore, 1) := dz_79 (k_X4_addStep 0 62 rfl)
theorem dX4_addStep_63 : decode cX4_addStep 63 = .ok (.aload_n 0, 1) := dz_42 (k_X4_addStep 0 63 rfl)
theorem dX4_addStep_64 : decode cX4_addStep 64 = .ok (.getfield 24, 3) := dz_180 (k_X4_addStep 1 0 rfl) (k_X4_addStep 1 1 rfl) (k_X4_addStep 1 2 rfl) rfl
theorem dX4_addStep_67 : decode cX4_addStep 67 = .ok (.iload 6, 2) := dz_21 (k_X4_addStep 1 3 rfl) (k_X4_addStep 1 4 rfl)
theorem dX4_addStep_69 : decode cX4_addStep 69 = .ok (.iconst 4, 1) := dz_7 (k_X4_addStep 1 5 rfl)
theorem dX4_addStep_70 : decode cX4_addStep 70 = .ok (.iadd, 1) := dz_96 (k_X4_addStep 1 6 rfl)
theorem dX4_addStep_71 : decode cX4_addStep 71 = .ok (.iload 5, 2) := dz_21 (k_X4_addStep 1 7 rfl) (k_X4_addStep 1 8 rfl)
theorem dX4_addStep_73 : decode cX4_addStep 73 = .ok (.iastore, 1) := dz_79 (k_X4_addStep 1 9 rfl)
theorem dX4_addStep_74 : decode cX4_addStep 74 = .ok (.aload_n 0, 1) := dz_42 (k_X4_addStep 1 10 rfl)
theorem dX4_addStep_75 : decode cX4_addStep 75 = .ok (.dup, 1) := dz_89 (k_X4_addStep 1 11 rfl)
theorem dX4_addStep_76 : decode cX4_addStep 76 = .ok (.getfield 54, 3) := dz_180 (k_X4_addStep 1 12 rfl) (k_X4_addStep 1 13 rfl) (k_X4_addStep 1 14 rfl) rfl
theorem dX4_addStep_79 : decode cX4_addStep 79 = .ok (.iconst 1, 1) := dz_4 (k_X4_addStep 1 15 rfl)
theorem dX4_addStep_80 : decode cX4_addStep 80 = .ok (.iadd, 1) := dz_96 (k_X4_addStep 1 16 rfl)
theorem dX4_addStep_81 : decode cX4_addStep 81 = .ok (.putfield 54, 3) := dz_181 (k_X4_addStep 1 17 rfl) (k_X4_addStep 1 18 rfl) (k_X4_addStep 1 19 rfl) rfl
theorem dX4_addStep_84 : decode cX4_addStep 84 = .ok (.return_, 1) := dz_177 (k_X4_addStep 1 20 rfl)
def B_X4_cheapestHouse : List (List Nat) := [[2, 60, 2, 61, 3, 62, 29, 6, 162, 0, 38, 42, 29, 182, 0, 177, 54, 4, 21, 4, 2, 159, 0, 19, 28, 2, 159, 0, 9, 21, 4, 28, 162, 0, 8, 21, 4, 61, 29, 60, 132, 3, 1, 167, 255, 219, 27, 172]]
theorem k_X4_cheapestHouse (j i : Nat) {b : Nat} (h : (B_X4_cheapestHouse[j]?.bind fun c => c[i]?) = some b) : s_by cX4_cheapestHouse (64 * j + i) b := s_byC (L := B_X4_cheapestHouse) (by decide +kernel) (by decide +kernel) j i h
theorem dX4_cheapestHouse_0 : decode cX4_cheapestHouse 0 = .ok (.iconst (-1), 1) := dz_2 (k_X4_cheapestHouse 0 0 rfl)
theorem dX4_cheapestHouse_1 : decode cX4_cheapestHouse 1 = .ok (.istore_n 1, 1) := dz_60 (k_X4_cheapestHouse 0 1 rfl)
theorem dX4_cheapestHouse_2 : decode cX4_cheapestHouse 2 = .ok (.iconst (-1), 1) := dz_2 (k_X4_cheapestHouse 0 2 rfl)
theorem dX4_cheapestHouse_3 : decode cX4_cheapestHouse 3 = .ok (.istore_n 2, 1) := dz_61 (k_X4_cheapestHouse 0 3 rfl)
theorem dX4_cheapestHouse_4 : decode cX4_cheapestHouse 4 = .ok (.iconst 0, 1) := dz_3 (k_X4_cheapestHouse 0 4 rfl)
theorem dX4_cheapestHouse_5 : decode cX4_cheapestHouse 5 = .ok (.istore_n 3, 1) := dz_62 (k_X4_cheapestHouse 0 5 rfl)
theorem dX4_cheapestHouse_6 : decode cX4_cheapestHouse 6 = .ok (.iload_n 3, 1) := dz_29 (k_X4_cheapestHouse 0 6 rfl)
theorem dX4_cheapestHouse_7 : decode cX4_cheapestHouse 7 = .ok (.iconst 3, 1) := dz_6 (k_X4_cheapestHouse 0 7 rfl)
theorem dX4_cheapestHouse_8 : decode cX4_cheapestHouse 8 = .ok (.if_icmp .ge 38, 3) := dz_162 (k_X4_cheapestHouse 0 8 rfl) (k_X4_cheapestHouse 0 9 rfl) (k_X4_cheapestHouse 0 10 rfl) rfl
theorem dX4_cheapestHouse_11 : decode cX4_cheapestHouse 11 = .ok (.aload_n 0, 1) := dz_42 (k_X4_cheapestHouse 0 11 rfl)
theorem dX4_cheapestHouse_12 : decode cX4_cheapestHouse 12 = .ok (.iload_n 3, 1) := dz_29 (k_X4_cheapestHouse 0 12 rfl)
theorem dX4_cheapestHouse_13 : decode cX4_cheapestHouse 13 = .ok (.invokevirtual 177, 3) := dz_182 (k_X4_cheapestHouse 0 13 rfl) (k_X4_cheapestHouse 0 14 rfl) (k_X4_cheapestHouse 0 15 rfl) rfl
theorem dX4_cheapestHouse_16 : decode cX4_cheapestHouse 16 = .ok (.istore 4, 2) := dz_54 (k_X4_cheapestHouse 0 16 rfl) (k_X4_cheapestHouse 0 17 rfl)
theorem dX4_cheapestHouse_18 : decode cX4_cheapestHouse 18 = .ok (.iload 4, 2) := dz_21 (k_X4_cheapestHouse 0 18 rfl) (k_X4_cheapestHouse 0 19 rfl)
theorem dX4_cheapestHouse_20 : decode cX4_cheapestHouse 20 = .ok (.iconst (-1), 1) := dz_2 (k_X4_cheapestHouse 0 20 rfl)
theorem dX4_cheapestHouse_21 : decode cX4_cheapestHouse 21 = .ok (.if_icmp .eq 19, 3) := dz_159 (k_X4_cheapestHouse 0 21 rfl) (k_X4_cheapestHouse 0 22 rfl) (k_X4_cheapestHouse 0 23 rfl) rfl
theorem dX4_cheapestHouse_24 : decode cX4_cheapestHouse 24 = .ok (.iload_n 2, 1) := dz_28 (k_X4_cheapestHouse 0 24 rfl)
theorem dX4_cheapestHouse_25 : decode cX4_cheapestHouse 25 = .ok (.iconst (-1), 1) := dz_2 (k_X4_cheapestHouse 0 25 rfl)
theorem dX4_cheapestHouse_26 : decode cX4_cheapestHouse 26 = .ok (.if_icmp .eq 9, 3) := dz_159 (k_X4_cheapestHouse 0 26 rfl) (k_X4_cheapestHouse 0 27 rfl) (k_X4_cheapestHouse 0 28 rfl) rfl
theorem dX4_cheapestHouse_29 : decode cX4_cheapestHouse 29 = .ok (.iload 4, 2) := dz_21 (k_X4_cheapestHouse 0 29 rfl) (k_X4_cheapestHouse 0 30 rfl)
theorem dX4_cheapestHouse_31 : decode cX4_cheapestHouse 31 = .ok (.iload_n 2, 1) := dz_28 (k_X4_cheapestHouse 0 31 rfl)
theorem dX4_cheapestHouse_32 : decode cX4_cheapestHouse 32 = .ok (.if_icmp .ge 8, 3) := dz_162 (k_X4_cheapestHouse 0 32 rfl) (k_X4_cheapestHouse 0 33 rfl) (k_X4_cheapestHouse 0 34 rfl) rfl
theorem dX4_cheapestHouse_35 : decode cX4_cheapestHouse 35 = .ok (.iload 4, 2) := dz_21 (k_X4_cheapestHouse 0 35 rfl) (k_X4_cheapestHouse 0 36 rfl)
theorem dX4_cheapestHouse_37 : decode cX4_cheapestHouse 37 = .ok (.istore_n 2, 1) := dz_61 (k_X4_cheapestHouse 0 37 rfl)
theorem dX4_cheapestHouse_38 : decode cX4_cheapestHouse 38 = .ok (.iload_n 3, 1) := dz_29 (k_X4_cheapestHouse 0 38 rfl)
theorem dX4_cheapestHouse_39 : decode cX4_cheapestHouse 39 = .ok (.istore_n 1, 1) := dz_60 (k_X4_cheapestHouse 0 39 rfl)
theorem dX4_cheapestHouse_40 : decode cX4_cheapestHouse 40 = .ok (.iinc 3 1, 3) := dz_132 (k_X4_cheapestHouse 0 40 rfl) (k_X4_cheapestHouse 0 41 rfl) (k_X4_cheapestHouse 0 42 rfl) rfl
theorem dX4_cheapestHouse_43 : decode cX4_cheapestHouse 43 = .ok (.goto (-37), 3) := dz_167 (k_X4_cheapestHouse 0 43 rfl) (k_X4_cheapestHouse 0 44 rfl) (k_X4_cheapestHouse 0 45 rfl) rfl
theorem dX4_cheapestHouse_46 : decode cX4_cheapestHouse 46 = .ok (.iload_n 1, 1) := dz_27 (k_X4_cheapestHouse 0 46 rfl)
theorem dX4_cheapestHouse_47 : decode cX4_cheapestHouse 47 = .ok (.ireturn, 1) := dz_172 (k_X4_cheapestHouse 0 47 rfl)
def B_X4_costAlone : List (List Nat) := [[18, 135, 62, 42, 180, 0, 34, 42, 180, 0, 44, 42, 180, 0, 11, 28, 46, 182, 0, 161, 153, 0, 10, 42, 3, 28, 182, 0, 155, 62, 42, 28, 182, 0, 98, 54, 4, 21, 4, 2, 159, 0, 23, 27, 21, 4, 122, 4, 126, 153, 0, 14, 29, 42, 4, 28, 182, 0, 155, 184, 0, 164, 62, 29], [172]]
theorem k_X4_costAlone (j i : Nat) {b : Nat} (h : (B_X4_costAlone[j]?.bind fun c => c[i]?) = some b) : s_by cX4_costAlone (64 * j + i) b := s_byC (L := B_X4_costAlone) (by decide +kernel) (by decide +kernel) j i h
theorem dX4_costAlone_0 : decode cX4_costAlone 0 = .ok (.ldc 135, 2) := dz_18 (k_X4_costAlone 0 0 rfl) (k_X4_costAlone 0 1 rfl)
theorem dX4_costAlone_2 : decode cX4_costAlone 2 = .ok (.istore_n 3, 1) := dz_62 (k_X4_costAlone 0 2 rfl)
theorem dX4_costAlone_3 : decode cX4_costAlone 3 = .ok (.aload_n 0, 1) := dz_42 (k_X4_costAlone 0 3 rfl)
theorem dX4_costAlone_4 : decode cX4_costAlone 4 = .ok (.getfield 34, 3) := dz_180 (k_X4_costAlone 0 4 rfl) (k_X4_costAlone 0 5 rfl) (k_X4_costAlone 0 6 rfl) rfl
theorem dX4_costAlone_7 : decode cX4_costAlone 7 = .ok (.aload_n 0, 1) := dz_42 (k_X4_costAlone 0 7 rfl)
theorem dX4_costAlone_8 : decode cX4_costAlone 8 = .ok (.getfield 44, 3) := dz_180 (k_X4_costAlone 0 8 rfl) (k_X4_costAlone 0 9 rfl) (k_X4_costAlone 0 10 rfl) rfl
theorem dX4_costAlone_11 : decode cX4_costAlone 11 = .ok (.aload_n 0, 1) := dz_42 (k_X4_costAlone 0 11 rfl)
theorem dX4_costAlone_12 : decode cX4_costAlone 12 = .ok (.getfield 11, 3) := dz_180 (k_X4_costAlone 0 12 rfl) (k_X4_costAlone 0 13 rfl) (k_X4_costAlone 0 14 rfl) rfl
theorem dX4_costAlone_15 : decode cX4_costAlone 15 = .ok (.iload_n 2, 1) := dz_28 (k_X4_costAlone 0 15 rfl)
theorem dX4_costAlone_16 : decode cX4_costAlone 16 = .ok (.iaload, 1) := dz_46 (k_X4_costAlone 0 16 rfl)
theorem dX4_costAlone_17 : decode cX4_costAlone 17 = .ok (.invokevirtual 161, 3) := dz_182 (k_X4_costAlone 0 17 rfl) (k_X4_costAlone 0 18 rfl) (k_X4_costAlone 0 19 rfl) rfl
theorem dX4_costAlone_20 : decode cX4_costAlone 20 = .ok (.ifCond .eq 10, 3) := dz_153 (k_X4_costAlone 0 20 rfl) (k_X4_costAlone 0 21 rfl) (k_X4_costAlone 0 22 rfl) rfl
theorem dX4_costAlone_23 : decode cX4_costAlone 23 = .ok (.aload_n 0, 1) := dz_42 (k_X4_costAlone 0 23 rfl)
theorem dX4_costAlone_24 : decode cX4_costAlone 24 = .ok (.iconst 0, 1) := dz_3 (k_X4_costAlone 0 24 rfl)
theorem dX4_costAlone_25 : decode cX4_costAlone 25 = .ok (.iload_n 2, 1) := dz_28 (k_X4_costAlone 0 25 rfl)
theorem dX4_costAlone_26 : decode cX4_costAlone 26 = .ok (.invokevirtual 155, 3) := dz_182 (k_X4_costAlone 0 26 rfl) (k_X4_costAlone 0 27 rfl) (k_X4_costAlone 0 28 rfl) rfl
theorem dX4_costAlone_29 : decode cX4_costAlone 29 = .ok (.istore_n 3, 1) := dz_62 (k_X4_costAlone 0 29 rfl)
theorem dX4_costAlone_30 : decode cX4_costAlone 30 = .ok (.aload_n 0, 1) := dz_42 (k_X4_costAlone 0 30 rfl)
theorem dX4_costAlone_31 : decode cX4_costAlone 31 = .ok (.iload_n 2, 1) := dz_28 (k_X4_costAlone 0 31 rfl)
theorem dX4_costAlone_32 : decode cX4_costAlone 32 = .ok (.invokevirtual 98, 3) := dz_182 (k_X4_costAlone 0 32 rfl) (k_X4_costAlone 0 33 rfl) (k_X4_costAlone 0 34 rfl) rfl
theorem dX4_costAlone_35 : decode cX4_costAlone 35 = .ok (.istore 4, 2) := dz_54 (k_X4_costAlone 0 35 rfl) (k_X4_costAlone 0 36 rfl)
theorem dX4_costAlone_37 : decode cX4_costAlone 37 = .ok (.iload 4, 2) := dz_21 (k_X4_costAlone 0 37 rfl) (k_X4_costAlone 0 38 rfl)
theorem dX4_costAlone_39 : decode cX4_costAlone 39 = .ok (.iconst (-1), 1) := dz_2 (k_X4_costAlone 0 39 rfl)
theorem dX4_costAlone_40 : decode cX4_costAlone 40 = .ok (.if_icmp .eq 23, 3) := dz_159 (k_X4_costAlone 0 40 rfl) (k_X4_costAlone 0 41 rfl) (k_X4_costAlone 0 42 rfl) rfl
theorem dX4_costAlone_43 : decode cX4_costAlone 43 = .ok (.iload_n 1, 1) := dz_27 (k_X4_costAlone 0 43 rfl)
theorem dX4_costAlone_44 : decode cX4_costAlone 44 = .ok (.iload 4, 2) := dz_21 (k_X4_costAlone 0 44 rfl) (k_X4_costAlone 0 45 rfl)
theorem dX4_costAlone_46 : decode cX4_costAlone 46 = .ok (.ishr, 1) := dz_122 (k_X4_costAlone 0 46 rfl)
theorem dX4_costAlone_47 : decode cX4_costAlone 47 = .ok (.iconst 1, 1) := dz_4 (k_X4_costAlone 0 47 rfl)
theorem dX4_costAlone_48 : decode cX4_costAlone 48 = .ok (.iand, 1) := dz_126 (k_X4_costAlone 0 48 rfl)
theorem dX4_costAlone_49 : decode cX4_costAlone 49 = .ok (.ifCond .eq 14, 3) := dz_153 (k_X4_costAlone 0 49 rfl) (k_X4_costAlone 0 50 rfl) (k_X4_costAlone 0 51 rfl) rfl
theorem dX4_costAlone_52 : decode cX4_costAlone 52 = .ok (.iload_n 3, 1) := dz_29 (k_X4_costAlone 0 52 rfl)
theorem dX4_costAlone_53 : decode cX4_costAlone 53 = .ok (.aload_n 0, 1) := dz_42 (k_X4_costAlone 0 53 rfl)
theorem dX4_costAlone_54 : decode cX4_costAlone 54 = .ok (.iconst 1, 1) := dz_4 (k_X4_costAlone 0 54 rfl)
theorem dX4_costAlone_55 : decode cX4_costAlone 55 = .ok (.iload_n 2, 1) := dz_28 (k_X4_costAlone 0 55 rfl)
theorem dX4_costAlone_56 : decode cX4_costAlone 56 = .ok (.invokevirtual 155, 3) := dz_182 (k_X4_costAlone 0 56 rfl) (k_X4_costAlone 0 57 rfl) (k_X4_costAlone 0 58 rfl) rfl
theorem dX4_costAlone_59 : decode cX4_costAlone 59 = .ok (.invokestatic 164, 3) := dz_184 (k_X4_costAlone 0 59 rfl) (k_X4_costAlone 0 60 rfl) (k_X4_costAlone 0 61 rfl) rfl
theorem dX4_costAlone_62 : decode cX4_costAlone 62 = .ok (.istore_n 3, 1) := dz_62 (k_X4_costAlone 0 62 rfl)
theorem dX4_costAlone_63 : decode cX4_costAlone 63 = .ok (.iload_n 3, 1) := dz_29 (k_X4_costAlone 0 63 rfl)
theorem dX4_costAlone_64 : decode cX4_costAlone 64 = .ok (.ireturn, 1) := dz_172 (k_X4_costAlone 1 0 rfl)
def B_X4_costAt : List (List Nat) := [[27, 16, 40, 104, 28, 96, 62, 29, 155, 0, 21, 29, 42, 180, 0, 27, 190, 162, 0, 12, 42, 180, 0, 27, 29, 46, 167, 0, 5, 18, 135, 172]]
theorem k_X4_costAt (j i : Nat) {b : Nat} (h : (B_X4_costAt[j]?.bind fun c => c[i]?) = some b) : s_by cX4_costAt (64 * j + i) b := s_byC (L := B_X4_costAt) (by decide +kernel) (by decide +kernel) j i h
theorem dX4_costAt_0 : decode cX4_costAt 0 = .ok (.iload_n 1, 1) := dz_27 (k_X4_costAt 0 0 rfl)
theorem dX4_costAt_1 : decode cX4_costAt 1 = .ok (.bipush 40, 2) := dz_16 (k_X4_costAt 0 1 rfl) (k_X4_costAt 0 2 rfl) rfl
theorem dX4_costAt_3 : decode cX4_costAt 3 = .ok (.imul, 1) := dz_104 (k_X4_costAt 0 3 rfl)
theorem dX4_costAt_4 : decode cX4_costAt 4 = .ok (.iload_n 2, 1) := dz_28 (k_X4_costAt 0 4 rfl)
theorem dX4_costAt_5 : decode cX4_costAt 5 = .ok (.iadd, 1) := dz_96 (k_X4_costAt 0 5 rfl)
theorem dX4_costAt_6 : decode cX4_costAt 6 = .ok (.istore_n 3, 1) := dz_62 (k_X4_costAt 0 6 rfl)
theorem dX4_costAt_7 : decode cX4_costAt 7 = .ok (.iload_n 3, 1) := dz_29 (k_X4_costAt 0 7 rfl)
theorem dX4_costAt_8 : decode cX4_costAt 8 = .ok (.ifCond .lt 21, 3) := dz_155 (k_X4_costAt 0 8 rfl) (k_X4_costAt 0 9 rfl) (k_X4_costAt 0 10 rfl) rfl
theorem dX4_costAt_11 : decode cX4_costAt 11 = .ok (.iload_n 3, 1) := dz_29 (k_X4_costAt 0 11 rfl)
theorem dX4_costAt_12 : decode cX4_costAt 12 = .ok (.aload_n 0, 1) := dz_42 (k_X4_costAt 0 12 rfl)
theorem dX4_costAt_13 : decode cX4_costAt 13 = .ok (.getfield 27, 3) := dz_180 (k_X4_costAt 0 13 rfl) (k_X4_costAt 0 14 rfl) (k_X4_costAt 0 15 rfl) rfl
theorem dX4_costAt_16 : decode cX4_costAt 16 = .ok (.arraylength, 1) := dz_190 (k_X4_costAt 0 16 rfl)
theorem dX4_costAt_17 : decode cX4_costAt 17 = .ok (.if_icmp .ge 12, 3) := dz_162 (k_X4_costAt 0 17 rfl) (k_X4_costAt 0 18 rfl) (k_X4_costAt 0 19 rfl) rfl
theorem dX4_costAt_20 : decode cX4_costAt 20 = .ok (.aload_n 0, 1) := dz_42 (k_X4_costAt 0 20 rfl)
theorem dX4_costAt_21 : decode cX4_costAt 21 = .ok (.getfield 27, 3) := dz_180 (k_X4_costAt 0 21 rfl) (k_X4_costAt 0 22 rfl) (k_X4_costAt 0 23 rfl) rfl
theorem dX4_costAt_24 : decode cX4_costAt 24 = .ok (.iload_n 3, 1) := dz_29 (k_X4_costAt 0 24 rfl)
theorem dX4_costAt_25 : decode cX4_costAt 25 = .ok (.iaload, 1) := dz_46 (k_X4_costAt 0 25 rfl)
theorem dX4_costAt_26 : decode cX4_costAt 26 = .ok (.goto 5, 3) := dz_167 (k_X4_costAt 0 26 rfl) (k_X4_costAt 0 27 rfl) (k_X4_costAt 0 28 rfl) rfl
theorem dX4_costAt_29 : decode cX4_costAt 29 = .ok (.ldc 135, 2) := dz_18 (k_X4_costAt 0 29 rfl) (k_X4_costAt 0 30 rfl)
theorem dX4_costAt_31 : decode cX4_costAt 31 = .ok (.ireturn, 1) := dz_172 (k_X4_costAt 0 31 rfl)
def B_X4_costIn : List (List Nat) := [[3, 61, 28, 16, 16, 162, 0, 41, 42, 180, 0, 18, 28, 42, 180, 0, 34, 27, 28, 182, 0, 128, 153, 0, 15, 42, 180, 0, 34, 27, 28, 182, 0, 132, 167, 0, 5, 18, 135, 79, 132, 2, 1, 167, 255, 215, 42, 42, 180, 0, 34, 27, 16, 16, 182, 0, 132, 181, 0, 136, 42, 180, 0, 18], [16, 10, 46, 18, 135, 159, 0, 18, 42, 180, 0, 18, 4, 46, 18, 135, 159, 0, 7, 4, 167, 0, 4, 3, 61, 28, 153, 0, 12, 4, 42, 180, 0, 51, 120, 167, 0, 4, 4, 62, 29, 4, 100, 54, 4, 21, 4, 155, 0, 15, 42, 21, 4, 182, 0, 139, 132, 4, 255, 167, 255, 242, 42, 180], [0, 27, 3, 46, 18, 135, 160, 0, 7, 2, 167, 0, 9, 42, 180, 0, 27, 3, 46, 172]]
theorem k_X4_costIn (j i : Nat) {b : Nat} (h : (B_X4_costIn[j]?.bind fun c => c[i]?) = some b) : s_by cX4_costIn (64 * j + i) b := s_byC (L := B_X4_costIn) (by decide +kernel) (by decide +kernel) j i h
theorem dX4_costIn_0 : decode cX4_costIn 0 = .ok (.iconst 0, 1) := dz_3 (k_X4_costIn 0 0 rfl)
theorem dX4_costIn_1 : decode cX4_costIn 1 = .ok (.istore_n 2, 1) := dz_61 (k_X4_costIn 0 1 rfl)
theorem dX4_costIn_2 : decode cX4_costIn 2 = .ok (.iload_n 2, 1) := dz_28 (k_X4_costIn 0 2 rfl)
theorem dX4_costIn_3 : decode cX4_costIn 3 = .ok (.bipush 16, 2) := dz_16 (k_X4_costIn 0 3 rfl) (k_X4_costIn 0 4 rfl) rfl
theorem dX4_costIn_5 : decode cX4_costIn 5 = .ok (.if_icmp .ge 41, 3) := dz_162 (k_X4_costIn 0 5 rfl) (k_X4_costIn 0 6 rfl) (k_X4_costIn 0 7 rfl) rfl
theorem dX4_costIn_8 : decode cX4_costIn 8 = .ok (.aload_n 0, 1) := dz_42 (k_X4_costIn 0 8 rfl)
theorem dX4_costIn_9 : decode cX4_costIn 9 = .ok (.getfield 18, 3) := dz_180 (k_X4_costIn 0 9 rfl) (k_X4_costIn 0 10 rfl) (k_X4_costIn 0 11 rfl) rfl
theorem dX4_costIn_12 : decode cX4_costIn 12 = .ok (.iload_n 2, 1) := dz_28 (k_X4_costIn 0 12 rfl)
theorem dX4_costIn_13 : decode cX4_costIn 13 = .ok (.aload_n 0, 1) := dz_42 (k_X4_costIn 0 13 rfl)
theorem dX4_costIn_14 : decode cX4_costIn 14 = .ok (.getfield 34, 3) := dz_180 (k_X4_costIn 0 14 rfl) (k_X4_costIn 0 15 rfl) (k_X4_costIn 0 16 rfl) rfl
theorem dX4_costIn_17 : decode cX4_costIn 17 = .ok (.iload_n 1, 1) := dz_27 (k_X4_costIn 0 17 rfl)
theorem dX4_costIn_18 : decode cX4_costIn 18 = .ok (.iload_n 2, 1) := dz_28 (k_X4_costIn 0 18 rfl)
theorem dX4_costIn_19 : decode cX4_costIn 19 = .ok (.invokevirtual 128, 3) := dz_182 (k_X4_costIn 0 19 rfl) (k_X4_costIn 0 20 rfl) (k_X4_costIn 0 21 rfl) rfl
theorem dX4_costIn_22 : decode cX4_costIn 22 = .ok (.ifCond .eq 15, 3) := dz_153 (k_X4_costIn 0 22 rfl) (k_X4_costIn 0 23 rfl) (k_X4_costIn 0 24 rfl) rfl
theorem dX4_costIn_25 : decode cX4_costIn 25 = .ok (.aload_n 0, 1) := dz_42 (k_X4_costIn 0 25 rfl)
theorem dX4_costIn_26 : decode cX4_costIn 26 = .ok (.getfield 34, 3) := dz_180 (k_X4_costIn 0 26 rfl) (k_X4_costIn 0 27 rfl) (k_X4_costIn 0 28 rfl) rfl
theorem dX4_costIn_29 : decode cX4_costIn 29 = .ok (.iload_n 1, 1) := dz_27 (k_X4_costIn 0 29 rfl)
theorem dX4_costIn_30 : decode cX4_costIn 30 = .ok (.iload_n 2, 1) := dz_28 (k_X4_costIn 0 30 rfl)
theorem dX4_costIn_31 : decode cX4_costIn 31 = .ok (.invokevirtual 132, 3) := dz_182 (k_X4_costIn 0 31 rfl) (k_X4_costIn 0 32 rfl) (k_X4_costIn 0 33 rfl) rfl
theorem dX4_costIn_34 : decode cX4_costIn 34 = .ok (.goto 5, 3) := dz_167 (k_X4_costIn 0 34 rfl) (k_X4_costIn 0 35 rfl) (k_X4_costIn 0 36 rfl) rfl
theorem dX4_costIn_37 : decode cX4_costIn 37 = .ok (.ldc 135, 2) := dz_18 (k_X4_costIn 0 37 rfl) (k_X4_costIn 0 38 rfl)
theorem dX4_costIn_39 : decode cX4_costIn 39 = .ok (.iastore, 1) := dz_79 (k_X4_costIn 0 39 rfl)
theorem dX4_costIn_40 : decode cX4_costIn 40 = .ok (.iinc 2 1, 3) := dz_132 (k_X4_costIn 0 40 rfl) (k_X4_costIn 0 41 rfl) (k_X4_costIn 0 42 rfl) rfl
theorem dX4_costIn_43 : decode cX4_costIn 43 = .ok (.goto (-41), 3) := dz_167 (k_X4_costIn 0 43 rfl) (k_X4_costIn 0 44 rfl) (k_X4_costIn 0 45 rfl) rfl
theorem dX4_costIn_46 : decode cX4_costIn 46 = .ok (.aload_n 0, 1) := dz_42 (k_X4_costIn 0 46 rfl)
theorem dX4_costIn_47 : decode cX4_costIn 47 = .ok (.aload_n 0, 1) := dz_42 (k_X4_costIn 0 47 rfl)
theorem dX4_costIn_48 : decode cX4_costIn 48 = .ok (.getfield 34, 3) := dz_180 (k_X4_costIn 0 48 rfl) (k_X4_costIn 0 49 rfl) (k_X4_costIn 0 50 rfl) rfl
theorem dX4_costIn_51 : decode cX4_costIn 51 = .ok (.iload_n 1, 1) := dz_27 (k_X4_costIn 0 51 rfl)
theorem dX4_costIn_52 : decode cX4_costIn 52 = .ok (.bipush 16, 2) := dz_16 (k_X4_costIn 0 52 rfl) (k_X4_costIn 0 53 rfl) rfl
theorem dX4_costIn_54 : decode cX4_costIn 54 = .ok (.invokevirtual 132, 3) := dz_182 (k_X4_costIn 0 54 rfl) (k_X4_costIn 0 55 rfl) (k_X4_costIn 0 56 rfl) rfl
theorem dX4_costIn_57 : decode cX4_costIn 57 = .ok (.putfield 136, 3) := dz_181 (k_X4_costIn 0 57 rfl) (k_X4_costIn 0 58 rfl) (k_X4_costIn 0 59 rfl) rfl
theorem dX4_costIn_60 : decode cX4_costIn 60 = .ok (.aload_n 0, 1) := dz_42 (k_X4_costIn 0 60 rfl)
theorem dX4_costIn_61 : decode cX4_costIn 61 = .ok (.getfield 18, 3) := dz_180 (k_X4_costIn 0 61 rfl) (k_X4_costIn 0 62 rfl) (k_X4_costIn 0 63 rfl) rfl
theorem dX4_costIn_64 : decode cX4_costIn 64 = .ok (.bipush 10, 2) := dz_16 (k_X4_costIn 1 0 rfl) (k_X4_costIn 1 1 rfl) rfl
theorem dX4_costIn_66 : decode cX4_costIn 66 = .ok (.iaload, 1) := dz_46 (k_X4_costIn 1 2 rfl)
theorem dX4_costIn_67 : decode cX4_costIn 67 = .ok (.ldc 135, 2) := dz_18 (k_X4_costIn 1 3 rfl) (k_X4_costIn 1 4 rfl)
theorem dX4_costIn_69 : decode cX4_costIn 69 = .ok (.if_icmp .eq 18, 3) := dz_159 (k_X4_costIn 1 5 rfl) (k_X4_costIn 1 6 rfl) (k_X4_costIn 1 7 rfl) rfl
theorem dX4_costIn_72 : decode cX4_costIn 72 = .ok (.aload_n 0, 1) := dz_42 (k_X4_costIn 1 8 rfl)
theorem dX4_costIn_73 : decode cX4_costIn 73 = .ok (.getfield 18, 3) := dz_180 (k_X4_costIn 1 9 rfl) (k_X4_costIn 1 10 rfl) (k_X4_costIn 1 11 rfl) rfl
theorem dX4_costIn_76 : decode cX4_costIn 76 = .ok (.iconst 1, 1) := dz_4 (k_X4_costIn 1 12 rfl)
theorem dX4_costIn_77 : decode cX4_costIn 77 = .ok (.iaload, 1) := dz_46 (k_X4_costIn 1 13 rfl)
theorem dX4_costIn_78 : decode cX4_costIn 78 = .ok (.ldc 135, 2) := dz_18 (k_X4_costIn 1 14 rfl) (k_X4_costIn 1 15 rfl)
theorem dX4_costIn_80 : decode cX4_costIn 80 = .ok (.if_icmp .eq 7, 3) := dz_159 (k_X4_costIn 1 16 rfl) (k_X4_costIn 1 17 rfl) (k_X4_costIn 1 18 rfl) rfl
theorem dX4_costIn_83 : decode cX4_costIn 83 = .ok (.iconst 1, 1) := dz_4 (k_X4_costIn 1 19 rfl)
theorem dX4_costIn_84 : decode cX4_costIn 84 = .ok (.goto 4, 3) := dz_167 (k_X4_costIn 1 20 rfl) (k_X4_costIn 1 21 rfl) (k_X4_costIn 1 22 rfl) rfl
theorem dX4_costIn_87 : decode cX4_costIn 87 = .ok (.iconst 0, 1) := dz_3 (k_X4_costIn 1 23 rfl)
theorem dX4_costIn_88 : decode cX4_costIn 88 = .ok (.istore_n 2, 1) := dz_61 (k_X4_costIn 1 24 rfl)
theorem dX4_costIn_89 : decode cX4_costIn 89 = .ok (.iload_n 2, 1) := dz_28 (k_X4_costIn 1 25 rfl)
theorem dX4_costIn_90 : decode cX4_costIn 90 = .ok (.ifCond .eq 12, 3) := dz_153 (k_X4_costIn 1 26 rfl) (k_X4_costIn 1 27 rfl) (k_X4_costIn 1 28 rfl) rfl
theorem dX4_costIn_93 : decode cX4_costIn 93 = .ok (.iconst 1, 1) := dz_4 (k_X4_costIn 1 29 rfl)
theorem dX4_costIn_94 : decode cX4_costIn 94 = .ok (.aload_n 0, 1) := dz_42 (k_X4_costIn 1 30 rfl)
theorem dX4_costIn_95 : decode cX4_costIn 95 = .ok (.getfield 51, 3) := dz_180 (k_X4_costIn 1 31 rfl) (k_X4_costIn 1 32 rfl) (k_X4_costIn 1 33 rfl) rfl
theorem dX4_costIn_98 : decode cX4_costIn 98 = .ok (.ishl, 1) := dz_120 (k_X4_costIn 1 34 rfl)
theorem dX4_costIn_99 : decode cX4_costIn 99 = .ok (.goto 4, 3) := dz_167 (k_X4_costIn 1 35 rfl) (k_X4_costIn 1 36 rfl) (k_X4_costIn 1 37 rfl) rfl
theorem dX4_costIn_102 : decode cX4_costIn 102 = .ok (.iconst 1, 1) := dz_4 (k_X4_costIn 1 38 rfl)
theorem dX4_costIn_103 : decode cX4_costIn 103 = .ok (.istore_n 3, 1) := dz_62 (k_X4_costIn 1 39 rfl)
theorem dX4_costIn_104 : decode cX4_costIn 104 = .ok (.iload_n 3, 1) := dz_29 (k_X4_costIn 1 40 rfl)
theorem dX4_costIn_105 : decode cX4_costIn 105 = .ok (.iconst 1, 1) := dz_4 (k_X4_costIn 1 41 rfl)
theorem dX4_costIn_106 : decode cX4_costIn 106 = .ok (.isub, 1) := dz_100 (k_X4_costIn 1 42 rfl)
theorem dX4_costIn_107 : decode cX4_costIn 107 = .ok (.istore 4, 2) := dz_54 (k_X4_costIn 1 43 rfl) (k_X4_costIn 1 44 rfl)
theorem dX4_costIn_109 : decode cX4_costIn 109 = .ok (.iload 4, 2) := dz_21 (k_X4_costIn 1 45 rfl) (k_X4_costIn 1 46 rfl)
theorem dX4_costIn_111 : decode cX4_costIn 111 = .ok (.ifCond .lt 15, 3) := dz_155 (k_X4_costIn 1 47 rfl) (k_X4_costIn 1 48 rfl) (k_X4_costIn 1 49 rfl) rfl
theorem dX4_costIn_114 : decode cX4_costIn 114 = .ok (.aload_n 0, 1) := dz_42 (k_X4_costIn 1 50 rfl)
theorem dX4_costIn_115 : decode cX4_costIn 115 = .ok (.iload 4, 2) := dz_21 (k_X4_costIn 1 51 rfl) (k_X4_costIn 1 52 rfl)
theorem dX4_costIn_117 : decode cX4_costIn 117 = .ok (.invokevirtual 139, 3) := dz_182 (k_X4_costIn 1 53 rfl) (k_X4_costIn 1 54 rfl) (k_X4_costIn 1 55 rfl) rfl
theorem dX4_costIn_120 : decode cX4_costIn 120 = .ok (.iinc 4 (-1), 3) := dz_132 (k_X4_costIn 1 56 rfl) (k_X4_costIn 1 57 rfl) (k_X4_costIn 1 58 rfl) rfl
theorem dX4_costIn_123 : decode cX4_costIn 123 = .ok (.goto (-14), 3) := dz_167 (k_X4_costIn 1 59 rfl) (k_X4_costIn 1 60 rfl) (k_X4_costIn 1 61 rfl) rfl
theorem dX4_costIn_126 : decode cX4_costIn 126 = .ok (.aload_n 0, 1) := dz_42 (k_X4_costIn 1 62 rfl)
theorem dX4_costIn_127 : decode cX4_costIn 127 = .ok (.getfield 27, 3) := dz_180 (k_X4_costIn 1 63 rfl) (k_X4_costIn 2 0 rfl) (k_X4_costIn 2 1 rfl) rfl
theorem dX4_costIn_130 : decode cX4_costIn 130 = .ok (.iconst 0, 1) := dz_3 (k_X4_costIn 2 2 rfl)
theorem dX4_costIn_131 : decode cX4_costIn 131 = .ok (.iaload, 1) := dz_46 (k_X4_costIn 2 3 rfl)
theorem dX4_costIn_132 : decode cX4_costIn 132 = .ok (.ldc 135, 2) := dz_18 (k_X4_costIn 2 4 rfl) (k_X4_costIn 2 5 rfl)
theorem dX4_costIn_134 : decode cX4_costIn 134 = .ok (.if_icmp .ne 7, 3) := dz_160 (k_X4_costIn 2 6 rfl) (k_X4_costIn 2 7 rfl) (k_X4_costIn 2 8 rfl) rfl
theorem dX4_costIn_137 : decode cX4_costIn 137 = .ok (.iconst (-1), 1) := dz_2 (k_X4_costIn 2 9 rfl)
theorem dX4_costIn_138 : decode cX4_costIn 138 = .ok (.goto 9, 3) := dz_167 (k_X4_costIn 2 10 rfl) (k_X4_costIn 2 11 rfl) (k_X4_costIn 2 12 rfl) rfl
theorem dX4_costIn_141 : decode cX4_costIn 141 = .ok (.aload_n 0, 1) := dz_42 (k_X4_costIn 2 13 rfl)
theorem dX4_costIn_142 : decode cX4_costIn 142 = .ok (.getfield 27, 3) := dz_180 (k_X4_costIn 2 14 rfl) (k_X4_costIn 2 15 rfl) (k_X4_costIn 2 16 rfl) rfl
theorem dX4_costIn_145 : decode cX4_costIn 145 = .ok (.iconst 0, 1) := dz_3 (k_X4_costIn 2 17 rfl)
theorem dX4_costIn_146 : decode cX4_costIn 146 = .ok (.iaload, 1) := dz_46 (k_X4_costIn 2 18 rfl)
theorem dX4_costIn_147 : decode cX4_costIn 147 = .ok (.ireturn, 1) := dz_172 (k_X4_costIn 2 19 rfl)
def B_X4_costOfAbsurd : List (List Nat) := [[18, 135, 61, 3, 62, 29, 42, 180, 0, 48, 162, 0, 70, 42, 180, 0, 30, 42, 180, 0, 11, 29, 46, 182, 0, 82, 4, 160, 0, 47, 42, 42, 180, 0, 30, 42, 180, 0, 11, 29, 46, 182, 0, 92, 182, 0, 74, 54, 4, 21, 4, 2, 159, 0, 22, 28, 42, 27, 29, 182, 0, 174, 42, 27], [21, 4, 182, 0, 174, 96, 184, 0, 164, 61, 132, 3, 1, 167, 255, 184, 28, 172]]
theorem k_X4_costOfAbsurd (j i : Nat) {b : Nat} (h : (B_X4_costOfAbsurd[j]?.bind fun c => c[i]?) = some b) : s_by cX4_costOfAbsurd (64 * j + i) b := s_byC (L := B_X4_costOfAbsurd) (by decide +kernel) (by decide +kernel) j i h
theorem dX4_costOfAbsurd_0 : decode cX4_costOfAbsurd 0 = .ok (.ldc 135, 2) := dz_18 (k_X4_costOfAbsurd 0 0 rfl) (k_X4_costOfAbsurd 0 1 rfl)
theorem dX4_costOfAbsurd_2 : decode cX4_costOfAbsurd 2 = .ok (.istore_n 2, 1) := dz_61 (k_X4_costOfAbsurd 0 2 rfl)
theorem dX4_costOfAbsurd_3 : decode cX4_costOfAbsurd 3 = .ok (.iconst 0, 1) := dz_3 (k_X4_costOfAbsurd 0 3 rfl)
theorem dX4_costOfAbsurd_4 : decode cX4_costOfAbsurd 4 = .ok (.istore_n 3, 1) := dz_62 (k_X4_costOfAbsurd 0 4 rfl)
theorem dX4_costOfAbsurd_5 : decode cX4_costOfAbsurd 5 = .ok (.iload_n 3, 1) := dz_29 (k_X4_costOfAbsurd 0 5 rfl)
theorem dX4_costOfAbsurd_6 : decode cX4_costOfAbsurd 6 = .ok (.aload_n 0, 1) := dz_42 (k_X4_costOfAbsurd 0 6 rfl)
theorem dX4_costOfAbsurd_7 : decode cX4_costOfAbsurd 7 = .ok (.getfield 48, 3) := dz_180 (k_X4_costOfAbsurd 0 7 rfl) (k_X4_costOfAbsurd 0 8 rfl) (k_X4_costOfAbsurd 0 9 rfl) rfl
theorem dX4_costOfAbsurd_10 : decode cX4_costOfAbsurd 10 = .ok (.if_icmp .ge 70, 3) := dz_162 (k_X4_costOfAbsurd 0 10 rfl) (k_X4_costOfAbsurd 0 11 rfl) (k_X4_costOfAbsurd 0 12 rfl) rfl
theorem dX4_costOfAbsurd_13 : decode cX4_costOfAbsurd 13 = .ok (.aload_n 0, 1) := dz_42 (k_X4_costOfAbsurd 0 13 rfl)
theorem dX4_costOfAbsurd_14 : decode cX4_costOfAbsurd 14 = .ok (.getfield 30, 3) := dz_180 (k_X4_costOfAbsurd 0 14 rfl) (k_X4_costOfAbsurd 0 15 rfl) (k_X4_costOfAbsurd 0 16 rfl) rfl
theorem dX4_costOfAbsurd_17 : decode cX4_costOfAbsurd 17 = .ok (.aload_n 0, 1) := dz_42 (k_X4_costOfAbsurd 0 17 rfl)
theorem dX4_costOfAbsurd_18 : decode cX4_costOfAbsurd 18 = .ok (.getfield 11, 3) := dz_180 (k_X4_costOfAbsurd 0 18 rfl) (k_X4_costOfAbsurd 0 19 rfl) (k_X4_costOfAbsurd 0 20 rfl) rfl
theorem dX4_costOfAbsurd_21 : decode cX4_costOfAbsurd 21 = .ok (.iload_n 3, 1) := dz_29 (k_X4_costOfAbsurd 0 21 rfl)
theorem dX4_costOfAbsurd_22 : decode cX4_costOfAbsurd 22 = .ok (.iaload, 1) := dz_46 (k_X4_costOfAbsurd 0 22 rfl)
theorem dX4_costOfAbsurd_23 : decode cX4_costOfAbsurd 23 = .ok (.invokevirtual 82, 3) := dz_182 (k_X4_costOfAbsurd 0 23 rfl) (k_X4_costOfAbsurd 0 24 rfl) (k_X4_costOfAbsurd 0 25 rfl) rfl
theorem dX4_costOfAbsurd_26 : decode cX4_costOfAbsurd 26 = .ok (.iconst 1, 1) := dz_4 (k_X4_costOfAbsurd 0 26 rfl)
theorem dX4_costOfAbsurd_27 : decode cX4_costOfAbsurd 27 = .ok (.if_icmp .ne 47, 3) := dz_160 (k_X4_costOfAbsurd 0 27 rfl) (k_X4_costOfAbsurd 0 28 rfl) (k_X4_costOfAbsurd 0 29 rfl) rfl
theorem dX4_costOfAbsurd_30 : decode cX4_costOfAbsurd 30 = .ok (.aload_n 0, 1) := dz_42 (k_X4_costOfAbsurd 0 30 rfl)
theorem dX4_costOfAbsurd_31 : decode cX4_costOfAbsurd 31 = .ok (.aload_n 0, 1) := dz_42 (k_X4_costOfAbsurd 0 31 rfl)
theorem dX4_costOfAbsurd_32 : decode cX4_costOfAbsurd 32 = .ok (.getfield 30, 3) := dz_180 (k_X4_costOfAbsurd 0 32 rfl) (k_X4_costOfAbsurd 0 33 rfl) (k_X4_costOfAbsurd 0 34 rfl) rfl
theorem dX4_costOfAbsurd_35 : decode cX4_costOfAbsurd 35 = .ok (.aload_n 0, 1) := dz_42 (k_X4_costOfAbsurd 0 35 rfl)
theorem dX4_costOfAbsurd_36 : decode cX4_costOfAbsurd 36 = .ok (.getfield 11, 3) := dz_180 (k_X4_costOfAbsurd 0 36 rfl) (k_X4_costOfAbsurd 0 37 rfl) (k_X4_costOfAbsurd 0 38 rfl) rfl
theorem dX4_costOfAbsurd_39 : decode cX4_costOfAbsurd 39 = .ok (.iload_n 3, 1) := dz_29 (k_X4_costOfAbsurd 0 39 rfl)
theorem dX4_costOfAbsurd_40 : decode cX4_costOfAbsurd 40 = .ok (.iaload, 1) := dz_46 (k_X4_costOfAbsurd 0 40 rfl)
theorem dX4_costOfAbsurd_41 : decode cX4_costOfAbsurd 41 = .ok (.invokevirtual 92, 3) := dz_182 (k_X4_costOfAbsurd 0 41 rfl) (k_X4_costOfAbsurd 0 42 rfl) (k_X4_costOfAbsurd 0 43 rfl) rfl
theorem dX4_costOfAbsurd_44 : decode cX4_costOfAbsurd 44 = .ok (.invokevirtual 74, 3) := dz_182 (k_X4_costOfAbsurd 0 44 rfl) (k_X4_costOfAbsurd 0 45 rfl) (k_X4_costOfAbsurd 0 46 rfl) rfl
theorem dX4_costOfAbsurd_47 : decode cX4_costOfAbsurd 47 = .ok (.istore 4, 2) := dz_54 (k_X4_costOfAbsurd 0 47 rfl) (k_X4_costOfAbsurd 0 48 rfl)
theorem dX4_costOfAbsurd_49 : decode cX4_costOfAbsurd 49 = .ok (.iload 4, 2) := dz_21 (k_X4_costOfAbsurd 0 49 rfl) (k_X4_costOfAbsurd 0 50 rfl)
theorem dX4_costOfAbsurd_51 : decode cX4_costOfAbsurd 51 = .ok (.iconst (-1), 1) := dz_2 (k_X4_costOfAbsurd 0 51 rfl)
theorem dX4_costOfAbsurd_52 : decode cX4_costOfAbsurd 52 = .ok (.if_icmp .eq 22, 3) := dz_159 (k_X4_costOfAbsurd 0 52 rfl) (k_X4_costOfAbsurd 0 53 rfl) (k_X4_costOfAbsurd 0 54 rfl) rfl
theorem dX4_costOfAbsurd_55 : decode cX4_costOfAbsurd 55 = .ok (.iload_n 2, 1) := dz_28 (k_X4_costOfAbsurd 0 55 rfl)
theorem dX4_costOfAbsurd_56 : decode cX4_costOfAbsurd 56 = .ok (.aload_n 0, 1) := dz_42 (k_X4_costOfAbsurd 0 56 rfl)
theorem dX4_costOfAbsurd_57 : decode cX4_costOfAbsurd 57 = .ok (.iload_n 1, 1) := dz_27 (k_X4_costOfAbsurd 0 57 rfl)
theorem dX4_costOfAbsurd_58 : decode cX4_costOfAbsurd 58 = .ok (.iload_n 3, 1) := dz_29 (k_X4_costOfAbsurd 0 58 rfl)
theorem dX4_costOfAbsurd_59 : decode cX4_costOfAbsurd 59 = .ok (.invokevirtual 174, 3) := dz_182 (k_X4_costOfAbsurd 0 59 rfl) (k_X4_costOfAbsurd 0 60 rfl) (k_X4_costOfAbsurd 0 61 rfl) rfl
theorem dX4_costOfAbsurd_62 : decode cX4_costOfAbsurd 62 = .ok (.aload_n 0, 1) := dz_42 (k_X4_costOfAbsurd 0 62 rfl)
theorem dX4_costOfAbsurd_63 : decode cX4_costOfAbsurd 63 = .ok (.iload_n 1, 1) := dz_27 (k_X4_costOfAbsurd 0 63 rfl)
theorem dX4_costOfAbsurd_64 : decode cX4_costOfAbsurd 64 = .ok (.iload 4, 2) := dz_21 (k_X4_costOfAbsurd 1 0 rfl) (k_X4_costOfAbsurd 1 1 rfl)
theorem dX4_costOfAbsurd_66 : decode cX4_costOfAbsurd 66 = .ok (.invokevirtual 174, 3) := dz_182 (k_X4_costOfAbsurd 1 2 rfl) (k_X4_costOfAbsurd 1 3 rfl) (k_X4_costOfAbsurd 1 4 rfl) rfl
theorem dX4_costOfAbsurd_69 : decode cX4_costOfAbsurd 69 = .ok (.iadd, 1) := dz_96 (k_X4_costOfAbsurd 1 5 rfl)
theorem dX4_costOfAbsurd_70 : decode cX4_costOfAbsurd 70 = .ok (.invokestatic 164, 3) := dz_184 (k_X4_costOfAbsurd 1 6 rfl) (k_X4_costOfAbsurd 1 7 rfl) (k_X4_costOfAbsurd 1 8 rfl) rfl
theorem dX4_costOfAbsurd_73 : decode cX4_costOfAbsurd 73 = .ok (.istore_n 2, 1) := dz_61 (k_X4_costOfAbsurd 1 9 rfl)
theorem dX4_costOfAbsurd_74 : decode cX4_costOfAbsurd 74 = .ok (.iinc 3 1, 3) := dz_132 (k_X4_costOfAbsurd 1 10 rfl) (k_X4_costOfAbsurd 1 11 rfl) (k_X4_costOfAbsurd 1 12 rfl) rfl
theorem dX4_costOfAbsurd_77 : decode cX4_costOfAbsurd 77 = .ok (.goto (-72), 3) := dz_167 (k_X4_costOfAbsurd 1 13 rfl) (k_X4_costOfAbsurd 1 14 rfl) (k_X4_costOfAbsurd 1 15 rfl) rfl
theorem dX4_costOfAbsurd_80 : decode cX4_costOfAbsurd 80 = .ok (.iload_n 2, 1) := dz_28 (k_X4_costOfAbsurd 1 16 rfl)
theorem dX4_costOfAbsurd_81 : decode cX4_costOfAbsurd 81 = .ok (.ireturn, 1) := dz_172 (k_X4_costOfAbsurd 1 17 rfl)
def B_X4_costOfGiven : List (List Nat) := [[21, 4, 155, 0, 23, 21, 4, 42, 180, 0, 51, 162, 0, 14, 42, 180, 0, 18, 4, 46, 18, 135, 160, 0, 6, 18, 135, 172, 28, 42, 4, 42, 180, 0, 21, 21, 4, 46, 182, 0, 155, 96, 42, 27, 4, 21, 4, 120, 128, 29, 182, 0, 174, 96, 184, 0, 158, 172]]
theorem k_X4_costOfGiven (j i : Nat) {b : Nat} (h : (B_X4_costOfGiven[j]?.bind fun c => c[i]?) = some b) : s_by cX4_costOfGiven (64 * j + i) b := s_byC (L := B_X4_costOfGiven) (by decide +kernel) (by decide +kernel) j i h
theorem dX4_costOfGiven_0 : decode cX4_costOfGiven 0 = .ok (.iload 4, 2) := dz_21 (k_X4_costOfGiven 0 0 rfl) (k_X4_costOfGiven 0 1 rfl)
theorem dX4_costOfGiven_2 : decode cX4_costOfGiven 2 = .ok (.ifCond .lt 23, 3) := dz_155 (k_X4_costOfGiven 0 2 rfl) (k_X4_costOfGiven 0 3 rfl) (k_X4_costOfGiven 0 4 rfl) rfl
theorem dX4_costOfGiven_5 : decode cX4_costOfGiven 5 = .ok (.iload 4, 2) := dz_21 (k_X4_costOfGiven 0 5 rfl) (k_X4_costOfGiven 0 6 rfl)
theorem dX4_costOfGiven_7 : decode cX4_costOfGiven 7 = .ok (.aload_n 0, 1) := dz_42 (k_X4_costOfGiven 0 7 rfl)
theorem dX4_costOfGiven_8 : decode cX4_costOfGiven 8 = .ok (.getfield 51, 3) := dz_180 (k_X4_costOfGiven 0 8 rfl) (k_X4_costOfGiven 0 9 rfl) (k_X4_costOfGiven 0 10 rfl) rfl
theorem dX4_costOfGiven_11 : decode cX4_costOfGiven 11 = .ok (.if_icmp .ge 14, 3) := dz_162 (k_X4_costOfGiven 0 11 rfl) (k_X4_costOfGiven 0 12 rfl) (k_X4_costOfGiven 0 13 rfl) rfl
theorem dX4_costOfGiven_14 : decode cX4_costOfGiven 14 = .ok (.aload_n 0, 1) := dz_42 (k_X4_costOfGiven 0 14 rfl)
theorem dX4_costOfGiven_15 : decode cX4_costOfGiven 15 = .ok (.getfield 18, 3) := dz_180 (k_X4_costOfGiven 0 15 rfl) (k_X4_costOfGiven 0 16 rfl) (k_X4_costOfGiven 0 17 rfl) rfl
theorem dX4_costOfGiven_18 : decode cX4_costOfGiven 18 = .ok (.iconst 1, 1) := dz_4 (k_X4_costOfGiven 0 18 rfl)
theorem dX4_costOfGiven_19 : decode cX4_costOfGiven 19 = .ok (.iaload, 1) := dz_46 (k_X4_costOfGiven 0 19 rfl)
theorem dX4_costOfGiven_20 : decode cX4_costOfGiven 20 = .ok (.ldc 135, 2) := dz_18 (k_X4_costOfGiven 0 20 rfl) (k_X4_costOfGiven 0 21 rfl)
theorem dX4_costOfGiven_22 : decode cX4_costOfGiven 22 = .ok (.if_icmp .ne 6, 3) := dz_160 (k_X4_costOfGiven 0 22 rfl) (k_X4_costOfGiven 0 23 rfl) (k_X4_costOfGiven 0 24 rfl) rfl
theorem dX4_costOfGiven_25 : decode cX4_costOfGiven 25 = .ok (.ldc 135, 2) := dz_18 (k_X4_costOfGiven 0 25 rfl) (k_X4_costOfGiven 0 26 rfl)
theorem dX4_costOfGiven_27 : decode cX4_costOfGiven 27 = .ok (.ireturn, 1) := dz_172 (k_X4_costOfGiven 0 27 rfl)
theorem dX4_costOfGiven_28 : decode cX4_costOfGiven 28 = .ok (.iload_n 2, 1) := dz_28 (k_X4_costOfGiven 0 28 rfl)
theorem dX4_costOfGiven_29 : decode cX4_costOfGiven 29 = .ok (.aload_n 0, 1) := dz_42 (k_X4_costOfGiven 0 29 rfl)
theorem dX4_costOfGiven_30 : decode cX4_costOfGiven 30 = .ok (.iconst 1, 1) := dz_4 (k_X4_costOfGiven 0 30 rfl)
theorem dX4_costOfGiven_31 : decode cX4_costOfGiven 31 = .ok (.aload_n 0, 1) := dz_42 (k_X4_costOfGiven 0 31 rfl)
theorem dX4_costOfGiven_32 : decode cX4_costOfGiven 32 = .ok (.getfield 21, 3) := dz_180 (k_X4_costOfGiven 0 32 rfl) (k_X4_costOfGiven 0 33 rfl) (k_X4_costOfGiven 0 34 rfl) rfl
theorem dX4_costOfGiven_35 : decode cX4_costOfGiven 35 = .ok (.iload 4, 2) := dz_21 (k_X4_costOfGiven 0 35 rfl) (k_X4_costOfGiven 0 36 rfl)
theorem dX4_costOfGiven_37 : decode cX4_costOfGiven 37 = .ok (.iaload, 1) := dz_46 (k_X4_costOfGiven 0 37 rfl)
theorem dX4_costOfGiven_38 : decode cX4_costOfGiven 38 = .ok (.invokevirtual 155, 3) := dz_182 (k_X4_costOfGiven 0 38 rfl) (k_X4_costOfGiven 0 39 rfl) (k_X4_costOfGiven 0 40 rfl) rfl
theorem dX4_costOfGiven_41 : decode cX4_costOfGiven 41 = .ok (.iadd, 1) := dz_96 (k_X4_costOfGiven 0 41 rfl)
theorem dX4_costOfGiven_42 : decode cX4_costOfGiven 42 = .ok (.aload_n 0, 1) := dz_42 (k_X4_costOfGiven 0 42 rfl)
theorem dX4_costOfGiven_43 : decode cX4_costOfGiven 43 = .ok (.iload_n 1, 1) := dz_27 (k_X4_costOfGiven 0 43 rfl)
theorem dX4_costOfGiven_44 : decode cX4_costOfGiven 44 = .ok (.iconst 1, 1) := dz_4 (k_X4_costOfGiven 0 44 rfl)
theorem dX4_costOfGiven_45 : decode cX4_costOfGiven 45 = .ok (.iload 4, 2) := dz_21 (k_X4_costOfGiven 0 45 rfl) (k_X4_costOfGiven 0 46 rfl)
theorem dX4_costOfGiven_47 : decode cX4_costOfGiven 47 = .ok (.ishl, 1) := dz_120 (k_X4_costOfGiven 0 47 rfl)
theorem dX4_costOfGiven_48 : decode cX4_costOfGiven 48 = .ok (.ior, 1) := dz_128 (k_X4_costOfGiven 0 48 rfl)
theorem dX4_costOfGiven_49 : decode cX4_costOfGiven 49 = .ok (.iload_n 3, 1) := dz_29 (k_X4_costOfGiven 0 49 rfl)
theorem dX4_costOfGiven_50 : decode cX4_costOfGiven 50 = .ok (.invokevirtual 174, 3) := dz_182 (k_X4_costOfGiven 0 50 rfl) (k_X4_costOfGiven 0 51 rfl) (k_X4_costOfGiven 0 52 rfl) rfl
theorem dX4_costOfGiven_53 : decode cX4_costOfGiven 53 = .ok (.iadd, 1) := dz_96 (k_X4_costOfGiven 0 53 rfl)
theorem dX4_costOfGiven_54 : decode cX4_costOfGiven 54 = .ok (.invokestatic 158, 3) := dz_184 (k_X4_costOfGiven 0 54 rfl) (k_X4_costOfGiven 0 55 rfl) (k_X4_costOfGiven 0 56 rfl) rfl
theorem dX4_costOfGiven_57 : decode cX4_costOfGiven 57 = .ok (.ireturn, 1) := dz_172 (k_X4_costOfGiven 0 57 rfl)
def B_X4_costOfStep : List (List Nat) := [[28, 8, 104, 62, 42, 180, 0, 24, 29, 46, 54, 4, 42, 21, 4, 42, 180, 0, 24, 29, 4, 96, 46, 182, 0, 155, 54, 5, 21, 5, 18, 135, 160, 0, 6, 18, 135, 172, 21, 4, 16, 10, 160, 0, 27, 42, 27, 21, 5, 42, 180, 0, 24, 29, 5, 96, 46, 42, 180, 0, 24, 29, 6, 96], [46, 182, 0, 170, 172, 21, 5, 54, 6, 5, 54, 7, 21, 7, 8, 162, 0, 41, 42, 180, 0, 24, 29, 21, 7, 96, 46, 2, 159, 0, 22, 21, 6, 42, 27, 42, 180, 0, 24, 29, 21, 7, 96, 46, 182, 0, 174, 96, 54, 6, 132, 7, 1, 167, 255, 215, 21, 6, 184, 0, 158, 172]]
theorem k_X4_costOfStep (j i : Nat) {b : Nat} (h : (B_X4_costOfStep[j]?.bind fun c => c[i]?) = some b) : s_by cX4_costOfStep (64 * j + i) b := s_byC (L := B_X4_costOfStep) (by decide +kernel) (by decide +kernel) j i h
theorem dX4_costOfStep_0 : decode cX4_costOfStep 0 = .ok (.iload_n 2, 1) := dz_28 (k_X4_costOfStep 0 0 rfl)
theorem dX4_costOfStep_1 : decode cX4_costOfStep 1 = .ok (.iconst 5, 1) := dz_8 (k_X4_costOfStep 0 1 rfl)
theorem dX4_costOfStep_2 : decode cX4_costOfStep 2 = .ok (.imul, 1) := dz_104 (k_X4_costOfStep 0 2 rfl)
theorem dX4_costOfStep_3 : decode cX4_costOfStep 3 = .ok (.istore_n 3, 1) := dz_62 (k_X4_costOfStep 0 3 rfl)
theorem dX4_costOfStep_4 : decode cX4_costOfStep 4 = .ok (.aload_n 0, 1) := dz_42 (k_X4_costOfStep 0 4 rfl)
theorem dX4_costOfStep_5 : decode cX4_costOfStep 5 = .ok (.getfield 24, 3) := dz_180 (k_X4_costOfStep 0 5 rfl) (k_X4_costOfStep 0 6 rfl) (k_X4_costOfStep 0 7 rfl) rfl
theorem dX4_costOfStep_8 : decode cX4_costOfStep 8 = .ok (.iload_n 3, 1) := dz_29 (k_X4_costOfStep 0 8 rfl)
theorem dX4_costOfStep_9 : decode cX4_costOfStep 9 = .ok (.iaload, 1) := dz_46 (k_X4_costOfStep 0 9 rfl)
theorem dX4_costOfStep_10 : decode cX4_costOfStep 10 = .ok (.istore 4, 2) := dz_54 (k_X4_costOfStep 0 10 rfl) (k_X4_costOfStep 0 11 rfl)
theorem dX4_costOfStep_12 : decode cX4_costOfStep 12 = .ok (.aload_n 0, 1) := dz_42 (k_X4_costOfStep 0 12 rfl)
theorem dX4_costOfStep_13 : decode cX4_costOfStep 13 = .ok (.iload 4, 2) := dz_21 (k_X4_costOfStep 0 13 rfl) (k_X4_costOfStep 0 14 rfl)
theorem dX4_costOfStep_15 : decode cX4_costOfStep 15 = .ok (.aload_n 0, 1) := dz_42 (k_X4_costOfStep 0 15 rfl)
theorem dX4_costOfStep_16 : decode cX4_costOfStep 16 = .ok (.getfield 24, 3) := dz_180 (k_X4_costOfStep 0 16 rfl) (k_X4_costOfStep 0 17 rfl) (k_X4_costOfStep 0 18 rfl) rfl
theorem dX4_costOfStep_19 : decode cX4_costOfStep 19 = .ok (.iload_n 3, 1) := dz_29 (k_X4_costOfStep 0 19 rfl)
theorem dX4_costOfStep_20 : decode cX4_costOfStep 20 = .ok (.iconst 1, 1) := dz_4 (k_X4_costOfStep 0 20 rfl)
theorem dX4_costOfStep_21 : decode cX4_costOfStep 21 = .ok (.iadd, 1) := dz_96 (k_X4_costOfStep 0 21 rfl)
theorem dX4_costOfStep_22 : decode cX4_costOfStep 22 = .ok (.iaload, 1) := dz_46 (k_X4_costOfStep 0 22 rfl)
theorem dX4_costOfStep_23 : decode cX4_costOfStep 23 = .ok (.invokevirtual 155, 3) := dz_182 (k_X4_costOfStep 0 23 rfl) (k_X4_costOfStep 0 24 rfl) (k_X4_costOfStep 0 25 rfl) rfl
theorem dX4_costOfStep_26 : decode cX4_costOfStep 26 = .ok (.istore 5, 2) := dz_54 (k_X4_costOfStep 0 26 rfl) (k_X4_costOfStep 0 27 rfl)
theorem dX4_costOfStep_28 : decode cX4_costOfStep 28 = .ok (.iload 5, 2) := dz_21 (k_X4_costOfStep 0 28 rfl) (k_X4_costOfStep 0 29 rfl)
theorem dX4_costOfStep_30 : decode cX4_costOfStep 30 = .ok (.ldc 135, 2) := dz_18 (k_X4_costOfStep 0 30 rfl) (k_X4_costOfStep 0 31 rfl)
theorem dX4_costOfStep_32 : decode cX4_costOfStep 32 = .ok (.if_icmp .ne 6, 3) := dz_160 (k_X4_costOfStep 0 32 rfl) (k_X4_costOfStep 0 33 rfl) (k_X4_costOfStep 0 34 rfl) rfl
theorem dX4_costOfStep_35 : decode cX4_costOfStep 35 = .ok (.ldc 135, 2) := dz_18 (k_X4_costOfStep 0 35 rfl) (k_X4_costOfStep 0 36 rfl)
theorem dX4_costOfStep_37 : decode cX4_costOfStep 37 = .ok (.ireturn, 1) := dz_172 (k_X4_costOfStep 0 37 rfl)
theorem dX4_costOfStep_38 : decode cX4_costOfStep 38 = .ok (.iload 4, 2) := dz_21 (k_X4_costOfStep 0 38 rfl) (k_X4_costOfStep 0 39 rfl)
theorem dX4_costOfStep_40 : decode cX4_costOfStep 40 = .ok (.bipush 10, 2) := dz_16 (k_X4_costOfStep 0 40 rfl) (k_X4_costOfStep 0 41 rfl) rfl
theorem dX4_costOfStep_42 : decode cX4_costOfStep 42 = .ok (.if_icmp .ne 27, 3) := dz_160 (k_X4_costOfStep 0 42 rfl) (k_X4_costOfStep 0 43 rfl) (k_X4_costOfStep 0 44 rfl) rfl
theorem dX4_costOfStep_45 : decode cX4_costOfStep 45 = .ok (.aload_n 0, 1) := dz_42 (k_X4_costOfStep 0 45 rfl)
theorem dX4_costOfStep_46 : decode cX4_costOfStep 46 = .ok (.iload_n 1, 1) := dz_27 (k_X4_costOfStep 0 46 rfl)
theorem dX4_costOfStep_47 : decode cX4_costOfStep 47 = .ok (.iload 5, 2) := dz_21 (k_X4_costOfStep 0 47 rfl) (k_X4_costOfStep 0 48 rfl)
theorem dX4_costOfStep_49 : decode cX4_costOfStep 49 = .ok (.aload_n 0, 1) := dz_42 (k_X4_costOfStep 0 49 rfl)
theorem dX4_costOfStep_50 : decode cX4_costOfStep 50 = .ok (.getfield 24, 3) := dz_180 (k_X4_costOfStep 0 50 rfl) (k_X4_costOfStep 0 51 rfl) (k_X4_costOfStep 0 52 rfl) rfl
theorem dX4_costOfStep_53 : decode cX4_costOfStep 53 = .ok (.iload_n 3, 1) := dz_29 (k_X4_costOfStep 0 53 rfl)
theorem dX4_costOfStep_54 : decode cX4_costOfStep 54 = .ok (.iconst 2, 1) := dz_5 (k_X4_costOfStep 0 54 rfl)
theorem dX4_costOfStep_55 : decode cX4_costOfStep 55 = .ok (.iadd, 1) := dz_96 (k_X4_costOfStep 0 55 rfl)
theorem dX4_costOfStep_56 : decode cX4_costOfStep 56 = .ok (.iaload, 1) := dz_46 (k_X4_costOfStep 0 56 rfl)
theorem dX4_costOfStep_57 : decode cX4_costOfStep 57 = .ok (.aload_n 0, 1) := dz_42 (k_X4_costOfStep 0 57 rfl)
theorem dX4_costOfStep_58 : decode cX4_costOfStep 58 = .ok (.getfield 24, 3) := dz_180 (k_X4_costOfStep 0 58 rfl) (k_X4_costOfStep 0 59 rfl) (k_X4_costOfStep 0 60 rfl) rfl
theorem dX4_costOfStep_61 : decode cX4_costOfStep 61 = .ok (.iload_n 3, 1) := dz_29 (k_X4_costOfStep 0 61 rfl)
theorem dX4_costOfStep_62 : decode cX4_costOfStep 62 = .ok (.iconst 3, 1) := dz_6 (k_X4_costOfStep 0 62 rfl)
theorem dX4_costOfStep_63 : decode cX4_costOfStep 63 = .ok (.iadd, 1) := dz_96 (k_X4_costOfStep 0 63 rfl)
theorem dX4_costOfStep_64 : decode cX4_costOfStep 64 = .ok (.iaload, 1) := dz_46 (k_X4_costOfStep 1 0 rfl)
theorem dX4_costOfStep_65 : decode cX4_costOfStep 65 = .ok (.invokevirtual 170, 3) := dz_182 (k_X4_costOfStep 1 1 rfl) (k_X4_costOfStep 1 2 rfl) (k_X4_costOfStep 1 3 rfl) rfl
theorem dX4_costOfStep_68 : decode cX4_costOfStep 68 = .ok (.ireturn, 1) := dz_172 (k_X4_costOfStep 1 4 rfl)
theorem dX4_costOfStep_69 : decode cX4_costOfStep 69 = .ok (.iload 5, 2) := dz_21 (k_X4_costOfStep 1 5 rfl) (k_X4_costOfStep 1 6 rfl)
theorem dX4_costOfStep_71 : decode cX4_costOfStep 71 = .ok (.istore 6, 2) := dz_54 (k_X4_costOfStep 1 7 rfl) (k_X4_costOfStep 1 8 rfl)
theorem dX4_costOfStep_73 : decode cX4_costOfStep 73 = .ok (.iconst 2, 1) := dz_5 (k_X4_costOfStep 1 9 rfl)
theorem dX4_costOfStep_74 : decode cX4_costOfStep 74 = .ok (.istore 7, 2) := dz_54 (k_X4_costOfStep 1 10 rfl) (k_X4_costOfStep 1 11 rfl)
theorem dX4_costOfStep_76 : decode cX4_costOfStep 76 = .ok (.iload 7, 2) := dz_21 (k_X4_costOfStep 1 12 rfl) (k_X4_costOfStep 1 13 rfl)
theorem dX4_costOfStep_78 : decode cX4_costOfStep 78 = .ok (.iconst 5, 1) := dz_8 (k_X4_costOfStep 1 14 rfl)
theorem dX4_costOfStep_79 : decode cX4_costOfStep 79 = .ok (.if_icmp .ge 41, 3) := dz_162 (k_X4_costOfStep 1 15 rfl) (k_X4_costOfStep 1 16 rfl) (k_X4_costOfStep 1 17 rfl) rfl
theorem dX4_costOfStep_82 : decode cX4_costOfStep 82 = .ok (.aload_n 0, 1) := dz_42 (k_X4_costOfStep 1 18 rfl)
theorem dX4_costOfStep_83 : decode cX4_costOfStep 83 = .ok (.getfield 24, 3) := dz_180 (k_X4_costOfStep 1 19 rfl) (k_X4_costOfStep 1 20 rfl) (k_X4_costOfStep 1 21 rfl) rfl
theorem dX4_costOfStep_86 : decode cX4_costOfStep 86 = .ok (.iload_n 3, 1) := dz_29 (k_X4_costOfStep 1 22 rfl)
theorem dX4_costOfStep_87 : decode cX4_costOfStep 87 = .ok (.iload 7, 2) := dz_21 (k_X4_costOfStep 1 23 rfl) (k_X4_costOfStep 1 24 rfl)
theorem dX4_costOfStep_89 : decode cX4_costOfStep 89 = .ok (.iadd, 1) := dz_96 (k_X4_costOfStep 1 25 rfl)
theorem dX4_costOfStep_90 : decode cX4_costOfStep 90 = .ok (.iaload, 1) := dz_46 (k_X4_costOfStep 1 26 rfl)
theorem dX4_costOfStep_91 : decode cX4_costOfStep 91 = .ok (.iconst (-1), 1) := dz_2 (k_X4_costOfStep 1 27 rfl)
theorem dX4_costOfStep_92 : decode cX4_costOfStep 92 = .ok (.if_icmp .eq 22, 3) := dz_159 (k_X4_costOfStep 1 28 rfl) (k_X4_costOfStep 1 29 rfl) (k_X4_costOfStep 1 30 rfl) rfl
theorem dX4_costOfStep_95 : decode cX4_costOfStep 95 = .ok (.iload 6, 2) := dz_21 (k_X4_costOfStep 1 31 rfl) (k_X4_costOfStep 1 32 rfl)
theorem dX4_costOfStep_97 : decode cX4_costOfStep 97 = .ok (.aload_n 0, 1) := dz_42 (k_X4_costOfStep 1 33 rfl)
theorem dX4_costOfStep_98 : decode cX4_costOfStep 98 = .ok (.iload_n 1, 1) := dz_27 (k_X4_costOfStep 1 34 rfl)
theorem dX4_costOfStep_99 : decode cX4_costOfStep 99 = .ok (.aload_n 0, 1) := dz_42 (k_X4_costOfStep 1 35 rfl)
theorem dX4_costOfStep_100 : decode cX4_costOfStep 100 = .ok (.getfield 24, 3) := dz_180 (k_X4_costOfStep 1 36 rfl) (k_X4_costOfStep 1 37 rfl) (k_X4_costOfStep 1 38 rfl) rfl
theorem dX4_costOfStep_103 : decode cX4_costOfStep 103 = .ok (.iload_n 3, 1) := dz_29 (k_X4_costOfStep 1 39 rfl)
theorem dX4_costOfStep_104 : decode cX4_costOfStep 104 = .ok (.iload 7, 2) := dz_21 (k_X4_costOfStep 1 40 rfl) (k_X4_costOfStep 1 41 rfl)
theorem dX4_costOfStep_106 : decode cX4_costOfStep 106 = .ok (.iadd, 1) := dz_96 (k_X4_costOfStep 1 42 rfl)
theorem dX4_costOfStep_107 : decode cX4_costOfStep 107 = .ok (.iaload, 1) := dz_46 (k_X4_costOfStep 1 43 rfl)
theorem dX4_costOfStep_108 : decode cX4_costOfStep 108 = .ok (.invokevirtual 174, 3) := dz_182 (k_X4_costOfStep 1 44 rfl) (k_X4_costOfStep 1 45 rfl) (k_X4_costOfStep 1 46 rfl) rfl
theorem dX4_costOfStep_111 : decode cX4_costOfStep 111 = .ok (.iadd, 1) := dz_96 (k_X4_costOfStep 1 47 rfl)
theorem dX4_costOfStep_112 : decode cX4_costOfStep 112 = .ok (.istore 6, 2) := dz_54 (k_X4_costOfStep 1 48 rfl) (k_X4_costOfStep 1 49 rfl)
theorem dX4_costOfStep_114 : decode cX4_costOfStep 114 = .ok (.iinc 7 1, 3) := dz_132 (k_X4_costOfStep 1 50 rfl) (k_X4_costOfStep 1 51 rfl) (k_X4_costOfStep 1 52 rfl) rfl
theorem dX4_costOfStep_117 : decode cX4_costOfStep 117 = .ok (.goto (-41), 3) := dz_167 (k_X4_costOfStep 1 53 rfl) (k_X4_costOfStep 1 54 rfl) (k_X4_costOfStep 1 55 rfl) rfl
theorem dX4_costOfStep_120 : decode cX4_costOfStep 120 = .ok (.iload 6, 2) := dz_21 (k_X4_costOfStep 1 56 rfl) (k_X4_costOfStep 1 57 rfl)
theorem dX4_costOfStep_122 : decode cX4_costOfStep 122 = .ok (.invokestatic 158, 3) := dz_184 (k_X4_costOfStep 1 58 rfl) (k_X4_costOfStep 1 59 rfl) (k_X4_costOfStep 1 60 rfl) rfl
theorem dX4_costOfStep_125 : decode cX4_costOfStep 125 = .ok (.ireturn, 1) := dz_172 (k_X4_costOfStep 1 61 rfl)
def B_X4_costResold : List (List Nat) := [[42, 180, 0, 34, 27, 16, 15, 182, 0, 128, 153, 0, 10, 42, 180, 0, 48, 154, 0, 5, 2, 172, 2, 61, 3, 62, 29, 6, 162, 0, 45, 29, 27, 160, 0, 7, 2, 167, 0, 8, 42, 29, 182, 0, 177, 54, 4, 21, 4, 2, 159, 0, 17, 28, 2, 159, 0, 9, 21, 4, 28, 162, 0, 6], [21, 4, 61, 132, 3, 1, 167, 255, 212, 28, 2, 160, 0, 7, 2, 167, 0, 21, 28, 42, 180, 0, 34, 27, 16, 15, 42, 180, 0, 15, 3, 46, 182, 0, 180, 96, 172]]
theorem k_X4_costResold (j i : Nat) {b : Nat} (h : (B_X4_costResold[j]?.bind fun c => c[i]?) = some b) : s_by cX4_costResold (64 * j + i) b := s_byC (L := B_X4_costResold) (by decide +kernel) (by decide +kernel) j i h
theorem dX4_costResold_0 : decode cX4_costResold 0 = .ok (.aload_n 0, 1) := dz_42 (k_X4_costResold 0 0 rfl)
theorem dX4_costResold_1 : decode cX4_costResold 1 = .ok (.getfield 34, 3) := dz_180 (k_X4_costResold 0 1 rfl) (k_X4_costResold 0 2 rfl) (k_X4_costResold 0 3 rfl) rfl
theorem dX4_costResold_4 : decode cX4_costResold 4 = .ok (.iload_n 1, 1) := dz_27 (k_X4_costResold 0 4 rfl)
theorem dX4_costResold_5 : decode cX4_costResold 5 = .ok (.bipush 15, 2) := dz_16 (k_X4_costResold 0 5 rfl) (k_X4_costResold 0 6 rfl) rfl
theorem dX4_costResold_7 : decode cX4_costResold 7 = .ok (.invokevirtual 128, 3) := dz_182 (k_X4_costResold 0 7 rfl) (k_X4_costResold 0 8 rfl) (k_X4_costResold 0 9 rfl) rfl
theorem dX4_costResold_10 : decode cX4_costResold 10 = .ok (.ifCond .eq 10, 3) := dz_153 (k_X4_costResold 0 10 rfl) (k_X4_costResold 0 11 rfl) (k_X4_costResold 0 12 rfl) rfl
theorem dX4_costResold_13 : decode cX4_costResold 13 = .ok (.aload_n 0, 1) := dz_42 (k_X4_costResold 0 13 rfl)
theorem dX4_costResold_14 : decode cX4_costResold 14 = .ok (.getfield 48, 3) := dz_180 (k_X4_costResold 0 14 rfl) (k_X4_costResold 0 15 rfl) (k_X4_costResold 0 16 rfl) rfl
theorem dX4_costResold_17 : decode cX4_costResold 17 = .ok (.ifCond .ne 5, 3) := dz_154 (k_X4_costResold 0 17 rfl) (k_X4_costResold 0 18 rfl) (k_X4_costResold 0 19 rfl) rfl
theorem dX4_costResold_20 : decode cX4_costResold 20 = .ok (.iconst (-1), 1) := dz_2 (k_X4_costResold 0 20 rfl)
theorem dX4_costResold_21 : decode cX4_costResold 21 = .ok (.ireturn, 1) := dz_172 (k_X4_costResold 0 21 rfl)
theorem dX4_costResold_22 : decode cX4_costResold 22 = .ok (.iconst (-1), 1) := dz_2 (k_X4_costResold 0 22 rfl)
theorem dX4_costResold_23 : decode cX4_costResold 23 = .ok (.istore_n 2, 1) := dz_61 (k_X4_costResold 0 23 rfl)
theorem dX4_costResold_24 : decode cX4_costResold 24 = .ok (.iconst 0, 1) := dz_3 (k_X4_costResold 0 24 rfl)
theorem dX4_costResold_25 : decode cX4_costResold 25 = .ok (.istore_n 3, 1) := dz_62 (k_X4_costResold 0 25 rfl)
theorem dX4_costResold_26 : decode cX4_costResold 26 = .ok (.iload_n 3, 1) := dz_29 (k_X4_costResold 0 26 rfl)
theorem dX4_costResold_27 : decode cX4_costResold 27 = .ok (.iconst 3, 1) := dz_6 (k_X4_costResold 0 27 rfl)
theorem dX4_costResold_28 : decode cX4_costResold 28 = .ok (.if_icmp .ge 45, 3) := dz_162 (k_X4_costResold 0 28 rfl) (k_X4_costResold 0 29 rfl) (k_X4_costResold 0 30 rfl) rfl
theorem dX4_costResold_31 : decode cX4_costResold 31 = .ok (.iload_n 3, 1) := dz_29 (k_X4_costResold 0 31 rfl)
theorem dX4_costResold_32 : decode cX4_costResold 32 = .ok (.iload_n 1, 1) := dz_27 (k_X4_costResold 0 32 rfl)
theorem dX4_costResold_33 : decode cX4_costResold 33 = .ok (.if_icmp .ne 7, 3) := dz_160 (k_X4_costResold 0 33 rfl) (k_X4_costResold 0 34 rfl) (k_X4_costResold 0 35 rfl) rfl
theorem dX4_costResold_36 : decode cX4_costResold 36 = .ok (.iconst (-1), 1) := dz_2 (k_X4_costResold 0 36 rfl)
theorem dX4_costResold_37 : decode cX4_costResold 37 = .ok (.goto 8, 3) := dz_167 (k_X4_costResold 0 37 rfl) (k_X4_costResold 0 38 rfl) (k_X4_costResold 0 39 rfl) rfl
theorem dX4_costResold_40 : decode cX4_costResold 40 = .ok (.aload_n 0, 1) := dz_42 (k_X4_costResold 0 40 rfl)
theorem dX4_costResold_41 : decode cX4_costResold 41 = .ok (.iload_n 3, 1) := dz_29 (k_X4_costResold 0 41 rfl)
theorem dX4_costResold_42 : decode cX4_costResold 42 = .ok (.invokevirtual 177, 3) := dz_182 (k_X4_costResold 0 42 rfl) (k_X4_costResold 0 43 rfl) (k_X4_costResold 0 44 rfl) rfl
theorem dX4_costResold_45 : decode cX4_costResold 45 = .ok (.istore 4, 2) := dz_54 (k_X4_costResold 0 45 rfl) (k_X4_costResold 0 46 rfl)
theorem dX4_costResold_47 : decode cX4_costResold 47 = .ok (.iload 4, 2) := dz_21 (k_X4_costResold 0 47 rfl) (k_X4_costResold 0 48 rfl)
theorem dX4_costResold_49 : decode cX4_costResold 49 = .ok (.iconst (-1), 1) := dz_2 (k_X4_costResold 0 49 rfl)
theorem dX4_costResold_50 : decode cX4_costResold 50 = .ok (.if_icmp .eq 17, 3) := dz_159 (k_X4_costResold 0 50 rfl) (k_X4_costResold 0 51 rfl) (k_X4_costResold 0 52 rfl) rfl
theorem dX4_costResold_53 : decode cX4_costResold 53 = .ok (.iload_n 2, 1) := dz_28 (k_X4_costResold 0 53 rfl)
theorem dX4_costResold_54 : decode cX4_costResold 54 = .ok (.iconst (-1), 1) := dz_2 (k_X4_costResold 0 54 rfl)
theorem dX4_costResold_55 : decode cX4_costResold 55 = .ok (.if_icmp .eq 9, 3) := dz_159 (k_X4_costResold 0 55 rfl) (k_X4_costResold 0 56 rfl) (k_X4_costResold 0 57 rfl) rfl
theorem dX4_costResold_58 : decode cX4_costResold 58 = .ok (.iload 4, 2) := dz_21 (k_X4_costResold 0 58 rfl) (k_X4_costResold 0 59 rfl)
theorem dX4_costResold_60 : decode cX4_costResold 60 = .ok (.iload_n 2, 1) := dz_28 (k_X4_costResold 0 60 rfl)
theorem dX4_costResold_61 : decode cX4_costResold 61 = .ok (.if_icmp .ge 6, 3) := dz_162 (k_X4_costResold 0 61 rfl) (k_X4_costResold 0 62 rfl) (k_X4_costResold 0 63 rfl) rfl
theorem dX4_costResold_64 : decode cX4_costResold 64 = .ok (.iload 4, 2) := dz_21 (k_X4_costResold 1 0 rfl) (k_X4_costResold 1 1 rfl)
theorem dX4_costResold_66 : decode cX4_costResold 66 = .ok (.istore_n 2, 1) := dz_61 (k_X4_costResold 1 2 rfl)
theorem dX4_costResold_67 : decode cX4_costResold 67 = .ok (.iinc 3 1, 3) := dz_132 (k_X4_costResold 1 3 rfl) (k_X4_costResold 1 4 rfl) (k_X4_costResold 1 5 rfl) rfl
theorem dX4_costResold_70 : decode cX4_costResold 70 = .ok (.goto (-44), 3) := dz_167 (k_X4_costResold 1 6 rfl) (k_X4_costResold 1 7 rfl) (k_X4_costResold 1 8 rfl) rfl
theorem dX4_costResold_73 : decode cX4_costResold 73 = .ok (.iload_n 2, 1) := dz_28 (k_X4_costResold 1 9 rfl)
theorem dX4_costResold_74 : decode cX4_costResold 74 = .ok (.iconst (-1), 1) := dz_2 (k_X4_costResold 1 10 rfl)
theorem dX4_costResold_75 : decode cX4_costResold 75 = .ok (.if_icmp .ne 7, 3) := dz_160 (k_X4_costResold 1 11 rfl) (k_X4_costResold 1 12 rfl) (k_X4_costResold 1 13 rfl) rfl
theorem dX4_costResold_78 : decode cX4_costResold 78 = .ok (.iconst (-1), 1) := dz_2 (k_X4_costResold 1 14 rfl)
theorem dX4_costResold_79 : decode cX4_costResold 79 = .ok (.goto 21, 3) := dz_167 (k_X4_costResold 1 15 rfl) (k_X4_costResold 1 16 rfl) (k_X4_costResold 1 17 rfl) rfl
theorem dX4_costResold_82 : decode cX4_costResold 82 = .ok (.iload_n 2, 1) := dz_28 (k_X4_costResold 1 18 rfl)
theorem dX4_costResold_83 : decode cX4_costResold 83 = .ok (.aload_n 0, 1) := dz_42 (k_X4_costResold 1 19 rfl)
theorem dX4_costResold_84 : decode cX4_costResold 84 = .ok (.getfield 34, 3) := dz_180 (k_X4_costResold 1 20 rfl) (k_X4_costResold 1 21 rfl) (k_X4_costResold 1 22 rfl) rfl
theorem dX4_costResold_87 : decode cX4_costResold 87 = .ok (.iload_n 1, 1) := dz_27 (k_X4_costResold 1 23 rfl)
theorem dX4_costResold_88 : decode cX4_costResold 88 = .ok (.bipush 15, 2) := dz_16 (k_X4_costResold 1 24 rfl) (k_X4_costResold 1 25 rfl) rfl
theorem dX4_costResold_90 : decode cX4_costResold 90 = .ok (.aload_n 0, 1) := dz_42 (k_X4_costResold 1 26 rfl)
theorem dX4_costResold_91 : decode cX4_costResold 91 = .ok (.getfield 15, 3) := dz_180 (k_X4_costResold 1 27 rfl) (k_X4_costResold 1 28 rfl) (k_X4_costResold 1 29 rfl) rfl
theorem dX4_costResold_94 : decode cX4_costResold 94 = .ok (.iconst 0, 1) := dz_3 (k_X4_costResold 1 30 rfl)
theorem dX4_costResold_95 : decode cX4_costResold 95 = .ok (.iaload, 1) := dz_46 (k_X4_costResold 1 31 rfl)
theorem dX4_costResold_96 : decode cX4_costResold 96 = .ok (.invokevirtual 180, 3) := dz_182 (k_X4_costResold 1 32 rfl) (k_X4_costResold 1 33 rfl) (k_X4_costResold 1 34 rfl) rfl
theorem dX4_costResold_99 : decode cX4_costResold 99 = .ok (.iadd, 1) := dz_96 (k_X4_costResold 1 35 rfl)
theorem dX4_costResold_100 : decode cX4_costResold 100 = .ok (.ireturn, 1) := dz_172 (k_X4_costResold 1 36 rfl)
def B_X4_improve : List (List Nat) := [[27, 16, 40, 104, 28, 96, 54, 4, 21, 4, 155, 0, 24, 21, 4, 42, 180, 0, 27, 190, 162, 0, 14, 29, 42, 180, 0, 27, 21, 4, 46, 161, 0, 5, 3, 172, 42, 180, 0, 27, 21, 4, 29, 79, 4, 172]]
theorem k_X4_improve (j i : Nat) {b : Nat} (h : (B_X4_improve[j]?.bind fun c => c[i]?) = some b) : s_by cX4_improve (64 * j + i) b := s_byC (L := B_X4_improve) (by decide +kernel) (by decide +kernel) j i h
theorem dX4_improve_0 : decode cX4_improve 0 = .ok (.iload_n 1, 1) := dz_27 (k_X4_improve 0 0 rfl)
theorem dX4_improve_1 : decode cX4_improve 1 = .ok (.bipush 40, 2) := dz_16 (k_X4_improve 0 1 rfl) (k_X4_improve 0 2 rfl) rfl
theorem dX4_improve_3 : decode cX4_improve 3 = .ok (.imul, 1) := dz_104 (k_X4_improve 0 3 rfl)
theorem dX4_improve_4 : decode cX4_improve 4 = .ok (.iload_n 2, 1) := dz_28 (k_X4_improve 0 4 rfl)
theorem dX4_improve_5 : decode cX4_improve 5 = .ok (.iadd, 1) := dz_96 (k_X4_improve 0 5 rfl)
theorem dX4_improve_6 : decode cX4_improve 6 = .ok (.istore 4, 2) := dz_54 (k_X4_improve 0 6 rfl) (k_X4_improve 0 7 rfl)
theorem dX4_improve_8 : decode cX4_improve 8 = .ok (.iload 4, 2) := dz_21 (k_X4_improve 0 8 rfl) (k_X4_improve 0 9 rfl)
theorem dX4_improve_10 : decode cX4_improve 10 = .ok (.ifCond .lt 24, 3) := dz_155 (k_X4_improve 0 10 rfl) (k_X4_improve 0 11 rfl) (k_X4_improve 0 12 rfl) rfl
theorem dX4_improve_13 : decode cX4_improve 13 = .ok (.iload 4, 2) := dz_21 (k_X4_improve 0 13 rfl) (k_X4_improve 0 14 rfl)
theorem dX4_improve_15 : decode cX4_improve 15 = .ok (.aload_n 0, 1) := dz_42 (k_X4_improve 0 15 rfl)
theorem dX4_improve_16 : decode cX4_improve 16 = .ok (.getfield 27, 3) := dz_180 (k_X4_improve 0 16 rfl) (k_X4_improve 0 17 rfl) (k_X4_improve 0 18 rfl) rfl
theorem dX4_improve_19 : decode cX4_improve 19 = .ok (.arraylength, 1) := dz_190 (k_X4_improve 0 19 rfl)
theorem dX4_improve_20 : decode cX4_improve 20 = .ok (.if_icmp .ge 14, 3) := dz_162 (k_X4_improve 0 20 rfl) (k_X4_improve 0 21 rfl) (k_X4_improve 0 22 rfl) rfl
theorem dX4_improve_23 : decode cX4_improve 23 = .ok (.iload_n 3, 1) := dz_29 (k_X4_improve 0 23 rfl)
theorem dX4_improve_24 : decode cX4_improve 24 = .ok (.aload_n 0, 1) := dz_42 (k_X4_improve 0 24 rfl)
theorem dX4_improve_25 : decode cX4_improve 25 = .ok (.getfield 27, 3) := dz_180 (k_X4_improve 0 25 rfl) (k_X4_improve 0 26 rfl) (k_X4_improve 0 27 rfl) rfl
theorem dX4_improve_28 : decode cX4_improve 28 = .ok (.iload 4, 2) := dz_21 (k_X4_improve 0 28 rfl) (k_X4_improve 0 29 rfl)
theorem dX4_improve_30 : decode cX4_improve 30 = .ok (.iaload, 1) := dz_46 (k_X4_improve 0 30 rfl)
theorem dX4_improve_31 : decode cX4_improve 31 = .ok (.if_icmp .lt 5, 3) := dz_161 (k_X4_improve 0 31 rfl) (k_X4_improve 0 32 rfl) (k_X4_improve 0 33 rfl) rfl
theorem dX4_improve_34 : decode cX4_improve 34 = .ok (.iconst 0, 1) := dz_3 (k_X4_improve 0 34 rfl)
theorem dX4_improve_35 : decode cX4_improve 35 = .ok (.ireturn, 1) := dz_172 (k_X4_improve 0 35 rfl)
theorem dX4_improve_36 : decode cX4_improve 36 = .ok (.aload_n 0, 1) := dz_42 (k_X4_improve 0 36 rfl)
theorem dX4_improve_37 : decode cX4_improve 37 = .ok (.getfield 27, 3) := dz_180 (k_X4_improve 0 37 rfl) (k_X4_improve 0 38 rfl) (k_X4_improve 0 39 rfl) rfl
theorem dX4_improve_40 : decode cX4_improve 40 = .ok (.iload 4, 2) := dz_21 (k_X4_improve 0 40 rfl) (k_X4_improve 0 41 rfl)
theorem dX4_improve_42 : decode cX4_improve 42 = .ok (.iload_n 3, 1) := dz_29 (k_X4_improve 0 42 rfl)
theorem dX4_improve_43 : decode cX4_improve 43 = .ok (.iastore, 1) := dz_79 (k_X4_improve 0 43 rfl)
theorem dX4_improve_44 : decode cX4_improve 44 = .ok (.iconst 1, 1) := dz_4 (k_X4_improve 0 44 rfl)
theorem dX4_improve_45 : decode cX4_improve 45 = .ok (.ireturn, 1) := dz_172 (k_X4_improve 0 45 rfl)
def B_X4_init : List (List Nat) := [[42, 183, 0, 5, 42, 16, 40, 188, 10, 181, 0, 11, 42, 16, 40, 188, 10, 181, 0, 15, 42, 16, 16, 188, 10, 181, 0, 18, 42, 6, 188, 10, 181, 0, 21, 42, 17, 10, 240, 188, 10, 181, 0, 24, 42, 17, 1, 64, 188, 10, 181, 0, 27, 42, 43, 181, 0, 30, 42, 44, 181, 0, 34, 177]]
theorem k_X4_init (j i : Nat) {b : Nat} (h : (B_X4_init[j]?.bind fun c => c[i]?) = some b) : s_by cX4_init (64 * j + i) b := s_byC (L := B_X4_init) (by decide +kernel) (by decide +kernel) j i h
theorem dX4_init_0 : decode cX4_init 0 = .ok (.aload_n 0, 1) := dz_42 (k_X4_init 0 0 rfl)
theorem dX4_init_1 : decode cX4_init 1 = .ok (.invokespecial 5, 3) := dz_183 (k_X4_init 0 1 rfl) (k_X4_init 0 2 rfl) (k_X4_init 0 3 rfl) rfl
theorem dX4_init_4 : decode cX4_init 4 = .ok (.aload_n 0, 1) := dz_42 (k_X4_init 0 4 rfl)
theorem dX4_init_5 : decode cX4_init 5 = .ok (.bipush 40, 2) := dz_16 (k_X4_init 0 5 rfl) (k_X4_init 0 6 rfl) rfl
theorem dX4_init_7 : decode cX4_init 7 = .ok (.newarray .int, 2) := by decide +kernel
theorem dX4_init_9 : decode cX4_init 9 = .ok (.putfield 11, 3) := dz_181 (k_X4_init 0 9 rfl) (k_X4_init 0 10 rfl) (k_X4_init 0 11 rfl) rfl
theorem dX4_init_12 : decode cX4_init 12 = .ok (.aload_n 0, 1) := dz_42 (k_X4_init 0 12 rfl)
theorem dX4_init_13 : decode cX4_init 13 = .ok (.bipush 40, 2) := dz_16 (k_X4_init 0 13 rfl) (k_X4_init 0 14 rfl) rfl
theorem dX4_init_15 : decode cX4_init 15 = .ok (.newarray .int, 2) := by decide +kernel
theorem dX4_init_17 : decode cX4_init 17 = .ok (.putfield 15, 3) := dz_181 (k_X4_init 0 17 rfl) (k_X4_init 0 18 rfl) (k_X4_init 0 19 rfl) rfl
theorem dX4_init_20 : decode cX4_init 20 = .ok (.aload_n 0, 1) := dz_42 (k_X4_init 0 20 rfl)
theorem dX4_init_21 : decode cX4_init 21 = .ok (.bipush 16, 2) := dz_16 (k_X4_init 0 21 rfl) (k_X4_init 0 22 rfl) rfl
theorem dX4_init_23 : decode cX4_init 23 = .ok (.newarray .int, 2) := by decide +kernel
theorem dX4_init_25 : decode cX4_init 25 = .ok (.putfield 18, 3) := dz_181 (k_X4_init 0 25 rfl) (k_X4_init 0 26 rfl) (k_X4_init 0 27 rfl) rfl
theorem dX4_init_28 : decode cX4_init 28 = .ok (.aload_n 0, 1) := dz_42 (k_X4_init 0 28 rfl)
theorem dX4_init_29 : decode cX4_init 29 = .ok (.iconst 3, 1) := dz_6 (k_X4_init 0 29 rfl)
theorem dX4_init_30 : decode cX4_init 30 = .ok (.newarray .int, 2) := by decide +kernel
theorem dX4_init_32 : decode cX4_init 32 = .ok (.putfield 21, 3) := dz_181 (k_X4_init 0 32 rfl) (k_X4_init 0 33 rfl) (k_X4_init 0 34 rfl) rfl
theorem dX4_init_35 : decode cX4_init 35 = .ok (.aload_n 0, 1) := dz_42 (k_X4_init 0 35 rfl)
theorem dX4_init_36 : decode cX4_init 36 = .ok (.sipush 2800, 3) := dz_17 (k_X4_init 0 36 rfl) (k_X4_init 0 37 rfl) (k_X4_init 0 38 rfl) rfl
theorem dX4_init_39 : decode cX4_init 39 = .ok (.newarray .int, 2) := by decide +kernel
theorem dX4_init_41 : decode cX4_init 41 = .ok (.putfield 24, 3) := dz_181 (k_X4_init 0 41 rfl) (k_X4_init 0 42 rfl) (k_X4_init 0 43 rfl) rfl
theorem dX4_init_44 : decode cX4_init 44 = .ok (.aload_n 0, 1) := dz_42 (k_X4_init 0 44 rfl)
theorem dX4_init_45 : decode cX4_init 45 = .ok (.sipush 320, 3) := dz_17 (k_X4_init 0 45 rfl) (k_X4_init 0 46 rfl) (k_X4_init 0 47 rfl) rfl
theorem dX4_init_48 : decode cX4_init 48 = .ok (.newarray .int, 2) := by decide +kernel
theorem dX4_init_50 : decode cX4_init 50 = .ok (.putfield 27, 3) := dz_181 (k_X4_init 0 50 rfl) (k_X4_init 0 51 rfl) (k_X4_init 0 52 rfl) rfl
theorem dX4_init_53 : decode cX4_init 53 = .ok (.aload_n 0, 1) := dz_42 (k_X4_init 0 53 rfl)
theorem dX4_init_54 : decode cX4_init 54 = .ok (.aload_n 1, 1) := dz_43 (k_X4_init 0 54 rfl)
theorem dX4_init_55 : decode cX4_init 55 = .ok (.putfield 30, 3) := dz_181 (k_X4_init 0 55 rfl) (k_X4_init 0 56 rfl) (k_X4_init 0 57 rfl) rfl
theorem dX4_init_58 : decode cX4_init 58 = .ok (.aload_n 0, 1) := dz_42 (k_X4_init 0 58 rfl)
theorem dX4_init_59 : decode cX4_init 59 = .ok (.aload_n 2, 1) := dz_44 (k_X4_init 0 59 rfl)
theorem dX4_init_60 : decode cX4_init 60 = .ok (.putfield 34, 3) := dz_181 (k_X4_init 0 60 rfl) (k_X4_init 0 61 rfl) (k_X4_init 0 62 rfl) rfl
theorem dX4_init_63 : decode cX4_init 63 = .ok (.return_, 1) := dz_177 (k_X4_init 0 63 rfl)
def B_X4_lastRuleIn : List (List Nat) := [[42, 27, 182, 0, 177, 61, 28, 2, 160, 0, 5, 2, 172, 42, 3, 3, 182, 0, 142, 28, 160, 0, 5, 3, 172, 16, 14, 62, 3, 54, 4, 21, 4, 42, 180, 0, 54, 162, 0, 60, 42, 180, 0, 24, 21, 4, 8, 104, 4, 96, 46, 154, 0, 7, 4, 167, 0, 4, 3, 54, 5, 21, 5, 153], [0, 28, 42, 3, 21, 4, 182, 0, 145, 28, 160, 0, 17, 29, 42, 180, 0, 24, 21, 4, 8, 104, 46, 184, 0, 164, 62, 132, 4, 1, 167, 255, 193, 29, 172]]
theorem k_X4_lastRuleIn (j i : Nat) {b : Nat} (h : (B_X4_lastRuleIn[j]?.bind fun c => c[i]?) = some b) : s_by cX4_lastRuleIn (64 * j + i) b := s_byC (L := B_X4_lastRuleIn) (by decide +kernel) (by decide +kernel) j i h
theorem dX4_lastRuleIn_0 : decode cX4_lastRuleIn 0 = .ok (.aload_n 0, 1) := dz_42 (k_X4_lastRuleIn 0 0 rfl)
theorem dX4_lastRuleIn_1 : decode cX4_lastRuleIn 1 = .ok (.iload_n 1, 1) := dz_27 (k_X4_lastRuleIn 0 1 rfl)
theorem dX4_lastRuleIn_2 : decode cX4_lastRuleIn 2 = .ok (.invokevirtual 177, 3) := dz_182 (k_X4_lastRuleIn 0 2 rfl) (k_X4_lastRuleIn 0 3 rfl) (k_X4_lastRuleIn 0 4 rfl) rfl
theorem dX4_lastRuleIn_5 : decode cX4_lastRuleIn 5 = .ok (.istore_n 2, 1) := dz_61 (k_X4_lastRuleIn 0 5 rfl)
theorem dX4_lastRuleIn_6 : decode cX4_lastRuleIn 6 = .ok (.iload_n 2, 1) := dz_28 (k_X4_lastRuleIn 0 6 rfl)
theorem dX4_lastRuleIn_7 : decode cX4_lastRuleIn 7 = .ok (.iconst (-1), 1) := dz_2 (k_X4_lastRuleIn 0 7 rfl)
theorem dX4_lastRuleIn_8 : decode cX4_lastRuleIn 8 = .ok (.if_icmp .ne 5, 3) := dz_160 (k_X4_lastRuleIn 0 8 rfl) (k_X4_lastRuleIn 0 9 rfl) (k_X4_lastRuleIn 0 10 rfl) rfl
theorem dX4_lastRuleIn_11 : decode cX4_lastRuleIn 11 = .ok (.iconst (-1), 1) := dz_2 (k_X4_lastRuleIn 0 11 rfl)
theorem dX4_lastRuleIn_12 : decode cX4_lastRuleIn 12 = .ok (.ireturn, 1) := dz_172 (k_X4_lastRuleIn 0 12 rfl)
theorem dX4_lastRuleIn_13 : decode cX4_lastRuleIn 13 = .ok (.aload_n 0, 1) := dz_42 (k_X4_lastRuleIn 0 13 rfl)
theorem dX4_lastRuleIn_14 : decode cX4_lastRuleIn 14 = .ok (.iconst 0, 1) := dz_3 (k_X4_lastRuleIn 0 14 rfl)
theorem dX4_lastRuleIn_15 : decode cX4_lastRuleIn 15 = .ok (.iconst 0, 1) := dz_3 (k_X4_lastRuleIn 0 15 rfl)
theorem dX4_lastRuleIn_16 : decode cX4_lastRuleIn 16 = .ok (.invokevirtual 142, 3) := dz_182 (k_X4_lastRuleIn 0 16 rfl) (k_X4_lastRuleIn 0 17 rfl) (k_X4_lastRuleIn 0 18 rfl) rfl
theorem dX4_lastRuleIn_19 : decode cX4_lastRuleIn 19 = .ok (.iload_n 2, 1) := dz_28 (k_X4_lastRuleIn 0 19 rfl)
theorem dX4_lastRuleIn_20 : decode cX4_lastRuleIn 20 = .ok (.if_icmp .ne 5, 3) := dz_160 (k_X4_lastRuleIn 0 20 rfl) (k_X4_lastRuleIn 0 21 rfl) (k_X4_lastRuleIn 0 22 rfl) rfl
theorem dX4_lastRuleIn_23 : decode cX4_lastRuleIn 23 = .ok (.iconst 0, 1) := dz_3 (k_X4_lastRuleIn 0 23 rfl)
theorem dX4_lastRuleIn_24 : decode cX4_lastRuleIn 24 = .ok (.ireturn, 1) := dz_172 (k_X4_lastRuleIn 0 24 rfl)
theorem dX4_lastRuleIn_25 : decode cX4_lastRuleIn 25 = .ok (.bipush 14, 2) := dz_16 (k_X4_lastRuleIn 0 25 rfl) (k_X4_lastRuleIn 0 26 rfl) rfl
theorem dX4_lastRuleIn_27 : decode cX4_lastRuleIn 27 = .ok (.istore_n 3, 1) := dz_62 (k_X4_lastRuleIn 0 27 rfl)
theorem dX4_lastRuleIn_28 : decode cX4_lastRuleIn 28 = .ok (.iconst 0, 1) := dz_3 (k_X4_lastRuleIn 0 28 rfl)
theorem dX4_lastRuleIn_29 : decode cX4_lastRuleIn 29 = .ok (.istore 4, 2) := dz_54 (k_X4_lastRuleIn 0 29 rfl) (k_X4_lastRuleIn 0 30 rfl)
theorem dX4_lastRuleIn_31 : decode cX4_lastRuleIn 31 = .ok (.iload 4, 2) := dz_21 (k_X4_lastRuleIn 0 31 rfl) (k_X4_lastRuleIn 0 32 rfl)
theorem dX4_lastRuleIn_33 : decode cX4_lastRuleIn 33 = .ok (.aload_n 0, 1) := dz_42 (k_X4_lastRuleIn 0 33 rfl)
theorem dX4_lastRuleIn_34 : decode cX4_lastRuleIn 34 = .ok (.getfield 54, 3) := dz_180 (k_X4_lastRuleIn 0 34 rfl) (k_X4_lastRuleIn 0 35 rfl) (k_X4_lastRuleIn 0 36 rfl) rfl
theorem dX4_lastRuleIn_37 : decode cX4_lastRuleIn 37 = .ok (.if_icmp .ge 60, 3) := dz_162 (k_X4_lastRuleIn 0 37 rfl) (k_X4_lastRuleIn 0 38 rfl) (k_X4_lastRuleIn 0 39 rfl) rfl
theorem dX4_lastRuleIn_40 : decode cX4_lastRuleIn 40 = .ok (.aload_n 0, 1) := dz_42 (k_X4_lastRuleIn 0 40 rfl)
theorem dX4_lastRuleIn_41 : decode cX4_lastRuleIn 41 = .ok (.getfield 24, 3) := dz_180 (k_X4_lastRuleIn 0 41 rfl) (k_X4_lastRuleIn 0 42 rfl) (k_X4_lastRuleIn 0 43 rfl) rfl
theorem dX4_lastRuleIn_44 : decode cX4_lastRuleIn 44 = .ok (.iload 4, 2) := dz_21 (k_X4_lastRuleIn 0 44 rfl) (k_X4_lastRuleIn 0 45 rfl)
theorem dX4_lastRuleIn_46 : decode cX4_lastRuleIn 46 = .ok (.iconst 5, 1) := dz_8 (k_X4_lastRuleIn 0 46 rfl)
theorem dX4_lastRuleIn_47 : decode cX4_lastRuleIn 47 = .ok (.imul, 1) := dz_104 (k_X4_lastRuleIn 0 47 rfl)
theorem dX4_lastRuleIn_48 : decode cX4_lastRuleIn 48 = .ok (.iconst 1, 1) := dz_4 (k_X4_lastRuleIn 0 48 rfl)
theorem dX4_lastRuleIn_49 : decode cX4_lastRuleIn 49 = .ok (.iadd, 1) := dz_96 (k_X4_lastRuleIn 0 49 rfl)
theorem dX4_lastRuleIn_50 : decode cX4_lastRuleIn 50 = .ok (.iaload, 1) := dz_46 (k_X4_lastRuleIn 0 50 rfl)
theorem dX4_lastRuleIn_51 : decode cX4_lastRuleIn 51 = .ok (.ifCond .ne 7, 3) := dz_154 (k_X4_lastRuleIn 0 51 rfl) (k_X4_lastRuleIn 0 52 rfl) (k_X4_lastRuleIn 0 53 rfl) rfl
theorem dX4_lastRuleIn_54 : decode cX4_lastRuleIn 54 = .ok (.iconst 1, 1) := dz_4 (k_X4_lastRuleIn 0 54 rfl)
theorem dX4_lastRuleIn_55 : decode cX4_lastRuleIn 55 = .ok (.goto 4, 3) := dz_167 (k_X4_lastRuleIn 0 55 rfl) (k_X4_lastRuleIn 0 56 rfl) (k_X4_lastRuleIn 0 57 rfl) rfl
theorem dX4_lastRuleIn_58 : decode cX4_lastRuleIn 58 = .ok (.iconst 0, 1) := dz_3 (k_X4_lastRuleIn 0 58 rfl)
theorem dX4_lastRuleIn_59 : decode cX4_lastRuleIn 59 = .ok (.istore 5, 2) := dz_54 (k_X4_lastRuleIn 0 59 rfl) (k_X4_lastRuleIn 0 60 rfl)
theorem dX4_lastRuleIn_61 : decode cX4_lastRuleIn 61 = .ok (.iload 5, 2) := dz_21 (k_X4_lastRuleIn 0 61 rfl) (k_X4_lastRuleIn 0 62 rfl)
theorem dX4_lastRuleIn_63 : decode cX4_lastRuleIn 63 = .ok (.ifCond .eq 28, 3) := dz_153 (k_X4_lastRuleIn 0 63 rfl) (k_X4_lastRuleIn 1 0 rfl) (k_X4_lastRuleIn 1 1 rfl) rfl
theorem dX4_lastRuleIn_66 : decode cX4_lastRuleIn 66 = .ok (.aload_n 0, 1) := dz_42 (k_X4_lastRuleIn 1 2 rfl)
theorem dX4_lastRuleIn_67 : decode cX4_lastRuleIn 67 = .ok (.iconst 0, 1) := dz_3 (k_X4_lastRuleIn 1 3 rfl)
theorem dX4_lastRuleIn_68 : decode cX4_lastRuleIn 68 = .ok (.iload 4, 2) := dz_21 (k_X4_lastRuleIn 1 4 rfl) (k_X4_lastRuleIn 1 5 rfl)
theorem dX4_lastRuleIn_70 : decode cX4_lastRuleIn 70 = .ok (.invokevirtual 145, 3) := dz_182 (k_X4_lastRuleIn 1 6 rfl) (k_X4_lastRuleIn 1 7 rfl) (k_X4_lastRuleIn 1 8 rfl) rfl
theorem dX4_lastRuleIn_73 : decode cX4_lastRuleIn 73 = .ok (.iload_n 2, 1) := dz_28 (k_X4_lastRuleIn 1 9 rfl)
theorem dX4_lastRuleIn_74 : decode cX4_lastRuleIn 74 = .ok (.if_icmp .ne 17, 3) := dz_160 (k_X4_lastRuleIn 1 10 rfl) (k_X4_lastRuleIn 1 11 rfl) (k_X4_lastRuleIn 1 12 rfl) rfl
theorem dX4_lastRuleIn_77 : decode cX4_lastRuleIn 77 = .ok (.iload_n 3, 1) := dz_29 (k_X4_lastRuleIn 1 13 rfl)
theorem dX4_lastRuleIn_78 : decode cX4_lastRuleIn 78 = .ok (.aload_n 0, 1) := dz_42 (k_X4_lastRuleIn 1 14 rfl)
theorem dX4_lastRuleIn_79 : decode cX4_lastRuleIn 79 = .ok (.getfield 24, 3) := dz_180 (k_X4_lastRuleIn 1 15 rfl) (k_X4_lastRuleIn 1 16 rfl) (k_X4_lastRuleIn 1 17 rfl) rfl
theorem dX4_lastRuleIn_82 : decode cX4_lastRuleIn 82 = .ok (.iload 4, 2) := dz_21 (k_X4_lastRuleIn 1 18 rfl) (k_X4_lastRuleIn 1 19 rfl)
theorem dX4_lastRuleIn_84 : decode cX4_lastRuleIn 84 = .ok (.iconst 5, 1) := dz_8 (k_X4_lastRuleIn 1 20 rfl)
theorem dX4_lastRuleIn_85 : decode cX4_lastRuleIn 85 = .ok (.imul, 1) := dz_104 (k_X4_lastRuleIn 1 21 rfl)
theorem dX4_lastRuleIn_86 : decode cX4_lastRuleIn 86 = .ok (.iaload, 1) := dz_46 (k_X4_lastRuleIn 1 22 rfl)
theorem dX4_lastRuleIn_87 : decode cX4_lastRuleIn 87 = .ok (.invokestatic 164, 3) := dz_184 (k_X4_lastRuleIn 1 23 rfl) (k_X4_lastRuleIn 1 24 rfl) (k_X4_lastRuleIn 1 25 rfl) rfl
theorem dX4_lastRuleIn_90 : decode cX4_lastRuleIn 90 = .ok (.istore_n 3, 1) := dz_62 (k_X4_lastRuleIn 1 26 rfl)
theorem dX4_lastRuleIn_91 : decode cX4_lastRuleIn 91 = .ok (.iinc 4 1, 3) := dz_132 (k_X4_lastRuleIn 1 27 rfl) (k_X4_lastRuleIn 1 28 rfl) (k_X4_lastRuleIn 1 29 rfl) rfl
theorem dX4_lastRuleIn_94 : decode cX4_lastRuleIn 94 = .ok (.goto (-63), 3) := dz_167 (k_X4_lastRuleIn 1 30 rfl) (k_X4_lastRuleIn 1 31 rfl) (k_X4_lastRuleIn 1 32 rfl) rfl
theorem dX4_lastRuleIn_97 : decode cX4_lastRuleIn 97 = .ok (.iload_n 3, 1) := dz_29 (k_X4_lastRuleIn 1 33 rfl)
theorem dX4_lastRuleIn_98 : decode cX4_lastRuleIn 98 = .ok (.ireturn, 1) := dz_172 (k_X4_lastRuleIn 1 34 rfl)
def B_X4_limited : List (List Nat) := [[26, 18, 169, 164, 0, 8, 18, 135, 167, 0, 4, 26, 172]]
theorem k_X4_limited (j i : Nat) {b : Nat} (h : (B_X4_limited[j]?.bind fun c => c[i]?) = some b) : s_by cX4_limited (64 * j + i) b := s_byC (L := B_X4_limited) (by decide +kernel) (by decide +kernel) j i h
theorem dX4_limited_0 : decode cX4_limited 0 = .ok (.iload_n 0, 1) := dz_26 (k_X4_limited 0 0 rfl)
theorem dX4_limited_1 : decode cX4_limited 1 = .ok (.ldc 169, 2) := dz_18 (k_X4_limited 0 1 rfl) (k_X4_limited 0 2 rfl)
theorem dX4_limited_3 : decode cX4_limited 3 = .ok (.if_icmp .le 8, 3) := dz_164 (k_X4_limited 0 3 rfl) (k_X4_limited 0 4 rfl) (k_X4_limited 0 5 rfl) rfl
theorem dX4_limited_6 : decode cX4_limited 6 = .ok (.ldc 135, 2) := dz_18 (k_X4_limited 0 6 rfl) (k_X4_limited 0 7 rfl)
theorem dX4_limited_8 : decode cX4_limited 8 = .ok (.goto 4, 3) := dz_167 (k_X4_limited 0 8 rfl) (k_X4_limited 0 9 rfl) (k_X4_limited 0 10 rfl) rfl
theorem dX4_limited_11 : decode cX4_limited 11 = .ok (.iload_n 0, 1) := dz_26 (k_X4_limited 0 11 rfl)
theorem dX4_limited_12 : decode cX4_limited 12 = .ok (.ireturn, 1) := dz_172 (k_X4_limited 0 12 rfl)
def B_X4_lineCost : List (List Nat) := [[27, 155, 0, 25, 27, 16, 16, 162, 0, 19, 28, 155, 0, 15, 28, 42, 180, 0, 48, 162, 0, 7, 4, 167, 0, 4, 3, 62, 29, 153, 0, 14, 42, 180, 0, 18, 27, 46, 18, 135, 160, 0, 6, 18, 135, 172, 42, 180, 0, 18, 27, 46, 42, 180, 0, 15, 28, 46, 42, 180, 0, 136, 104, 96], [172]]
theorem k_X4_lineCost (j i : Nat) {b : Nat} (h : (B_X4_lineCost[j]?.bind fun c => c[i]?) = some b) : s_by cX4_lineCost (64 * j + i) b := s_byC (L := B_X4_lineCost) (by decide +kernel) (by decide +kernel) j i h
theorem dX4_lineCost_0 : decode cX4_lineCost 0 = .ok (.iload_n 1, 1) := dz_27 (k_X4_lineCost 0 0 rfl)
theorem dX4_lineCost_1 : decode cX4_lineCost 1 = .ok (.ifCond .lt 25, 3) := dz_155 (k_X4_lineCost 0 1 rfl) (k_X4_lineCost 0 2 rfl) (k_X4_lineCost 0 3 rfl) rfl
theorem dX4_lineCost_4 : decode cX4_lineCost 4 = .ok (.iload_n 1, 1) := dz_27 (k_X4_lineCost 0 4 rfl)
theorem dX4_lineCost_5 : decode cX4_lineCost 5 = .ok (.bipush 16, 2) := dz_16 (k_X4_lineCost 0 5 rfl) (k_X4_lineCost 0 6 rfl) rfl
theorem dX4_lineCost_7 : decode cX4_lineCost 7 = .ok (.if_icmp .ge 19, 3) := dz_162 (k_X4_lineCost 0 7 rfl) (k_X4_lineCost 0 8 rfl) (k_X4_lineCost 0 9 rfl) rfl
theorem dX4_lineCost_10 : decode cX4_lineCost 10 = .ok (.iload_n 2, 1) := dz_28 (k_X4_lineCost 0 10 rfl)
theorem dX4_lineCost_11 : decode cX4_lineCost 11 = .ok (.ifCond .lt 15, 3) := dz_155 (k_X4_lineCost 0 11 rfl) (k_X4_lineCost 0 12 rfl) (k_X4_lineCost 0 13 rfl) rfl
theorem dX4_lineCost_14 : decode cX4_lineCost 14 = .ok (.iload_n 2, 1) := dz_28 (k_X4_lineCost 0 14 rfl)
theorem dX4_lineCost_15 : decode cX4_lineCost 15 = .ok (.aload_n 0, 1) := dz_42 (k_X4_lineCost 0 15 rfl)
theorem dX4_lineCost_16 : decode cX4_lineCost 16 = .ok (.getfield 48, 3) := dz_180 (k_X4_lineCost 0 16 rfl) (k_X4_lineCost 0 17 rfl) (k_X4_lineCost 0 18 rfl) rfl
theorem dX4_lineCost_19 : decode cX4_lineCost 19 = .ok (.if_icmp .ge 7, 3) := dz_162 (k_X4_lineCost 0 19 rfl) (k_X4_lineCost 0 20 rfl) (k_X4_lineCost 0 21 rfl) rfl
theorem dX4_lineCost_22 : decode cX4_lineCost 22 = .ok (.iconst 1, 1) := dz_4 (k_X4_lineCost 0 22 rfl)
theorem dX4_lineCost_23 : decode cX4_lineCost 23 = .ok (.goto 4, 3) := dz_167 (k_X4_lineCost 0 23 rfl) (k_X4_lineCost 0 24 rfl) (k_X4_lineCost 0 25 rfl) rfl
theorem dX4_lineCost_26 : decode cX4_lineCost 26 = .ok (.iconst 0, 1) := dz_3 (k_X4_lineCost 0 26 rfl)
theorem dX4_lineCost_27 : decode cX4_lineCost 27 = .ok (.istore_n 3, 1) := dz_62 (k_X4_lineCost 0 27 rfl)
theorem dX4_lineCost_28 : decode cX4_lineCost 28 = .ok (.iload_n 3, 1) := dz_29 (k_X4_lineCost 0 28 rfl)
theorem dX4_lineCost_29 : decode cX4_lineCost 29 = .ok (.ifCond .eq 14, 3) := dz_153 (k_X4_lineCost 0 29 rfl) (k_X4_lineCost 0 30 rfl) (k_X4_lineCost 0 31 rfl) rfl
theorem dX4_lineCost_32 : decode cX4_lineCost 32 = .ok (.aload_n 0, 1) := dz_42 (k_X4_lineCost 0 32 rfl)
theorem dX4_lineCost_33 : decode cX4_lineCost 33 = .ok (.getfield 18, 3) := dz_180 (k_X4_lineCost 0 33 rfl) (k_X4_lineCost 0 34 rfl) (k_X4_lineCost 0 35 rfl) rfl
theorem dX4_lineCost_36 : decode cX4_lineCost 36 = .ok (.iload_n 1, 1) := dz_27 (k_X4_lineCost 0 36 rfl)
theorem dX4_lineCost_37 : decode cX4_lineCost 37 = .ok (.iaload, 1) := dz_46 (k_X4_lineCost 0 37 rfl)
theorem dX4_lineCost_38 : decode cX4_lineCost 38 = .ok (.ldc 135, 2) := dz_18 (k_X4_lineCost 0 38 rfl) (k_X4_lineCost 0 39 rfl)
theorem dX4_lineCost_40 : decode cX4_lineCost 40 = .ok (.if_icmp .ne 6, 3) := dz_160 (k_X4_lineCost 0 40 rfl) (k_X4_lineCost 0 41 rfl) (k_X4_lineCost 0 42 rfl) rfl
theorem dX4_lineCost_43 : decode cX4_lineCost 43 = .ok (.ldc 135, 2) := dz_18 (k_X4_lineCost 0 43 rfl) (k_X4_lineCost 0 44 rfl)
theorem dX4_lineCost_45 : decode cX4_lineCost 45 = .ok (.ireturn, 1) := dz_172 (k_X4_lineCost 0 45 rfl)
theorem dX4_lineCost_46 : decode cX4_lineCost 46 = .ok (.aload_n 0, 1) := dz_42 (k_X4_lineCost 0 46 rfl)
theorem dX4_lineCost_47 : decode cX4_lineCost 47 = .ok (.getfield 18, 3) := dz_180 (k_X4_lineCost 0 47 rfl) (k_X4_lineCost 0 48 rfl) (k_X4_lineCost 0 49 rfl) rfl
theorem dX4_lineCost_50 : decode cX4_lineCost 50 = .ok (.iload_n 1, 1) := dz_27 (k_X4_lineCost 0 50 rfl)
theorem dX4_lineCost_51 : decode cX4_lineCost 51 = .ok (.iaload, 1) := dz_46 (k_X4_lineCost 0 51 rfl)
theorem dX4_lineCost_52 : decode cX4_lineCost 52 = .ok (.aload_n 0, 1) := dz_42 (k_X4_lineCost 0 52 rfl)
theorem dX4_lineCost_53 : decode cX4_lineCost 53 = .ok (.getfield 15, 3) := dz_180 (k_X4_lineCost 0 53 rfl) (k_X4_lineCost 0 54 rfl) (k_X4_lineCost 0 55 rfl) rfl
theorem dX4_lineCost_56 : decode cX4_lineCost 56 = .ok (.iload_n 2, 1) := dz_28 (k_X4_lineCost 0 56 rfl)
theorem dX4_lineCost_57 : decode cX4_lineCost 57 = .ok (.iaload, 1) := dz_46 (k_X4_lineCost 0 57 rfl)
theorem dX4_lineCost_58 : decode cX4_lineCost 58 = .ok (.aload_n 0, 1) := dz_42 (k_X4_lineCost 0 58 rfl)
theorem dX4_lineCost_59 : decode cX4_lineCost 59 = .ok (.getfield 136, 3) := dz_180 (k_X4_lineCost 0 59 rfl) (k_X4_lineCost 0 60 rfl) (k_X4_lineCost 0 61 rfl) rfl
theorem dX4_lineCost_62 : decode cX4_lineCost 62 = .ok (.imul, 1) := dz_104 (k_X4_lineCost 0 62 rfl)
theorem dX4_lineCost_63 : decode cX4_lineCost 63 = .ok (.iadd, 1) := dz_96 (k_X4_lineCost 0 63 rfl)
theorem dX4_lineCost_64 : decode cX4_lineCost 64 = .ok (.ireturn, 1) := dz_172 (k_X4_lineCost 1 0 rfl)
def B_X4_listAllSteps : List (List Nat) := [[42, 42, 180, 0, 30, 42, 180, 0, 11, 27, 46, 3, 182, 0, 88, 182, 0, 74, 61, 42, 42, 180, 0, 30, 42, 180, 0, 11, 27, 46, 4, 182, 0, 88, 182, 0, 74, 62, 42, 42, 180, 0, 30, 42, 180, 0, 11, 27, 46, 5, 182, 0, 88, 182, 0, 74, 54, 4, 42, 16, 11, 28, 27, 2], [2, 182, 0, 101, 42, 16, 11, 29, 27, 2, 2, 182, 0, 101, 42, 16, 11, 21, 4, 27, 2, 2, 182, 0, 101, 28, 2, 159, 0, 40, 42, 180, 0, 34, 180, 0, 85, 5, 161, 0, 8, 29, 2, 159, 0, 24, 42, 180, 0, 34, 180, 0, 85, 6, 161, 0, 9, 21, 4, 2, 159, 0, 7, 4], [167, 0, 4, 3, 54, 5, 21, 5, 153, 0, 14, 42, 16, 12, 27, 28, 29, 21, 4, 182, 0, 101, 177]]
theorem k_X4_listAllSteps (j i : Nat) {b : Nat} (h : (B_X4_listAllSteps[j]?.bind fun c => c[i]?) = some b) : s_by cX4_listAllSteps (64 * j + i) b := s_byC (L := B_X4_listAllSteps) (by decide +kernel) (by decide +kernel) j i h
theorem dX4_listAllSteps_0 : decode cX4_listAllSteps 0 = .ok (.aload_n 0, 1) := dz_42 (k_X4_listAllSteps 0 0 rfl)
theorem dX4_listAllSteps_1 : decode cX4_listAllSteps 1 = .ok (.aload_n 0, 1) := dz_42 (k_X4_listAllSteps 0 1 rfl)
theorem dX4_listAllSteps_2 : decode cX4_listAllSteps 2 = .ok (.getfield 30, 3) := dz_180 (k_X4_listAllSteps 0 2 rfl) (k_X4_listAllSteps 0 3 rfl) (k_X4_listAllSteps 0 4 rfl) rfl
theorem dX4_listAllSteps_5 : decode cX4_listAllSteps 5 = .ok (.aload_n 0, 1) := dz_42 (k_X4_listAllSteps 0 5 rfl)
theorem dX4_listAllSteps_6 : decode cX4_listAllSteps 6 = .ok (.getfield 11, 3) := dz_180 (k_X4_listAllSteps 0 6 rfl) (k_X4_listAllSteps 0 7 rfl) (k_X4_listAllSteps 0 8 rfl) rfl
theorem dX4_listAllSteps_9 : decode cX4_listAllSteps 9 = .ok (.iload_n 1, 1) := dz_27 (k_X4_listAllSteps 0 9 rfl)
theorem dX4_listAllSteps_10 : decode cX4_listAllSteps 10 = .ok (.iaload, 1) := dz_46 (k_X4_listAllSteps 0 10 rfl)
theorem dX4_listAllSteps_11 : decode cX4_listAllSteps 11 = .ok (.iconst 0, 1) := dz_3 (k_X4_listAllSteps 0 11 rfl)
theorem dX4_listAllSteps_12 : decode cX4_listAllSteps 12 = .ok (.invokevirtual 88, 3) := dz_182 (k_X4_listAllSteps 0 12 rfl) (k_X4_listAllSteps 0 13 rfl) (k_X4_listAllSteps 0 14 rfl) rfl
theorem dX4_listAllSteps_15 : decode cX4_listAllSteps 15 = .ok (.invokevirtual 74, 3) := dz_182 (k_X4_listAllSteps 0 15 rfl) (k_X4_listAllSteps 0 16 rfl) (k_X4_listAllSteps 0 17 rfl) rfl
theorem dX4_listAllSteps_18 : decode cX4_listAllSteps 18 = .ok (.istore_n 2, 1) := dz_61 (k_X4_listAllSteps 0 18 rfl)
theorem dX4_listAllSteps_19 : decode cX4_listAllSteps 19 = .ok (.aload_n 0, 1) := dz_42 (k_X4_listAllSteps 0 19 rfl)
theorem dX4_listAllSteps_20 : decode cX4_listAllSteps 20 = .ok (.aload_n 0, 1) := dz_42 (k_X4_listAllSteps 0 20 rfl)
theorem dX4_listAllSteps_21 : decode cX4_listAllSteps 21 = .ok (.getfield 30, 3) := dz_180 (k_X4_listAllSteps 0 21 rfl) (k_X4_listAllSteps 0 22 rfl) (k_X4_listAllSteps 0 23 rfl) rfl
theorem dX4_listAllSteps_24 : decode cX4_listAllSteps 24 = .ok (.aload_n 0, 1) := dz_42 (k_X4_listAllSteps 0 24 rfl)
theorem dX4_listAllSteps_25 : decode cX4_listAllSteps 25 = .ok (.getfield 11, 3) := dz_180 (k_X4_listAllSteps 0 25 rfl) (k_X4_listAllSteps 0 26 rfl) (k_X4_listAllSteps 0 27 rfl) rfl
theorem dX4_listAllSteps_28 : decode cX4_listAllSteps 28 = .ok (.iload_n 1, 1) := dz_27 (k_X4_listAllSteps 0 28 rfl)
theorem dX4_listAllSteps_29 : decode cX4_listAllSteps 29 = .ok (.iaload, 1) := dz_46 (k_X4_listAllSteps 0 29 rfl)
theorem dX4_listAllSteps_30 : decode cX4_listAllSteps 30 = .ok (.iconst 1, 1) := dz_4 (k_X4_listAllSteps 0 30 rfl)
theorem dX4_listAllSteps_31 : decode cX4_listAllSteps 31 = .ok (.invokevirtual 88, 3) := dz_182 (k_X4_listAllSteps 0 31 rfl) (k_X4_listAllSteps 0 32 rfl) (k_X4_listAllSteps 0 33 rfl) rfl
theorem dX4_listAllSteps_34 : decode cX4_listAllSteps 34 = .ok (.invokevirtual 74, 3) := dz_182 (k_X4_listAllSteps 0 34 rfl) (k_X4_listAllSteps 0 35 rfl) (k_X4_listAllSteps 0 36 rfl) rfl
theorem dX4_listAllSteps_37 : decode cX4_listAllSteps 37 = .ok (.istore_n 3, 1) := dz_62 (k_X4_listAllSteps 0 37 rfl)
theorem dX4_listAllSteps_38 : decode cX4_listAllSteps 38 = .ok (.aload_n 0, 1) := dz_42 (k_X4_listAllSteps 0 38 rfl)
theorem dX4_listAllSteps_39 : decode cX4_listAllSteps 39 = .ok (.aload_n 0, 1) := dz_42 (k_X4_listAllSteps 0 39 rfl)
theorem dX4_listAllSteps_40 : decode cX4_listAllSteps 40 = .ok (.getfield 30, 3) := dz_180 (k_X4_listAllSteps 0 40 rfl) (k_X4_listAllSteps 0 41 rfl) (k_X4_listAllSteps 0 42 rfl) rfl
theorem dX4_listAllSteps_43 : decode cX4_listAllSteps 43 = .ok (.aload_n 0, 1) := dz_42 (k_X4_listAllSteps 0 43 rfl)
theorem dX4_listAllSteps_44 : decode cX4_listAllSteps 44 = .ok (.getfield 11, 3) := dz_180 (k_X4_listAllSteps 0 44 rfl) (k_X4_listAllSteps 0 45 rfl) (k_X4_listAllSteps 0 46 rfl) rfl
theorem dX4_listAllSteps_47 : decode cX4_listAllSteps 47 = .ok (.iload_n 1, 1) := dz_27 (k_X4_listAllSteps 0 47 rfl)
theorem dX4_listAllSteps_48 : decode cX4_listAllSteps 48 = .ok (.iaload, 1) := dz_46 (k_X4_listAllSteps 0 48 rfl)
theorem dX4_listAllSteps_49 : decode cX4_listAllSteps 49 = .ok (.iconst 2, 1) := dz_5 (k_X4_listAllSteps 0 49 rfl)
theorem dX4_listAllSteps_50 : decode cX4_listAllSteps 50 = .ok (.invokevirtual 88, 3) := dz_182 (k_X4_listAllSteps 0 50 rfl) (k_X4_listAllSteps 0 51 rfl) (k_X4_listAllSteps 0 52 rfl) rfl
theorem dX4_listAllSteps_53 : decode cX4_listAllSteps 53 = .ok (.invokevirtual 74, 3) := dz_182 (k_X4_listAllSteps 0 53 rfl) (k_X4_listAllSteps 0 54 rfl) (k_X4_listAllSteps 0 55 rfl) rfl
theorem dX4_listAllSteps_56 : decode cX4_listAllSteps 56 = .ok (.istore 4, 2) := dz_54 (k_X4_listAllSteps 0 56 rfl) (k_X4_listAllSteps 0 57 rfl)
theorem dX4_listAllSteps_58 : decode cX4_listAllSteps 58 = .ok (.aload_n 0, 1) := dz_42 (k_X4_listAllSteps 0 58 rfl)
theorem dX4_listAllSteps_59 : decode cX4_listAllSteps 59 = .ok (.bipush 11, 2) := dz_16 (k_X4_listAllSteps 0 59 rfl) (k_X4_listAllSteps 0 60 rfl) rfl
theorem dX4_listAllSteps_61 : decode cX4_listAllSteps 61 = .ok (.iload_n 2, 1) := dz_28 (k_X4_listAllSteps 0 61 rfl)
theorem dX4_listAllSteps_62 : decode cX4_listAllSteps 62 = .ok (.iload_n 1, 1) := dz_27 (k_X4_listAllSteps 0 62 rfl)
theorem dX4_listAllSteps_63 : decode cX4_listAllSteps 63 = .ok (.iconst (-1), 1) := dz_2 (k_X4_listAllSteps 0 63 rfl)
theorem dX4_listAllSteps_64 : decode cX4_listAllSteps 64 = .ok (.iconst (-1), 1) := dz_2 (k_X4_listAllSteps 1 0 rfl)
theorem dX4_listAllSteps_65 : decode cX4_listAllSteps 65 = .ok (.invokevirtual 101, 3) := dz_182 (k_X4_listAllSteps 1 1 rfl) (k_X4_listAllSteps 1 2 rfl) (k_X4_listAllSteps 1 3 rfl) rfl
theorem dX4_listAllSteps_68 : decode cX4_listAllSteps 68 = .ok (.aload_n 0, 1) := dz_42 (k_X4_listAllSteps 1 4 rfl)
theorem dX4_listAllSteps_69 : decode cX4_listAllSteps 69 = .ok (.bipush 11, 2) := dz_16 (k_X4_listAllSteps 1 5 rfl) (k_X4_listAllSteps 1 6 rfl) rfl
theorem dX4_listAllSteps_71 : decode cX4_listAllSteps 71 = .ok (.iload_n 3, 1) := dz_29 (k_X4_listAllSteps 1 7 rfl)
theorem dX4_listAllSteps_72 : decode cX4_listAllSteps 72 = .ok (.iload_n 1, 1) := dz_27 (k_X4_listAllSteps 1 8 rfl)
theorem dX4_listAllSteps_73 : decode cX4_listAllSteps 73 = .ok (.iconst (-1), 1) := dz_2 (k_X4_listAllSteps 1 9 rfl)
theorem dX4_listAllSteps_74 : decode cX4_listAllSteps 74 = .ok (.iconst (-1), 1) := dz_2 (k_X4_listAllSteps 1 10 rfl)
theorem dX4_listAllSteps_75 : decode cX4_listAllSteps 75 = .ok (.invokevirtual 101, 3) := dz_182 (k_X4_listAllSteps 1 11 rfl) (k_X4_listAllSteps 1 12 rfl) (k_X4_listAllSteps 1 13 rfl) rfl
theorem dX4_listAllSteps_78 : decode cX4_listAllSteps 78 = .ok (.aload_n 0, 1) := dz_42 (k_X4_listAllSteps 1 14 rfl)
theorem dX4_listAllSteps_79 : decode cX4_listAllSteps 79 = .ok (.bipush 11, 2) := dz_16 (k_X4_listAllSteps 1 15 rfl) (k_X4_listAllSteps 1 16 rfl) rfl
theorem dX4_listAllSteps_81 : decode cX4_listAllSteps 81 = .ok (.iload 4, 2) := dz_21 (k_X4_listAllSteps 1 17 rfl) (k_X4_listAllSteps 1 18 rfl)
theorem dX4_listAllSteps_83 : decode cX4_listAllSteps 83 = .ok (.iload_n 1, 1) := dz_27 (k_X4_listAllSteps 1 19 rfl)
theorem dX4_listAllSteps_84 : decode cX4_listAllSteps 84 = .ok (.iconst (-1), 1) := dz_2 (k_X4_listAllSteps 1 20 rfl)
theorem dX4_listAllSteps_85 : decode cX4_listAllSteps 85 = .ok (.iconst (-1), 1) := dz_2 (k_X4_listAllSteps 1 21 rfl)
theorem dX4_listAllSteps_86 : decode cX4_listAllSteps 86 = .ok (.invokevirtual 101, 3) := dz_182 (k_X4_listAllSteps 1 22 rfl) (k_X4_listAllSteps 1 23 rfl) (k_X4_listAllSteps 1 24 rfl) rfl
theorem dX4_listAllSteps_89 : decode cX4_listAllSteps 89 = .ok (.iload_n 2, 1) := dz_28 (k_X4_listAllSteps 1 25 rfl)
theorem dX4_listAllSteps_90 : decode cX4_listAllSteps 90 = .ok (.iconst (-1), 1) := dz_2 (k_X4_listAllSteps 1 26 rfl)
theorem dX4_listAllSteps_91 : decode cX4_listAllSteps 91 = .ok (.if_icmp .eq 40, 3) := dz_159 (k_X4_listAllSteps 1 27 rfl) (k_X4_listAllSteps 1 28 rfl) (k_X4_listAllSteps 1 29 rfl) rfl
theorem dX4_listAllSteps_94 : decode cX4_listAllSteps 94 = .ok (.aload_n 0, 1) := dz_42 (k_X4_listAllSteps 1 30 rfl)
theorem dX4_listAllSteps_95 : decode cX4_listAllSteps 95 = .ok (.getfield 34, 3) := dz_180 (k_X4_listAllSteps 1 31 rfl) (k_X4_listAllSteps 1 32 rfl) (k_X4_listAllSteps 1 33 rfl) rfl
theorem dX4_listAllSteps_98 : decode cX4_listAllSteps 98 = .ok (.getfield 85, 3) := dz_180 (k_X4_listAllSteps 1 34 rfl) (k_X4_listAllSteps 1 35 rfl) (k_X4_listAllSteps 1 36 rfl) rfl
theorem dX4_listAllSteps_101 : decode cX4_listAllSteps 101 = .ok (.iconst 2, 1) := dz_5 (k_X4_listAllSteps 1 37 rfl)
theorem dX4_listAllSteps_102 : decode cX4_listAllSteps 102 = .ok (.if_icmp .lt 8, 3) := dz_161 (k_X4_listAllSteps 1 38 rfl) (k_X4_listAllSteps 1 39 rfl) (k_X4_listAllSteps 1 40 rfl) rfl
theorem dX4_listAllSteps_105 : decode cX4_listAllSteps 105 = .ok (.iload_n 3, 1) := dz_29 (k_X4_listAllSteps 1 41 rfl)
theorem dX4_listAllSteps_106 : decode cX4_listAllSteps 106 = .ok (.iconst (-1), 1) := dz_2 (k_X4_listAllSteps 1 42 rfl)
theorem dX4_listAllSteps_107 : decode cX4_listAllSteps 107 = .ok (.if_icmp .eq 24, 3) := dz_159 (k_X4_listAllSteps 1 43 rfl) (k_X4_listAllSteps 1 44 rfl) (k_X4_listAllSteps 1 45 rfl) rfl
theorem dX4_listAllSteps_110 : decode cX4_listAllSteps 110 = .ok (.aload_n 0, 1) := dz_42 (k_X4_listAllSteps 1 46 rfl)
theorem dX4_listAllSteps_111 : decode cX4_listAllSteps 111 = .ok (.getfield 34, 3) := dz_180 (k_X4_listAllSteps 1 47 rfl) (k_X4_listAllSteps 1 48 rfl) (k_X4_listAllSteps 1 49 rfl) rfl
theorem dX4_listAllSteps_114 : decode cX4_listAllSteps 114 = .ok (.getfield 85, 3) := dz_180 (k_X4_listAllSteps 1 50 rfl) (k_X4_listAllSteps 1 51 rfl) (k_X4_listAllSteps 1 52 rfl) rfl
theorem dX4_listAllSteps_117 : decode cX4_listAllSteps 117 = .ok (.iconst 3, 1) := dz_6 (k_X4_listAllSteps 1 53 rfl)
theorem dX4_listAllSteps_118 : decode cX4_listAllSteps 118 = .ok (.if_icmp .lt 9, 3) := dz_161 (k_X4_listAllSteps 1 54 rfl) (k_X4_listAllSteps 1 55 rfl) (k_X4_listAllSteps 1 56 rfl) rfl
theorem dX4_listAllSteps_121 : decode cX4_listAllSteps 121 = .ok (.iload 4, 2) := dz_21 (k_X4_listAllSteps 1 57 rfl) (k_X4_listAllSteps 1 58 rfl)
theorem dX4_listAllSteps_123 : decode cX4_listAllSteps 123 = .ok (.iconst (-1), 1) := dz_2 (k_X4_listAllSteps 1 59 rfl)
theorem dX4_listAllSteps_124 : decode cX4_listAllSteps 124 = .ok (.if_icmp .eq 7, 3) := dz_159 (k_X4_listAllSteps 1 60 rfl) (k_X4_listAllSteps 1 61 rfl) (k_X4_listAllSteps 1 62 rfl) rfl
theorem dX4_listAllSteps_127 : decode cX4_listAllSteps 127 = .ok (.iconst 1, 1) := dz_4 (k_X4_listAllSteps 1 63 rfl)
theorem dX4_listAllSteps_128 : decode cX4_listAllSteps 128 = .ok (.goto 4, 3) := dz_167 (k_X4_listAllSteps 2 0 rfl) (k_X4_listAllSteps 2 1 rfl) (k_X4_listAllSteps 2 2 rfl) rfl
theorem dX4_listAllSteps_131 : decode cX4_listAllSteps 131 = .ok (.iconst 0, 1) := dz_3 (k_X4_listAllSteps 2 3 rfl)
theorem dX4_listAllSteps_132 : decode cX4_listAllSteps 132 = .ok (.istore 5, 2) := dz_54 (k_X4_listAllSteps 2 4 rfl) (k_X4_listAllSteps 2 5 rfl)
theorem dX4_listAllSteps_134 : decode cX4_listAllSteps 134 = .ok (.iload 5, 2) := dz_21 (k_X4_listAllSteps 2 6 rfl) (k_X4_listAllSteps 2 7 rfl)
theorem dX4_listAllSteps_136 : decode cX4_listAllSteps 136 = .ok (.ifCond .eq 14, 3) := dz_153 (k_X4_listAllSteps 2 8 rfl) (k_X4_listAllSteps 2 9 rfl) (k_X4_listAllSteps 2 10 rfl) rfl
theorem dX4_listAllSteps_139 : decode cX4_listAllSteps 139 = .ok (.aload_n 0, 1) := dz_42 (k_X4_listAllSteps 2 11 rfl)
theorem dX4_listAllSteps_140 : decode cX4_listAllSteps 140 = .ok (.bipush 12, 2) := dz_16 (k_X4_listAllSteps 2 12 rfl) (k_X4_listAllSteps 2 13 rfl) rfl
theorem dX4_listAllSteps_142 : decode cX4_listAllSteps 142 = .ok (.iload_n 1, 1) := dz_27 (k_X4_listAllSteps 2 14 rfl)
theorem dX4_listAllSteps_143 : decode cX4_listAllSteps 143 = .ok (.iload_n 2, 1) := dz_28 (k_X4_listAllSteps 2 15 rfl)
theorem dX4_listAllSteps_144 : decode cX4_listAllSteps 144 = .ok (.iload_n 3, 1) := dz_29 (k_X4_listAllSteps 2 16 rfl)
theorem dX4_listAllSteps_145 : decode cX4_listAllSteps 145 = .ok (.iload 4, 2) := dz_21 (k_X4_listAllSteps 2 17 rfl) (k_X4_listAllSteps 2 18 rfl)
theorem dX4_listAllSteps_147 : decode cX4_listAllSteps 147 = .ok (.invokevirtual 101, 3) := dz_182 (k_X4_listAllSteps 2 19 rfl) (k_X4_listAllSteps 2 20 rfl) (k_X4_listAllSteps 2 21 rfl) rfl
theorem dX4_listAllSteps_150 : decode cX4_listAllSteps 150 = .ok (.return_, 1) := dz_177 (k_X4_listAllSteps 2 22 rfl)
def B_X4_listAndSteps : List (List Nat) := [[28, 2, 159, 0, 17, 29, 2, 159, 0, 12, 42, 5, 27, 28, 29, 2, 182, 0, 101, 42, 6, 28, 27, 2, 2, 182, 0, 101, 42, 7, 29, 27, 2, 2, 182, 0, 101, 177]]
theorem k_X4_listAndSteps (j i : Nat) {b : Nat} (h : (B_X4_listAndSteps[j]?.bind fun c => c[i]?) = some b) : s_by cX4_listAndSteps (64 * j + i) b := s_byC (L := B_X4_listAndSteps) (by decide +kernel) (by decide +kernel) j i h
theorem dX4_listAndSteps_0 : decode cX4_listAndSteps 0 = .ok (.iload_n 2, 1) := dz_28 (k_X4_listAndSteps 0 0 rfl)
theorem dX4_listAndSteps_1 : decode cX4_listAndSteps 1 = .ok (.iconst (-1), 1) := dz_2 (k_X4_listAndSteps 0 1 rfl)
theorem dX4_listAndSteps_2 : decode cX4_listAndSteps 2 = .ok (.if_icmp .eq 17, 3) := dz_159 (k_X4_listAndSteps 0 2 rfl) (k_X4_listAndSteps 0 3 rfl) (k_X4_listAndSteps 0 4 rfl) rfl
theorem dX4_listAndSteps_5 : decode cX4_listAndSteps 5 = .ok (.iload_n 3, 1) := dz_29 (k_X4_listAndSteps 0 5 rfl)
theorem dX4_listAndSteps_6 : decode cX4_listAndSteps 6 = .ok (.iconst (-1), 1) := dz_2 (k_X4_listAndSteps 0 6 rfl)
theorem dX4_listAndSteps_7 : decode cX4_listAndSteps 7 = .ok (.if_icmp .eq 12, 3) := dz_159 (k_X4_listAndSteps 0 7 rfl) (k_X4_listAndSteps 0 8 rfl) (k_X4_listAndSteps 0 9 rfl) rfl
theorem dX4_listAndSteps_10 : decode cX4_listAndSteps 10 = .ok (.aload_n 0, 1) := dz_42 (k_X4_listAndSteps 0 10 rfl)
theorem dX4_listAndSteps_11 : decode cX4_listAndSteps 11 = .ok (.iconst 2, 1) := dz_5 (k_X4_listAndSteps 0 11 rfl)
theorem dX4_listAndSteps_12 : decode cX4_listAndSteps 12 = .ok (.iload_n 1, 1) := dz_27 (k_X4_listAndSteps 0 12 rfl)
theorem dX4_listAndSteps_13 : decode cX4_listAndSteps 13 = .ok (.iload_n 2, 1) := dz_28 (k_X4_listAndSteps 0 13 rfl)
theorem dX4_listAndSteps_14 : decode cX4_listAndSteps 14 = .ok (.iload_n 3, 1) := dz_29 (k_X4_listAndSteps 0 14 rfl)
theorem dX4_listAndSteps_15 : decode cX4_listAndSteps 15 = .ok (.iconst (-1), 1) := dz_2 (k_X4_listAndSteps 0 15 rfl)
theorem dX4_listAndSteps_16 : decode cX4_listAndSteps 16 = .ok (.invokevirtual 101, 3) := dz_182 (k_X4_listAndSteps 0 16 rfl) (k_X4_listAndSteps 0 17 rfl) (k_X4_listAndSteps 0 18 rfl) rfl
theorem dX4_listAndSteps_19 : decode cX4_listAndSteps 19 = .ok (.aload_n 0, 1) := dz_42 (k_X4_listAndSteps 0 19 rfl)
theorem dX4_listAndSteps_20 : decode cX4_listAndSteps 20 = .ok (.iconst 3, 1) := dz_6 (k_X4_listAndSteps 0 20 rfl)
theorem dX4_listAndSteps_21 : decode cX4_listAndSteps 21 = .ok (.iload_n 2, 1) := dz_28 (k_X4_listAndSteps 0 21 rfl)
theorem dX4_listAndSteps_22 : decode cX4_listAndSteps 22 = .ok (.iload_n 1, 1) := dz_27 (k_X4_listAndSteps 0 22 rfl)
theorem dX4_listAndSteps_23 : decode cX4_listAndSteps 23 = .ok (.iconst (-1), 1) := dz_2 (k_X4_listAndSteps 0 23 rfl)
theorem dX4_listAndSteps_24 : decode cX4_listAndSteps 24 = .ok (.iconst (-1), 1) := dz_2 (k_X4_listAndSteps 0 24 rfl)
theorem dX4_listAndSteps_25 : decode cX4_listAndSteps 25 = .ok (.invokevirtual 101, 3) := dz_182 (k_X4_listAndSteps 0 25 rfl) (k_X4_listAndSteps 0 26 rfl) (k_X4_listAndSteps 0 27 rfl) rfl
theorem dX4_listAndSteps_28 : decode cX4_listAndSteps 28 = .ok (.aload_n 0, 1) := dz_42 (k_X4_listAndSteps 0 28 rfl)
theorem dX4_listAndSteps_29 : decode cX4_listAndSteps 29 = .ok (.iconst 4, 1) := dz_7 (k_X4_listAndSteps 0 29 rfl)
theorem dX4_listAndSteps_30 : decode cX4_listAndSteps 30 = .ok (.iload_n 3, 1) := dz_29 (k_X4_listAndSteps 0 30 rfl)
theorem dX4_listAndSteps_31 : decode cX4_listAndSteps 31 = .ok (.iload_n 1, 1) := dz_27 (k_X4_listAndSteps 0 31 rfl)
theorem dX4_listAndSteps_32 : decode cX4_listAndSteps 32 = .ok (.iconst (-1), 1) := dz_2 (k_X4_listAndSteps 0 32 rfl)
theorem dX4_listAndSteps_33 : decode cX4_listAndSteps 33 = .ok (.iconst (-1), 1) := dz_2 (k_X4_listAndSteps 0 33 rfl)
theorem dX4_listAndSteps_34 : decode cX4_listAndSteps 34 = .ok (.invokevirtual 101, 3) := dz_182 (k_X4_listAndSteps 0 34 rfl) (k_X4_listAndSteps 0 35 rfl) (k_X4_listAndSteps 0 36 rfl) rfl
theorem dX4_listAndSteps_37 : decode cX4_listAndSteps 37 = .ok (.return_, 1) := dz_177 (k_X4_listAndSteps 0 37 rfl)
def B_X4_listAssumed : List (List Nat) := [[42, 180, 0, 30, 27, 182, 0, 82, 7, 160, 0, 11, 42, 180, 0, 51, 6, 161, 0, 4, 177, 42, 42, 180, 0, 30, 27, 182, 0, 92, 182, 0, 74, 61, 28, 2, 159, 0, 32, 42, 28, 182, 0, 98, 2, 160, 0, 23, 42, 180, 0, 21, 42, 180, 0, 51, 28, 79, 42, 89, 180, 0, 51, 4], [96, 181, 0, 51, 177]]
theorem k_X4_listAssumed (j i : Nat) {b : Nat} (h : (B_X4_listAssumed[j]?.bind fun c => c[i]?) = some b) : s_by cX4_listAssumed (64 * j + i) b := s_byC (L := B_X4_listAssumed) (by decide +kernel) (by decide +kernel) j i h
theorem dX4_listAssumed_0 : decode cX4_listAssumed 0 = .ok (.aload_n 0, 1) := dz_42 (k_X4_listAssumed 0 0 rfl)
theorem dX4_listAssumed_1 : decode cX4_listAssumed 1 = .ok (.getfield 30, 3) := dz_180 (k_X4_listAssumed 0 1 rfl) (k_X4_listAssumed 0 2 rfl) (k_X4_listAssumed 0 3 rfl) rfl
theorem dX4_listAssumed_4 : decode cX4_listAssumed 4 = .ok (.iload_n 1, 1) := dz_27 (k_X4_listAssumed 0 4 rfl)
theorem dX4_listAssumed_5 : decode cX4_listAssumed 5 = .ok (.invokevirtual 82, 3) := dz_182 (k_X4_listAssumed 0 5 rfl) (k_X4_listAssumed 0 6 rfl) (k_X4_listAssumed 0 7 rfl) rfl
theorem dX4_listAssumed_8 : decode cX4_listAssumed 8 = .ok (.iconst 4, 1) := dz_7 (k_X4_listAssumed 0 8 rfl)
theorem dX4_listAssumed_9 : decode cX4_listAssumed 9 = .ok (.if_icmp .ne 11, 3) := dz_160 (k_X4_listAssumed 0 9 rfl) (k_X4_listAssumed 0 10 rfl) (k_X4_listAssumed 0 11 rfl) rfl
theorem dX4_listAssumed_12 : decode cX4_listAssumed 12 = .ok (.aload_n 0, 1) := dz_42 (k_X4_listAssumed 0 12 rfl)
theorem dX4_listAssumed_13 : decode cX4_listAssumed 13 = .ok (.getfield 51, 3) := dz_180 (k_X4_listAssumed 0 13 rfl) (k_X4_listAssumed 0 14 rfl) (k_X4_listAssumed 0 15 rfl) rfl
theorem dX4_listAssumed_16 : decode cX4_listAssumed 16 = .ok (.iconst 3, 1) := dz_6 (k_X4_listAssumed 0 16 rfl)
theorem dX4_listAssumed_17 : decode cX4_listAssumed 17 = .ok (.if_icmp .lt 4, 3) := dz_161 (k_X4_listAssumed 0 17 rfl) (k_X4_listAssumed 0 18 rfl) (k_X4_listAssumed 0 19 rfl) rfl
theorem dX4_listAssumed_20 : decode cX4_listAssumed 20 = .ok (.return_, 1) := dz_177 (k_X4_listAssumed 0 20 rfl)
theorem dX4_listAssumed_21 : decode cX4_listAssumed 21 = .ok (.aload_n 0, 1) := dz_42 (k_X4_listAssumed 0 21 rfl)
theorem dX4_listAssumed_22 : decode cX4_listAssumed 22 = .ok (.aload_n 0, 1) := dz_42 (k_X4_listAssumed 0 22 rfl)
theorem dX4_listAssumed_23 : decode cX4_listAssumed 23 = .ok (.getfield 30, 3) := dz_180 (k_X4_listAssumed 0 23 rfl) (k_X4_listAssumed 0 24 rfl) (k_X4_listAssumed 0 25 rfl) rfl
theorem dX4_listAssumed_26 : decode cX4_listAssumed 26 = .ok (.iload_n 1, 1) := dz_27 (k_X4_listAssumed 0 26 rfl)
theorem dX4_listAssumed_27 : decode cX4_listAssumed 27 = .ok (.invokevirtual 92, 3) := dz_182 (k_X4_listAssumed 0 27 rfl) (k_X4_listAssumed 0 28 rfl) (k_X4_listAssumed 0 29 rfl) rfl
theorem dX4_listAssumed_30 : decode cX4_listAssumed 30 = .ok (.invokevirtual 74, 3) := dz_182 (k_X4_listAssumed 0 30 rfl) (k_X4_listAssumed 0 31 rfl) (k_X4_listAssumed 0 32 rfl) rfl
theorem dX4_listAssumed_33 : decode cX4_listAssumed 33 = .ok (.istore_n 2, 1) := dz_61 (k_X4_listAssumed 0 33 rfl)
theorem dX4_listAssumed_34 : decode cX4_listAssumed 34 = .ok (.iload_n 2, 1) := dz_28 (k_X4_listAssumed 0 34 rfl)
theorem dX4_listAssumed_35 : decode cX4_listAssumed 35 = .ok (.iconst (-1), 1) := dz_2 (k_X4_listAssumed 0 35 rfl)
theorem dX4_listAssumed_36 : decode cX4_listAssumed 36 = .ok (.if_icmp .eq 32, 3) := dz_159 (k_X4_listAssumed 0 36 rfl) (k_X4_listAssumed 0 37 rfl) (k_X4_listAssumed 0 38 rfl) rfl
theorem dX4_listAssumed_39 : decode cX4_listAssumed 39 = .ok (.aload_n 0, 1) := dz_42 (k_X4_listAssumed 0 39 rfl)
theorem dX4_listAssumed_40 : decode cX4_listAssumed 40 = .ok (.iload_n 2, 1) := dz_28 (k_X4_listAssumed 0 40 rfl)
theorem dX4_listAssumed_41 : decode cX4_listAssumed 41 = .ok (.invokevirtual 98, 3) := dz_182 (k_X4_listAssumed 0 41 rfl) (k_X4_listAssumed 0 42 rfl) (k_X4_listAssumed 0 43 rfl) rfl
theorem dX4_listAssumed_44 : decode cX4_listAssumed 44 = .ok (.iconst (-1), 1) := dz_2 (k_X4_listAssumed 0 44 rfl)
theorem dX4_listAssumed_45 : decode cX4_listAssumed 45 = .ok (.if_icmp .ne 23, 3) := dz_160 (k_X4_listAssumed 0 45 rfl) (k_X4_listAssumed 0 46 rfl) (k_X4_listAssumed 0 47 rfl) rfl
theorem dX4_listAssumed_48 : decode cX4_listAssumed 48 = .ok (.aload_n 0, 1) := dz_42 (k_X4_listAssumed 0 48 rfl)
theorem dX4_listAssumed_49 : decode cX4_listAssumed 49 = .ok (.getfield 21, 3) := dz_180 (k_X4_listAssumed 0 49 rfl) (k_X4_listAssumed 0 50 rfl) (k_X4_listAssumed 0 51 rfl) rfl
theorem dX4_listAssumed_52 : decode cX4_listAssumed 52 = .ok (.aload_n 0, 1) := dz_42 (k_X4_listAssumed 0 52 rfl)
theorem dX4_listAssumed_53 : decode cX4_listAssumed 53 = .ok (.getfield 51, 3) := dz_180 (k_X4_listAssumed 0 53 rfl) (k_X4_listAssumed 0 54 rfl) (k_X4_listAssumed 0 55 rfl) rfl
theorem dX4_listAssumed_56 : decode cX4_listAssumed 56 = .ok (.iload_n 2, 1) := dz_28 (k_X4_listAssumed 0 56 rfl)
theorem dX4_listAssumed_57 : decode cX4_listAssumed 57 = .ok (.iastore, 1) := dz_79 (k_X4_listAssumed 0 57 rfl)
theorem dX4_listAssumed_58 : decode cX4_listAssumed 58 = .ok (.aload_n 0, 1) := dz_42 (k_X4_listAssumed 0 58 rfl)
theorem dX4_listAssumed_59 : decode cX4_listAssumed 59 = .ok (.dup, 1) := dz_89 (k_X4_listAssumed 0 59 rfl)
theorem dX4_listAssumed_60 : decode cX4_listAssumed 60 = .ok (.getfield 51, 3) := dz_180 (k_X4_listAssumed 0 60 rfl) (k_X4_listAssumed 0 61 rfl) (k_X4_listAssumed 0 62 rfl) rfl
theorem dX4_listAssumed_63 : decode cX4_listAssumed 63 = .ok (.iconst 1, 1) := dz_4 (k_X4_listAssumed 0 63 rfl)
theorem dX4_listAssumed_64 : decode cX4_listAssumed 64 = .ok (.iadd, 1) := dz_96 (k_X4_listAssumed 1 0 rfl)
theorem dX4_listAssumed_65 : decode cX4_listAssumed 65 = .ok (.putfield 51, 3) := dz_181 (k_X4_listAssumed 1 1 rfl) (k_X4_listAssumed 1 2 rfl) (k_X4_listAssumed 1 3 rfl) rfl
theorem dX4_listAssumed_68 : decode cX4_listAssumed 68 = .ok (.return_, 1) := dz_177 (k_X4_listAssumed 1 4 rfl)
def B_X4_listIfSteps : List (List Nat) := [[28, 2, 159, 0, 8, 29, 2, 160, 0, 4, 177, 42, 16, 7, 29, 28, 27, 2, 182, 0, 101, 42, 28, 182, 0, 98, 54, 4, 21, 4, 2, 159, 0, 14, 42, 16, 10, 27, 29, 21, 4, 2, 182, 0, 101, 177]]
theorem k_X4_listIfSteps (j i : Nat) {b : Nat} (h : (B_X4_listIfSteps[j]?.bind fun c => c[i]?) = some b) : s_by cX4_listIfSteps (64 * j + i) b := s_byC (L := B_X4_listIfSteps) (by decide +kernel) (by decide +kernel) j i h
theorem dX4_listIfSteps_0 : decode cX4_listIfSteps 0 = .ok (.iload_n 2, 1) := dz_28 (k_X4_listIfSteps 0 0 rfl)
theorem dX4_listIfSteps_1 : decode cX4_listIfSteps 1 = .ok (.iconst (-1), 1) := dz_2 (k_X4_listIfSteps 0 1 rfl)
theorem dX4_listIfSteps_2 : decode cX4_listIfSteps 2 = .ok (.if_icmp .eq 8, 3) := dz_159 (k_X4_listIfSteps 0 2 rfl) (k_X4_listIfSteps 0 3 rfl) (k_X4_listIfSteps 0 4 rfl) rfl
theorem dX4_listIfSteps_5 : decode cX4_listIfSteps 5 = .ok (.iload_n 3, 1) := dz_29 (k_X4_listIfSteps 0 5 rfl)
theorem dX4_listIfSteps_6 : decode cX4_listIfSteps 6 = .ok (.iconst (-1), 1) := dz_2 (k_X4_listIfSteps 0 6 rfl)
theorem dX4_listIfSteps_7 : decode cX4_listIfSteps 7 = .ok (.if_icmp .ne 4, 3) := dz_160 (k_X4_listIfSteps 0 7 rfl) (k_X4_listIfSteps 0 8 rfl) (k_X4_listIfSteps 0 9 rfl) rfl
theorem dX4_listIfSteps_10 : decode cX4_listIfSteps 10 = .ok (.return_, 1) := dz_177 (k_X4_listIfSteps 0 10 rfl)
theorem dX4_listIfSteps_11 : decode cX4_listIfSteps 11 = .ok (.aload_n 0, 1) := dz_42 (k_X4_listIfSteps 0 11 rfl)
theorem dX4_listIfSteps_12 : decode cX4_listIfSteps 12 = .ok (.bipush 7, 2) := dz_16 (k_X4_listIfSteps 0 12 rfl) (k_X4_listIfSteps 0 13 rfl) rfl
theorem dX4_listIfSteps_14 : decode cX4_listIfSteps 14 = .ok (.iload_n 3, 1) := dz_29 (k_X4_listIfSteps 0 14 rfl)
theorem dX4_listIfSteps_15 : decode cX4_listIfSteps 15 = .ok (.iload_n 2, 1) := dz_28 (k_X4_listIfSteps 0 15 rfl)
theorem dX4_listIfSteps_16 : decode cX4_listIfSteps 16 = .ok (.iload_n 1, 1) := dz_27 (k_X4_listIfSteps 0 16 rfl)
theorem dX4_listIfSteps_17 : decode cX4_listIfSteps 17 = .ok (.iconst (-1), 1) := dz_2 (k_X4_listIfSteps 0 17 rfl)
theorem dX4_listIfSteps_18 : decode cX4_listIfSteps 18 = .ok (.invokevirtual 101, 3) := dz_182 (k_X4_listIfSteps 0 18 rfl) (k_X4_listIfSteps 0 19 rfl) (k_X4_listIfSteps 0 20 rfl) rfl
theorem dX4_listIfSteps_21 : decode cX4_listIfSteps 21 = .ok (.aload_n 0, 1) := dz_42 (k_X4_listIfSteps 0 21 rfl)
theorem dX4_listIfSteps_22 : decode cX4_listIfSteps 22 = .ok (.iload_n 2, 1) := dz_28 (k_X4_listIfSteps 0 22 rfl)
theorem dX4_listIfSteps_23 : decode cX4_listIfSteps 23 = .ok (.invokevirtual 98, 3) := dz_182 (k_X4_listIfSteps 0 23 rfl) (k_X4_listIfSteps 0 24 rfl) (k_X4_listIfSteps 0 25 rfl) rfl
theorem dX4_listIfSteps_26 : decode cX4_listIfSteps 26 = .ok (.istore 4, 2) := dz_54 (k_X4_listIfSteps 0 26 rfl) (k_X4_listIfSteps 0 27 rfl)
theorem dX4_listIfSteps_28 : decode cX4_listIfSteps 28 = .ok (.iload 4, 2) := dz_21 (k_X4_listIfSteps 0 28 rfl) (k_X4_listIfSteps 0 29 rfl)
theorem dX4_listIfSteps_30 : decode cX4_listIfSteps 30 = .ok (.iconst (-1), 1) := dz_2 (k_X4_listIfSteps 0 30 rfl)
theorem dX4_listIfSteps_31 : decode cX4_listIfSteps 31 = .ok (.if_icmp .eq 14, 3) := dz_159 (k_X4_listIfSteps 0 31 rfl) (k_X4_listIfSteps 0 32 rfl) (k_X4_listIfSteps 0 33 rfl) rfl
theorem dX4_listIfSteps_34 : decode cX4_listIfSteps 34 = .ok (.aload_n 0, 1) := dz_42 (k_X4_listIfSteps 0 34 rfl)
theorem dX4_listIfSteps_35 : decode cX4_listIfSteps 35 = .ok (.bipush 10, 2) := dz_16 (k_X4_listIfSteps 0 35 rfl) (k_X4_listIfSteps 0 36 rfl) rfl
theorem dX4_listIfSteps_37 : decode cX4_listIfSteps 37 = .ok (.iload_n 1, 1) := dz_27 (k_X4_listIfSteps 0 37 rfl)
theorem dX4_listIfSteps_38 : decode cX4_listIfSteps 38 = .ok (.iload_n 3, 1) := dz_29 (k_X4_listIfSteps 0 38 rfl)
theorem dX4_listIfSteps_39 : decode cX4_listIfSteps 39 = .ok (.iload 4, 2) := dz_21 (k_X4_listIfSteps 0 39 rfl) (k_X4_listIfSteps 0 40 rfl)
theorem dX4_listIfSteps_41 : decode cX4_listIfSteps 41 = .ok (.iconst (-1), 1) := dz_2 (k_X4_listIfSteps 0 41 rfl)
theorem dX4_listIfSteps_42 : decode cX4_listIfSteps 42 = .ok (.invokevirtual 101, 3) := dz_182 (k_X4_listIfSteps 0 42 rfl) (k_X4_listIfSteps 0 43 rfl) (k_X4_listIfSteps 0 44 rfl) rfl
theorem dX4_listIfSteps_45 : decode cX4_listIfSteps 45 = .ok (.return_, 1) := dz_177 (k_X4_listIfSteps 0 45 rfl)
def B_X4_listOrSteps : List (List Nat) := [[28, 2, 159, 0, 12, 42, 8, 27, 28, 2, 2, 182, 0, 101, 29, 2, 159, 0, 13, 42, 16, 6, 27, 29, 2, 2, 182, 0, 101, 42, 180, 0, 30, 42, 180, 0, 11, 27, 46, 182, 0, 92, 54, 4, 42, 180, 0, 30, 42, 180, 0, 11, 27, 46, 182, 0, 95, 54, 5, 3, 54, 6, 21, 6], [42, 180, 0, 48, 162, 0, 89, 42, 180, 0, 11, 21, 6, 46, 54, 7, 42, 180, 0, 30, 21, 7, 182, 0, 82, 7, 160, 0, 61, 42, 180, 0, 30, 21, 7, 182, 0, 92, 21, 4, 160, 0, 47, 42, 180, 0, 30, 21, 7, 182, 0, 95, 54, 8, 42, 21, 5, 21, 8, 182, 0, 121, 54, 9], [21, 9, 2, 159, 0, 20, 42, 16, 9, 42, 21, 8, 182, 0, 74, 27, 21, 6, 21, 9, 182, 0, 101, 132, 6, 1, 167, 255, 164, 177]]
theorem k_X4_listOrSteps (j i : Nat) {b : Nat} (h : (B_X4_listOrSteps[j]?.bind fun c => c[i]?) = some b) : s_by cX4_listOrSteps (64 * j + i) b := s_byC (L := B_X4_listOrSteps) (by decide +kernel) (by decide +kernel) j i h
theorem dX4_listOrSteps_0 : decode cX4_listOrSteps 0 = .ok (.iload_n 2, 1) := dz_28 (k_X4_listOrSteps 0 0 rfl)
theorem dX4_listOrSteps_1 : decode cX4_listOrSteps 1 = .ok (.iconst (-1), 1) := dz_2 (k_X4_listOrSteps 0 1 rfl)
theorem dX4_listOrSteps_2 : decode cX4_listOrSteps 2 = .ok (.if_icmp .eq 12, 3) := dz_159 (k_X4_listOrSteps 0 2 rfl) (k_X4_listOrSteps 0 3 rfl) (k_X4_listOrSteps 0 4 rfl) rfl
theorem dX4_listOrSteps_5 : decode cX4_listOrSteps 5 = .ok (.aload_n 0, 1) := dz_42 (k_X4_listOrSteps 0 5 rfl)
theorem dX4_listOrSteps_6 : decode cX4_listOrSteps 6 = .ok (.iconst 5, 1) := dz_8 (k_X4_listOrSteps 0 6 rfl)
theorem dX4_listOrSteps_7 : decode cX4_listOrSteps 7 = .ok (.iload_n 1, 1) := dz_27 (k_X4_listOrSteps 0 7 rfl)
theorem dX4_listOrSteps_8 : decode cX4_listOrSteps 8 = .ok (.iload_n 2, 1) := dz_28 (k_X4_listOrSteps 0 8 rfl)
theorem dX4_listOrSteps_9 : decode cX4_listOrSteps 9 = .ok (.iconst (-1), 1) := dz_2 (k_X4_listOrSteps 0 9 rfl)
theorem dX4_listOrSteps_10 : decode cX4_listOrSteps 10 = .ok (.iconst (-1), 1) := dz_2 (k_X4_listOrSteps 0 10 rfl)
theorem dX4_listOrSteps_11 : decode cX4_listOrSteps 11 = .ok (.invokevirtual 101, 3) := dz_182 (k_X4_listOrSteps 0 11 rfl) (k_X4_listOrSteps 0 12 rfl) (k_X4_listOrSteps 0 13 rfl) rfl
theorem dX4_listOrSteps_14 : decode cX4_listOrSteps 14 = .ok (.iload_n 3, 1) := dz_29 (k_X4_listOrSteps 0 14 rfl)
theorem dX4_listOrSteps_15 : decode cX4_listOrSteps 15 = .ok (.iconst (-1), 1) := dz_2 (k_X4_listOrSteps 0 15 rfl)
theorem dX4_listOrSteps_16 : decode cX4_listOrSteps 16 = .ok (.if_icmp .eq 13, 3) := dz_159 (k_X4_listOrSteps 0 16 rfl) (k_X4_listOrSteps 0 17 rfl) (k_X4_listOrSteps 0 18 rfl) rfl
theorem dX4_listOrSteps_19 : decode cX4_listOrSteps 19 = .ok (.aload_n 0, 1) := dz_42 (k_X4_listOrSteps 0 19 rfl)
theorem dX4_listOrSteps_20 : decode cX4_listOrSteps 20 = .ok (.bipush 6, 2) := dz_16 (k_X4_listOrSteps 0 20 rfl) (k_X4_listOrSteps 0 21 rfl) rfl
theorem dX4_listOrSteps_22 : decode cX4_listOrSteps 22 = .ok (.iload_n 1, 1) := dz_27 (k_X4_listOrSteps 0 22 rfl)
theorem dX4_listOrSteps_23 : decode cX4_listOrSteps 23 = .ok (.iload_n 3, 1) := dz_29 (k_X4_listOrSteps 0 23 rfl)
theorem dX4_listOrSteps_24 : decode cX4_listOrSteps 24 = .ok (.iconst (-1), 1) := dz_2 (k_X4_listOrSteps 0 24 rfl)
theorem dX4_listOrSteps_25 : decode cX4_listOrSteps 25 = .ok (.iconst (-1), 1) := dz_2 (k_X4_listOrSteps 0 25 rfl)
theorem dX4_listOrSteps_26 : decode cX4_listOrSteps 26 = .ok (.invokevirtual 101, 3) := dz_182 (k_X4_listOrSteps 0 26 rfl) (k_X4_listOrSteps 0 27 rfl) (k_X4_listOrSteps 0 28 rfl) rfl
theorem dX4_listOrSteps_29 : decode cX4_listOrSteps 29 = .ok (.aload_n 0, 1) := dz_42 (k_X4_listOrSteps 0 29 rfl)
theorem dX4_listOrSteps_30 : decode cX4_listOrSteps 30 = .ok (.getfield 30, 3) := dz_180 (k_X4_listOrSteps 0 30 rfl) (k_X4_listOrSteps 0 31 rfl) (k_X4_listOrSteps 0 32 rfl) rfl
theorem dX4_listOrSteps_33 : decode cX4_listOrSteps 33 = .ok (.aload_n 0, 1) := dz_42 (k_X4_listOrSteps 0 33 rfl)
theorem dX4_listOrSteps_34 : decode cX4_listOrSteps 34 = .ok (.getfield 11, 3) := dz_180 (k_X4_listOrSteps 0 34 rfl) (k_X4_listOrSteps 0 35 rfl) (k_X4_listOrSteps 0 36 rfl) rfl
theorem dX4_listOrSteps_37 : decode cX4_listOrSteps 37 = .ok (.iload_n 1, 1) := dz_27 (k_X4_listOrSteps 0 37 rfl)
theorem dX4_listOrSteps_38 : decode cX4_listOrSteps 38 = .ok (.iaload, 1) := dz_46 (k_X4_listOrSteps 0 38 rfl)
theorem dX4_listOrSteps_39 : decode cX4_listOrSteps 39 = .ok (.invokevirtual 92, 3) := dz_182 (k_X4_listOrSteps 0 39 rfl) (k_X4_listOrSteps 0 40 rfl) (k_X4_listOrSteps 0 41 rfl) rfl
theorem dX4_listOrSteps_42 : decode cX4_listOrSteps 42 = .ok (.istore 4, 2) := dz_54 (k_X4_listOrSteps 0 42 rfl) (k_X4_listOrSteps 0 43 rfl)
theorem dX4_listOrSteps_44 : decode cX4_listOrSteps 44 = .ok (.aload_n 0, 1) := dz_42 (k_X4_listOrSteps 0 44 rfl)
theorem dX4_listOrSteps_45 : decode cX4_listOrSteps 45 = .ok (.getfield 30, 3) := dz_180 (k_X4_listOrSteps 0 45 rfl) (k_X4_listOrSteps 0 46 rfl) (k_X4_listOrSteps 0 47 rfl) rfl
theorem dX4_listOrSteps_48 : decode cX4_listOrSteps 48 = .ok (.aload_n 0, 1) := dz_42 (k_X4_listOrSteps 0 48 rfl)
theorem dX4_listOrSteps_49 : decode cX4_listOrSteps 49 = .ok (.getfield 11, 3) := dz_180 (k_X4_listOrSteps 0 49 rfl) (k_X4_listOrSteps 0 50 rfl) (k_X4_listOrSteps 0 51 rfl) rfl
theorem dX4_listOrSteps_52 : decode cX4_listOrSteps 52 = .ok (.iload_n 1, 1) := dz_27 (k_X4_listOrSteps 0 52 rfl)
theorem dX4_listOrSteps_53 : decode cX4_listOrSteps 53 = .ok (.iaload, 1) := dz_46 (k_X4_listOrSteps 0 53 rfl)
theorem dX4_listOrSteps_54 : decode cX4_listOrSteps 54 = .ok (.invokevirtual 95, 3) := dz_182 (k_X4_listOrSteps 0 54 rfl) (k_X4_listOrSteps 0 55 rfl) (k_X4_listOrSteps 0 56 rfl) rfl
theorem dX4_listOrSteps_57 : decode cX4_listOrSteps 57 = .ok (.istore 5, 2) := dz_54 (k_X4_listOrSteps 0 57 rfl) (k_X4_listOrSteps 0 58 rfl)
theorem dX4_listOrSteps_59 : decode cX4_listOrSteps 59 = .ok (.iconst 0, 1) := dz_3 (k_X4_listOrSteps 0 59 rfl)
theorem dX4_listOrSteps_60 : decode cX4_listOrSteps 60 = .ok (.istore 6, 2) := dz_54 (k_X4_listOrSteps 0 60 rfl) (k_X4_listOrSteps 0 61 rfl)
theorem dX4_listOrSteps_62 : decode cX4_listOrSteps 62 = .ok (.iload 6, 2) := dz_21 (k_X4_listOrSteps 0 62 rfl) (k_X4_listOrSteps 0 63 rfl)
theorem dX4_listOrSteps_64 : decode cX4_listOrSteps 64 = .ok (.aload_n 0, 1) := dz_42 (k_X4_listOrSteps 1 0 rfl)
theorem dX4_listOrSteps_65 : decode cX4_listOrSteps 65 = .ok (.getfield 48, 3) := dz_180 (k_X4_listOrSteps 1 1 rfl) (k_X4_listOrSteps 1 2 rfl) (k_X4_listOrSteps 1 3 rfl) rfl
theorem dX4_listOrSteps_68 : decode cX4_listOrSteps 68 = .ok (.if_icmp .ge 89, 3) := dz_162 (k_X4_listOrSteps 1 4 rfl) (k_X4_listOrSteps 1 5 rfl) (k_X4_listOrSteps 1 6 rfl) rfl
theorem dX4_listOrSteps_71 : decode cX4_listOrSteps 71 = .ok (.aload_n 0, 1) := dz_42 (k_X4_listOrSteps 1 7 rfl)
theorem dX4_listOrSteps_72 : decode cX4_listOrSteps 72 = .ok (.getfield 11, 3) := dz_180 (k_X4_listOrSteps 1 8 rfl) (k_X4_listOrSteps 1 9 rfl) (k_X4_listOrSteps 1 10 rfl) rfl
theorem dX4_listOrSteps_75 : decode cX4_listOrSteps 75 = .ok (.iload 6, 2) := dz_21 (k_X4_listOrSteps 1 11 rfl) (k_X4_listOrSteps 1 12 rfl)
theorem dX4_listOrSteps_77 : decode cX4_listOrSteps 77 = .ok (.iaload, 1) := dz_46 (k_X4_listOrSteps 1 13 rfl)
theorem dX4_listOrSteps_78 : decode cX4_listOrSteps 78 = .ok (.istore 7, 2) := dz_54 (k_X4_listOrSteps 1 14 rfl) (k_X4_listOrSteps 1 15 rfl)
theorem dX4_listOrSteps_80 : decode cX4_listOrSteps 80 = .ok (.aload_n 0, 1) := dz_42 (k_X4_listOrSteps 1 16 rfl)
theorem dX4_listOrSteps_81 : decode cX4_listOrSteps 81 = .ok (.getfield 30, 3) := dz_180 (k_X4_listOrSteps 1 17 rfl) (k_X4_listOrSteps 1 18 rfl) (k_X4_listOrSteps 1 19 rfl) rfl
theorem dX4_listOrSteps_84 : decode cX4_listOrSteps 84 = .ok (.iload 7, 2) := dz_21 (k_X4_listOrSteps 1 20 rfl) (k_X4_listOrSteps 1 21 rfl)
theorem dX4_listOrSteps_86 : decode cX4_listOrSteps 86 = .ok (.invokevirtual 82, 3) := dz_182 (k_X4_listOrSteps 1 22 rfl) (k_X4_listOrSteps 1 23 rfl) (k_X4_listOrSteps 1 24 rfl) rfl
theorem dX4_listOrSteps_89 : decode cX4_listOrSteps 89 = .ok (.iconst 4, 1) := dz_7 (k_X4_listOrSteps 1 25 rfl)
theorem dX4_listOrSteps_90 : decode cX4_listOrSteps 90 = .ok (.if_icmp .ne 61, 3) := dz_160 (k_X4_listOrSteps 1 26 rfl) (k_X4_listOrSteps 1 27 rfl) (k_X4_listOrSteps 1 28 rfl) rfl
theorem dX4_listOrSteps_93 : decode cX4_listOrSteps 93 = .ok (.aload_n 0, 1) := dz_42 (k_X4_listOrSteps 1 29 rfl)
theorem dX4_listOrSteps_94 : decode cX4_listOrSteps 94 = .ok (.getfield 30, 3) := dz_180 (k_X4_listOrSteps 1 30 rfl) (k_X4_listOrSteps 1 31 rfl) (k_X4_listOrSteps 1 32 rfl) rfl
theorem dX4_listOrSteps_97 : decode cX4_listOrSteps 97 = .ok (.iload 7, 2) := dz_21 (k_X4_listOrSteps 1 33 rfl) (k_X4_listOrSteps 1 34 rfl)
theorem dX4_listOrSteps_99 : decode cX4_listOrSteps 99 = .ok (.invokevirtual 92, 3) := dz_182 (k_X4_listOrSteps 1 35 rfl) (k_X4_listOrSteps 1 36 rfl) (k_X4_listOrSteps 1 37 rfl) rfl
theorem dX4_listOrSteps_102 : decode cX4_listOrSteps 102 = .ok (.iload 4, 2) := dz_21 (k_X4_listOrSteps 1 38 rfl) (k_X4_listOrSteps 1 39 rfl)
theorem dX4_listOrSteps_104 : decode cX4_listOrSteps 104 = .ok (.if_icmp .ne 47, 3) := dz_160 (k_X4_listOrSteps 1 40 rfl) (k_X4_listOrSteps 1 41 rfl) (k_X4_listOrSteps 1 42 rfl) rfl
theorem dX4_listOrSteps_107 : decode cX4_listOrSteps 107 = .ok (.aload_n 0, 1) := dz_42 (k_X4_listOrSteps 1 43 rfl)
theorem dX4_listOrSteps_108 : decode cX4_listOrSteps 108 = .ok (.getfield 30, 3) := dz_180 (k_X4_listOrSteps 1 44 rfl) (k_X4_listOrSteps 1 45 rfl) (k_X4_listOrSteps 1 46 rfl) rfl
theorem dX4_listOrSteps_111 : decode cX4_listOrSteps 111 = .ok (.iload 7, 2) := dz_21 (k_X4_listOrSteps 1 47 rfl) (k_X4_listOrSteps 1 48 rfl)
theorem dX4_listOrSteps_113 : decode cX4_listOrSteps 113 = .ok (.invokevirtual 95, 3) := dz_182 (k_X4_listOrSteps 1 49 rfl) (k_X4_listOrSteps 1 50 rfl) (k_X4_listOrSteps 1 51 rfl) rfl
theorem dX4_listOrSteps_116 : decode cX4_listOrSteps 116 = .ok (.istore 8, 2) := dz_54 (k_X4_listOrSteps 1 52 rfl) (k_X4_listOrSteps 1 53 rfl)
theorem dX4_listOrSteps_118 : decode cX4_listOrSteps 118 = .ok (.aload_n 0, 1) := dz_42 (k_X4_listOrSteps 1 54 rfl)
theorem dX4_listOrSteps_119 : decode cX4_listOrSteps 119 = .ok (.iload 5, 2) := dz_21 (k_X4_listOrSteps 1 55 rfl) (k_X4_listOrSteps 1 56 rfl)
theorem dX4_listOrSteps_121 : decode cX4_listOrSteps 121 = .ok (.iload 8, 2) := dz_21 (k_X4_listOrSteps 1 57 rfl) (k_X4_listOrSteps 1 58 rfl)
theorem dX4_listOrSteps_123 : decode cX4_listOrSteps 123 = .ok (.invokevirtual 121, 3) := dz_182 (k_X4_listOrSteps 1 59 rfl) (k_X4_listOrSteps 1 60 rfl) (k_X4_listOrSteps 1 61 rfl) rfl
theorem dX4_listOrSteps_126 : decode cX4_listOrSteps 126 = .ok (.istore 9, 2) := dz_54 (k_X4_listOrSteps 1 62 rfl) (k_X4_listOrSteps 1 63 rfl)
theorem dX4_listOrSteps_128 : decode cX4_listOrSteps 128 = .ok (.iload 9, 2) := dz_21 (k_X4_listOrSteps 2 0 rfl) (k_X4_listOrSteps 2 1 rfl)
theorem dX4_listOrSteps_130 : decode cX4_listOrSteps 130 = .ok (.iconst (-1), 1) := dz_2 (k_X4_listOrSteps 2 2 rfl)
theorem dX4_listOrSteps_131 : decode cX4_listOrSteps 131 = .ok (.if_icmp .eq 20, 3) := dz_159 (k_X4_listOrSteps 2 3 rfl) (k_X4_listOrSteps 2 4 rfl) (k_X4_listOrSteps 2 5 rfl) rfl
theorem dX4_listOrSteps_134 : decode cX4_listOrSteps 134 = .ok (.aload_n 0, 1) := dz_42 (k_X4_listOrSteps 2 6 rfl)
theorem dX4_listOrSteps_135 : decode cX4_listOrSteps 135 = .ok (.bipush 9, 2) := dz_16 (k_X4_listOrSteps 2 7 rfl) (k_X4_listOrSteps 2 8 rfl) rfl
theorem dX4_listOrSteps_137 : decode cX4_listOrSteps 137 = .ok (.aload_n 0, 1) := dz_42 (k_X4_listOrSteps 2 9 rfl)
theorem dX4_listOrSteps_138 : decode cX4_listOrSteps 138 = .ok (.iload 8, 2) := dz_21 (k_X4_listOrSteps 2 10 rfl) (k_X4_listOrSteps 2 11 rfl)
theorem dX4_listOrSteps_140 : decode cX4_listOrSteps 140 = .ok (.invokevirtual 74, 3) := dz_182 (k_X4_listOrSteps 2 12 rfl) (k_X4_listOrSteps 2 13 rfl) (k_X4_listOrSteps 2 14 rfl) rfl
theorem dX4_listOrSteps_143 : decode cX4_listOrSteps 143 = .ok (.iload_n 1, 1) := dz_27 (k_X4_listOrSteps 2 15 rfl)
theorem dX4_listOrSteps_144 : decode cX4_listOrSteps 144 = .ok (.iload 6, 2) := dz_21 (k_X4_listOrSteps 2 16 rfl) (k_X4_listOrSteps 2 17 rfl)
theorem dX4_listOrSteps_146 : decode cX4_listOrSteps 146 = .ok (.iload 9, 2) := dz_21 (k_X4_listOrSteps 2 18 rfl) (k_X4_listOrSteps 2 19 rfl)
theorem dX4_listOrSteps_148 : decode cX4_listOrSteps 148 = .ok (.invokevirtual 101, 3) := dz_182 (k_X4_listOrSteps 2 20 rfl) (k_X4_listOrSteps 2 21 rfl) (k_X4_listOrSteps 2 22 rfl) rfl
theorem dX4_listOrSteps_151 : decode cX4_listOrSteps 151 = .ok (.iinc 6 1, 3) := dz_132 (k_X4_listOrSteps 2 23 rfl) (k_X4_listOrSteps 2 24 rfl) (k_X4_listOrSteps 2 25 rfl) rfl
theorem dX4_listOrSteps_154 : decode cX4_listOrSteps 154 = .ok (.goto (-92), 3) := dz_167 (k_X4_listOrSteps 2 26 rfl) (k_X4_listOrSteps 2 27 rfl) (k_X4_listOrSteps 2 28 rfl) rfl
theorem dX4_listOrSteps_157 : decode cX4_listOrSteps 157 = .ok (.return_, 1) := dz_177 (k_X4_listOrSteps 2 29 rfl)
def B_X4_listSomeSteps : List (List Nat) := [[3, 61, 28, 42, 180, 0, 34, 180, 0, 85, 162, 0, 43, 42, 42, 180, 0, 30, 42, 180, 0, 11, 27, 46, 28, 182, 0, 88, 182, 0, 74, 62, 29, 2, 159, 0, 13, 42, 16, 13, 27, 29, 2, 2, 182, 0, 101, 132, 2, 1, 167, 255, 208, 177]]
theorem k_X4_listSomeSteps (j i : Nat) {b : Nat} (h : (B_X4_listSomeSteps[j]?.bind fun c => c[i]?) = some b) : s_by cX4_listSomeSteps (64 * j + i) b := s_byC (L := B_X4_listSomeSteps) (by decide +kernel) (by decide +kernel) j i h
theorem dX4_listSomeSteps_0 : decode cX4_listSomeSteps 0 = .ok (.iconst 0, 1) := dz_3 (k_X4_listSomeSteps 0 0 rfl)
theorem dX4_listSomeSteps_1 : decode cX4_listSomeSteps 1 = .ok (.istore_n 2, 1) := dz_61 (k_X4_listSomeSteps 0 1 rfl)
theorem dX4_listSomeSteps_2 : decode cX4_listSomeSteps 2 = .ok (.iload_n 2, 1) := dz_28 (k_X4_listSomeSteps 0 2 rfl)
theorem dX4_listSomeSteps_3 : decode cX4_listSomeSteps 3 = .ok (.aload_n 0, 1) := dz_42 (k_X4_listSomeSteps 0 3 rfl)
theorem dX4_listSomeSteps_4 : decode cX4_listSomeSteps 4 = .ok (.getfield 34, 3) := dz_180 (k_X4_listSomeSteps 0 4 rfl) (k_X4_listSomeSteps 0 5 rfl) (k_X4_listSomeSteps 0 6 rfl) rfl
theorem dX4_listSomeSteps_7 : decode cX4_listSomeSteps 7 = .ok (.getfield 85, 3) := dz_180 (k_X4_listSomeSteps 0 7 rfl) (k_X4_listSomeSteps 0 8 rfl) (k_X4_listSomeSteps 0 9 rfl) rfl
theorem dX4_listSomeSteps_10 : decode cX4_listSomeSteps 10 = .ok (.if_icmp .ge 43, 3) := dz_162 (k_X4_listSomeSteps 0 10 rfl) (k_X4_listSomeSteps 0 11 rfl) (k_X4_listSomeSteps 0 12 rfl) rfl
theorem dX4_listSomeSteps_13 : decode cX4_listSomeSteps 13 = .ok (.aload_n 0, 1) := dz_42 (k_X4_listSomeSteps 0 13 rfl)
theorem dX4_listSomeSteps_14 : decode cX4_listSomeSteps 14 = .ok (.aload_n 0, 1) := dz_42 (k_X4_listSomeSteps 0 14 rfl)
theorem dX4_listSomeSteps_15 : decode cX4_listSomeSteps 15 = .ok (.getfield 30, 3) := dz_180 (k_X4_listSomeSteps 0 15 rfl) (k_X4_listSomeSteps 0 16 rfl) (k_X4_listSomeSteps 0 17 rfl) rfl
theorem dX4_listSomeSteps_18 : decode cX4_listSomeSteps 18 = .ok (.aload_n 0, 1) := dz_42 (k_X4_listSomeSteps 0 18 rfl)
theorem dX4_listSomeSteps_19 : decode cX4_listSomeSteps 19 = .ok (.getfield 11, 3) := dz_180 (k_X4_listSomeSteps 0 19 rfl) (k_X4_listSomeSteps 0 20 rfl) (k_X4_listSomeSteps 0 21 rfl) rfl
theorem dX4_listSomeSteps_22 : decode cX4_listSomeSteps 22 = .ok (.iload_n 1, 1) := dz_27 (k_X4_listSomeSteps 0 22 rfl)
theorem dX4_listSomeSteps_23 : decode cX4_listSomeSteps 23 = .ok (.iaload, 1) := dz_46 (k_X4_listSomeSteps 0 23 rfl)
theorem dX4_listSomeSteps_24 : decode cX4_listSomeSteps 24 = .ok (.iload_n 2, 1) := dz_28 (k_X4_listSomeSteps 0 24 rfl)
theorem dX4_listSomeSteps_25 : decode cX4_listSomeSteps 25 = .ok (.invokevirtual 88, 3) := dz_182 (k_X4_listSomeSteps 0 25 rfl) (k_X4_listSomeSteps 0 26 rfl) (k_X4_listSomeSteps 0 27 rfl) rfl
theorem dX4_listSomeSteps_28 : decode cX4_listSomeSteps 28 = .ok (.invokevirtual 74, 3) := dz_182 (k_X4_listSomeSteps 0 28 rfl) (k_X4_listSomeSteps 0 29 rfl) (k_X4_listSomeSteps 0 30 rfl) rfl
theorem dX4_listSomeSteps_31 : decode cX4_listSomeSteps 31 = .ok (.istore_n 3, 1) := dz_62 (k_X4_listSomeSteps 0 31 rfl)
theorem dX4_listSomeSteps_32 : decode cX4_listSomeSteps 32 = .ok (.iload_n 3, 1) := dz_29 (k_X4_listSomeSteps 0 32 rfl)
theorem dX4_listSomeSteps_33 : decode cX4_listSomeSteps 33 = .ok (.iconst (-1), 1) := dz_2 (k_X4_listSomeSteps 0 33 rfl)
theorem dX4_listSomeSteps_34 : decode cX4_listSomeSteps 34 = .ok (.if_icmp .eq 13, 3) := dz_159 (k_X4_listSomeSteps 0 34 rfl) (k_X4_listSomeSteps 0 35 rfl) (k_X4_listSomeSteps 0 36 rfl) rfl
theorem dX4_listSomeSteps_37 : decode cX4_listSomeSteps 37 = .ok (.aload_n 0, 1) := dz_42 (k_X4_listSomeSteps 0 37 rfl)
theorem dX4_listSomeSteps_38 : decode cX4_listSomeSteps 38 = .ok (.bipush 13, 2) := dz_16 (k_X4_listSomeSteps 0 38 rfl) (k_X4_listSomeSteps 0 39 rfl) rfl
theorem dX4_listSomeSteps_40 : decode cX4_listSomeSteps 40 = .ok (.iload_n 1, 1) := dz_27 (k_X4_listSomeSteps 0 40 rfl)
theorem dX4_listSomeSteps_41 : decode cX4_listSomeSteps 41 = .ok (.iload_n 3, 1) := dz_29 (k_X4_listSomeSteps 0 41 rfl)
theorem dX4_listSomeSteps_42 : decode cX4_listSomeSteps 42 = .ok (.iconst (-1), 1) := dz_2 (k_X4_listSomeSteps 0 42 rfl)
theorem dX4_listSomeSteps_43 : decode cX4_listSomeSteps 43 = .ok (.iconst (-1), 1) := dz_2 (k_X4_listSomeSteps 0 43 rfl)
theorem dX4_listSomeSteps_44 : decode cX4_listSomeSteps 44 = .ok (.invokevirtual 101, 3) := dz_182 (k_X4_listSomeSteps 0 44 rfl) (k_X4_listSomeSteps 0 45 rfl) (k_X4_listSomeSteps 0 46 rfl) rfl
theorem dX4_listSomeSteps_47 : decode cX4_listSomeSteps 47 = .ok (.iinc 2 1, 3) := dz_132 (k_X4_listSomeSteps 0 47 rfl) (k_X4_listSomeSteps 0 48 rfl) (k_X4_listSomeSteps 0 49 rfl) rfl
theorem dX4_listSomeSteps_50 : decode cX4_listSomeSteps 50 = .ok (.goto (-48), 3) := dz_167 (k_X4_listSomeSteps 0 50 rfl) (k_X4_listSomeSteps 0 51 rfl) (k_X4_listSomeSteps 0 52 rfl) rfl
theorem dX4_listSomeSteps_53 : decode cX4_listSomeSteps 53 = .ok (.return_, 1) := dz_177 (k_X4_listSomeSteps 0 53 rfl)
